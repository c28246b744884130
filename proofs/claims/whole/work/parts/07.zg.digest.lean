/-! PURE: digest, years -/
def m31 (h : Int64) (v : Int32) : Int64 := (31 : Int64) * h + v.toInt64
def dgA (S : ST) : Nat → Int64
  | 0 => 1487
  | n + 1 => m31 (dgA S n) (cntT S n)
def dgB (T : Nat → Int32) (d : Int64) : Nat → Int64
  | 0 => d
  | s + 1 => m31 (m31 (m31 (m31 (dgB T d s) (T (30 + s))) (T (14 + s))) (T (35 + s))) (T (25 + s))
def dgC (T : Nat → Int32) (d : Int64) : Nat → Int64
  | 0 => d
  | w + 1 => m31 (m31 (m31 (dgC T d w) (T (40 + w))) (T (19 + w))) (T (6 + w))
def dgD (T : Nat → Int32) (d : Int64) (b : Nat) : Nat → Int64
  | 0 => d
  | k + 1 => m31 (dgD T d b k) (T (b + k))
theorem c_mixI {h : AH} {T : Nat → Int32} {i j : Nat} {d : Int64} (hi : i < 3) (hR : ShR 1 i T h) (hj : j < tn T (2 + i)) (hj6 : j < 6) (k48 : Nat → Int32 → Int64 → Int32 → Option Int64) : fX6_mixInto_18 h k48 FU (76 + 2 * i) (nI (wd i)) (dgD T d (bs i) (wd i * j)) (nI j) (nI 0) = k48 (76 + 2 * i) (nI (wd i)) (dgD T d (bs i) (wd i * (j + 1))) (nI j) := by
  have hk : KD (76 + 2 * i) = 5 := by rcases (show i = 0 ∨ i = 1 ∨ i = 2 by omega) with rfl | rfl | rfl <;> rfl
  have hw5 : wd i ≤ 5 := by unfold wd; split <;> (try split) <;> omega
  refine run_loop (fun n (s : Int64 × Int32) => fX6_mixInto_18 h k48 n (76 + 2 * i) (nI (wd i)) s.1 (nI j) s.2) (fun c => (dgD T d (bs i) (wd i * j + c), nI c)) (wd i) _ (fun n c hc => ?_) (fun n => ?_) FU (FU_lt (by omega))
  · show fX6_mixInto_18 h k48 (n + 1) (76 + 2 * i) (nI (wd i)) (dgD T d (bs i) (wd i * j + c)) (nI j) (nI c) = fX6_mixInto_18 h k48 n (76 + 2 * i) (nI (wd i)) (dgD T d (bs i) (wd i * j + (c + 1))) (nI j) (nI (c + 1))
    have h2 := hR.2 j hj c hc
    rw [fX6_mixInto_18, if_neg (by rw [p_le (by omega) (by omega)]; omega), c_told hk (by omega), ob_s, oL_d, oL_d, p1, nI_add, show wd i * j + (c + 1) = wd i * j + c + 1 by omega, dgD, ← Nat.add_assoc (bs i), ← h2, show 1 + 76 + 2 * i = 76 + 2 * i + 1 by omega, show j * 5 + c = 5 * j + c by omega]
    rfl
  · show fX6_mixInto_18 h k48 (n + 1) (76 + 2 * i) (nI (wd i)) (dgD T d (bs i) (wd i * j + wd i)) (nI j) (nI (wd i)) = _
    rw [fX6_mixInto_18, if_pos (by rw [p_le (by omega) (by omega)]; exact Nat.le_refl _), Nat.mul_succ]
theorem c_mix {h : AH} {T : Nat → Int32} {i : Nat} {d : Int64} (hi : i < 3) (hR : ShR 1 i T h) (hn : T (2 + i) = nI (tn T (2 + i)) ∧ tn T (2 + i) ≤ 6) : fX6_mixInto (76 + 2 * i) d (nI (wd i)) h = some (dgD T d (bs i) (wd i * tn T (2 + i))) := by
  have e1 : hI h (76 + 2 * i) 1 = nI (tn T (2 + i)) := by rw [← hn.1, ← hR.1, show 1 + 75 + 2 * i = 76 + 2 * i by omega]
  unfold fX6_mixInto
  rw [p0]
  refine run_loop (fun n (s : Int64 × Int32) => fX6_mixInto_6 h n (76 + 2 * i) (nI (wd i)) s.1 s.2) (fun j => (dgD T d (bs i) (wd i * j), nI j)) (tn T (2 + i)) _ (fun n j hj => ?_) (fun n => ?_) FU (FU_lt (by omega))
  · show fX6_mixInto_6 h (n + 1) (76 + 2 * i) (nI (wd i)) (dgD T d (bs i) (wd i * j)) (nI j) = fX6_mixInto_6 h n (76 + 2 * i) (nI (wd i)) (dgD T d (bs i) (wd i * (j + 1))) (nI (j + 1))
    rw [fX6_mixInto_6, e1, if_neg (by rw [p_le (by omega) (by omega)]; omega), p0, c_mixI hi hR hj (by omega), oL_d, p1, nI_add]
  · show fX6_mixInto_6 h (n + 1) (76 + 2 * i) (nI (wd i)) (dgD T d (bs i) (wd i * tn T (2 + i))) (nI (tn T (2 + i))) = _
    rw [fX6_mixInto_6, e1, if_pos (by rw [p_le (by omega) (by omega)]; exact Nat.le_refl _)]
theorem m_sums {S : ST} {h : AH} (hM : MR S h) {d : Int64} {b n : Nat} (hb : b + n ≤ 304) : fX9_sums 262 d (nI b) (nI n) h = some (dgD (sT S) d b n) := by
  have hr := hM.1.2.2
  unfold fX9_sums
  rw [p0]
  refine run_loop (fun q (s : Int64 × Int32) => fX9_sums_6 h q 262 (nI b) (nI n) s.1 s.2) (fun j => (dgD (sT S) d b j, nI j)) n _ (fun q j hj => ?_) (fun q => ?_) FU (FU_lt (by omega))
  · show fX9_sums_6 h (q + 1) 262 (nI b) (nI n) (dgD (sT S) d b j) (nI j) = fX9_sums_6 h q 262 (nI b) (nI n) (dgD (sT S) d b (j + 1)) (nI (j + 1))
    rw [fX9_sums_6]
    simp (disch := omega) only [q20, q20s, p0, p1, p2, p3, p4, p5, p6, p7, p8, p9, p10, p11, p12, p14, p19, p23, p24, p25, p29, p30, p31, p35, p40, p46, p58, p60, p88, p99, p100, p112, p150, p9999, nI_add, nI_mul, ix_nI, p_sub, p_div, p_rem, p_shl, p_shr, p_and, p_or, inb_nI, p_le, if_neg, decide_eq_true, oG_t, oL_d, hr, dgD, m31]
  · show fX9_sums_6 h (q + 1) 262 (nI b) (nI n) (dgD (sT S) d b n) (nI n) = _
    rw [fX9_sums_6, if_pos (by rw [p_le (by omega) (by omega)]; exact Nat.le_refl _)]
def dgE (S : ST) : Int64 := (31 : Int64) * ((31 : Int64) * dgD (sT S) (dgD (sT S) (dgD (sT S) (dgC (sT S) (dgB (sT S) (dgA S 11) (tn (sT S) 0)) (tn (sT S) 1)) 46 (2 * tn (sT S) 2)) 58 (5 * tn (sT S) 3)) 88 (4 * tn (sT S) 4) + sA S) + sE S
theorem c_dg147 {S : ST} {h : AH} (hC : CR S h) (hW : WfS S) {d : Int64} : fX8_digest_147 h 0 d = some ((31 : Int64) * ((31 : Int64) * dgD (sT S) (dgD (sT S) (dgD (sT S) d 46 (2 * tn (sT S) 2)) 58 (5 * tn (sT S) 3)) 88 (4 * tn (sT S) 4) + sA S) + sE S) := by
  have w := wf_cnt hW.1
  have s0 := fun d => c_mix (i := 0) (d := d) (by omega) (hC.1.shR 0 (by omega)) w.2.2.1
  have s1 := fun d => c_mix (i := 1) (d := d) (by omega) (hC.1.shR 1 (by omega)) w.2.2.2.1
  have s2 := fun d => c_mix (i := 2) (d := d) (by omega) (hC.1.shR 2 (by omega)) w.2.2.2.2.1
  unfold fX8_digest_147
  rw [z00, z12, z13, z14]
  have s0' : ∀ d, fX6_mixInto 76 d (2 : Int32) h = some (dgD (sT S) d 46 (2 * tn (sT S) 2)) := s0
  have s1' : ∀ d, fX6_mixInto 78 d (5 : Int32) h = some (dgD (sT S) d 58 (5 * tn (sT S) 3)) := s1
  have s2' : ∀ d, fX6_mixInto 80 d (4 : Int32) h = some (dgD (sT S) d 88 (4 * tn (sT S) 4)) := s2
  rw [s0', ob_s, s1', ob_s, s2', ob_s, hC.2.2.2.2.2.2.1, hC.2.2.2.2.2.2.2.1]
theorem m_dg174 {S : ST} {h : AH} (hM : MR S h) (hW : WfS S) {d : Int64} : fX9_digest_174 h 262 d = some ((31 : Int64) * ((31 : Int64) * dgD (sT S) (dgD (sT S) (dgD (sT S) d 46 (2 * tn (sT S) 2)) 58 (5 * tn (sT S) 3)) 88 (4 * tn (sT S) 4) + sA S) + sE S) := by
  have w := wf_cnt hW.1
  have hr := hM.1.2.2
  have r2 := (hr 2 (by omega)).trans w.2.2.1.1
  have r3 := (hr 3 (by omega)).trans w.2.2.2.1.1
  have r4 := (hr 4 (by omega)).trans w.2.2.2.2.1.1
  have n2 := w.2.2.1.2
  have n3 := w.2.2.2.1.2
  have n4 := w.2.2.2.2.1.2
  have s0 := fun d => m_sums hM (d := d) (b := 46) (n := 2 * tn (sT S) 2) (by omega)
  have s1 := fun d => m_sums hM (d := d) (b := 58) (n := 5 * tn (sT S) 3) (by omega)
  have s2 := fun d => m_sums hM (d := d) (b := 88) (n := 4 * tn (sT S) 4) (by omega)
  unfold fX9_digest_174
  simp (disch := omega) only [q20, q20s, p0, p1, p2, p3, p4, p5, p6, p7, p8, p9, p10, p11, p12, p14, p19, p23, p24, p25, p29, p30, p31, p35, p40, p46, p58, p60, p88, p99, p100, p112, p150, p9999, nI_add, nI_mul, ix_nI, p_sub, p_div, p_rem, p_shl, p_shr, p_and, p_or, inb_nI, oG_d, oG_T, decide_true, oL_D, ob_S, ob2_S, r2, r3, r4, s0, s1, s2]
  rw [hM.2.2.2.2.1, hM.2.2.2.2.2.1]
theorem c_dg108 {S : ST} {h : AH} (hC : CR S h) (hW : WfS S) {d : Int64} {w : Nat} (hw : w < tn (sT S) 1) (k : Nat → Int64 → Int32 → Option Int64) : fX8_digest_108 h k FU 0 d (nI w) (nI 0) = k 0 (m31 (m31 (m31 d (sT S (40 + w))) (sT S (19 + w))) (sT S (6 + w))) (nI w) := by
  have n1 := (wf_cnt hW.1).2.1.2
  have hLa := hC.1.1
  have hkk := hLa.1
  obtain ⟨f1, f2, f3⟩ := hLa.2.2.2.2.2.2 w hw
  have z8 := sz_X2_8 hkk
  have z9 := sz_X2_9 hkk
  have z10' := sz_X2_10 hkk
  have hp : ∀ c v, (c = 0 ∧ v = sT S (40 + w)) ∨ (c = 1 ∧ v = sT S (19 + w)) ∨ (c = 2 ∧ v = sT S (6 + w)) → fX2_watcherPart 2 (nI w) (nI c) h = some v := by
    intro c v q
    unfold fX2_watcherPart
    rcases q with ⟨rfl, rfl⟩ | ⟨rfl, rfl⟩ | ⟨rfl, rfl⟩
    · rw [if_pos (by decide), inb_nI (by omega), z8, oG_d (by omega), ix_nI (by omega), f1]
    · rw [if_neg (by decide), if_pos (by decide), inb_nI (by omega), z9, oG_d (by omega), ix_nI (by omega), f2]
    · rw [if_neg (by decide), if_neg (by decide), inb_nI (by omega), z10', oG_d (by omega), ix_nI (by omega), f3]
  refine run_loop (fun n (s : Int64 × Int32) => fX8_digest_108 h k n 0 s.1 (nI w) s.2) (fun c => (if c = 0 then d else if c = 1 then m31 d (sT S (40 + w)) else if c = 2 then m31 (m31 d (sT S (40 + w))) (sT S (19 + w)) else m31 (m31 (m31 d (sT S (40 + w))) (sT S (19 + w))) (sT S (6 + w)), nI c)) 3 _ (fun n c hc => ?_) (fun n => ?_) FU (FU_lt (by omega))
  · rcases (show c = 0 ∨ c = 1 ∨ c = 2 by omega) with rfl | rfl | rfl
    · show fX8_digest_108 h k (n + 1) 0 d (nI w) (nI 0) = fX8_digest_108 h k n 0 (m31 d (sT S (40 + w))) (nI w) (nI 1)
      rw [fX8_digest_108, if_neg (by decide), z00, z10, hp 0 _ (Or.inl ⟨rfl, rfl⟩), ob_s]; rfl
    · show fX8_digest_108 h k (n + 1) 0 (m31 d (sT S (40 + w))) (nI w) (nI 1) = fX8_digest_108 h k n 0 (m31 (m31 d (sT S (40 + w))) (sT S (19 + w))) (nI w) (nI 2)
      rw [fX8_digest_108, if_neg (by decide), z00, z10, hp 1 _ (Or.inr (Or.inl ⟨rfl, rfl⟩)), ob_s]; rfl
    · show fX8_digest_108 h k (n + 1) 0 (m31 (m31 d (sT S (40 + w))) (sT S (19 + w))) (nI w) (nI 2) = fX8_digest_108 h k n 0 (m31 (m31 (m31 d (sT S (40 + w))) (sT S (19 + w))) (sT S (6 + w))) (nI w) (nI 3)
      rw [fX8_digest_108, if_neg (by decide), z00, z10, hp 2 _ (Or.inr (Or.inr ⟨rfl, rfl⟩)), ob_s]; rfl
  · show fX8_digest_108 h k (n + 1) 0 (m31 (m31 (m31 d (sT S (40 + w))) (sT S (19 + w))) (sT S (6 + w))) (nI w) (nI 3) = _
    rw [fX8_digest_108, if_pos (by decide)]
theorem c_dg50 {S : ST} {h : AH} (hC : CR S h) (hW : WfS S) {d : Int64} {w : Nat} (hw : w < tn (sT S) 0) (k : Nat → Int64 → Int32 → Option Int64) : fX8_digest_50 h k FU 0 d (nI w) (nI 0) = k 0 (m31 (m31 (m31 (m31 d (sT S (30 + w))) (sT S (14 + w))) (sT S (35 + w))) (sT S (25 + w))) (nI w) := by
  have n1 := (wf_cnt hW.1).1.2
  have hLa := hC.1.1
  have hkk := hLa.1
  obtain ⟨f1, f2, f3, f4⟩ := hLa.2.2.2.2.2.1 w hw
  have z8 := sz_X2_4 hkk
  have z9 := sz_X2_5 hkk
  have z10' := sz_X2_6 hkk
  have z11' := sz_X2_7 hkk
  have hp : ∀ c v, (c = 0 ∧ v = sT S (30 + w)) ∨ (c = 1 ∧ v = sT S (14 + w)) ∨ (c = 2 ∧ v = sT S (35 + w)) ∨ (c = 3 ∧ v = sT S (25 + w)) → fX2_showPart 2 (nI w) (nI c) h = some v := by
    intro c v q
    unfold fX2_showPart
    rcases q with ⟨rfl, rfl⟩ | ⟨rfl, rfl⟩ | ⟨rfl, rfl⟩ | ⟨rfl, rfl⟩
    · rw [if_pos (by decide), inb_nI (by omega), z8, oG_d (by omega), ix_nI (by omega), f1]
    · rw [if_neg (by decide), if_pos (by decide), inb_nI (by omega), z9, oG_d (by omega), ix_nI (by omega), f2]
    · rw [if_neg (by decide), if_neg (by decide), if_pos (by decide), inb_nI (by omega), z10', oG_d (by omega), ix_nI (by omega), f3]
    · rw [if_neg (by decide), if_neg (by decide), if_neg (by decide), inb_nI (by omega), z11', oG_d (by omega), ix_nI (by omega), f4]
  refine run_loop (fun n (s : Int64 × Int32) => fX8_digest_50 h k n 0 s.1 (nI w) s.2) (fun c => (if c = 0 then d else if c = 1 then m31 d (sT S (30 + w)) else if c = 2 then m31 (m31 d (sT S (30 + w))) (sT S (14 + w)) else if c = 3 then m31 (m31 (m31 d (sT S (30 + w))) (sT S (14 + w))) (sT S (35 + w)) else m31 (m31 (m31 (m31 d (sT S (30 + w))) (sT S (14 + w))) (sT S (35 + w))) (sT S (25 + w)), nI c)) 4 _ (fun n c hc => ?_) (fun n => ?_) FU (FU_lt (by omega))
  · rcases (show c = 0 ∨ c = 1 ∨ c = 2 ∨ c = 3 by omega) with rfl | rfl | rfl | rfl
    · show fX8_digest_50 h k (n + 1) 0 d (nI w) (nI 0) = fX8_digest_50 h k n 0 (m31 d (sT S (30 + w))) (nI w) (nI 1)
      rw [fX8_digest_50, if_neg (by decide), z00, z10, hp 0 _ (Or.inl ⟨rfl, rfl⟩), ob_s]; rfl
    · show fX8_digest_50 h k (n + 1) 0 (m31 d (sT S (30 + w))) (nI w) (nI 1) = fX8_digest_50 h k n 0 (m31 (m31 d (sT S (30 + w))) (sT S (14 + w))) (nI w) (nI 2)
      rw [fX8_digest_50, if_neg (by decide), z00, z10, hp 1 _ (Or.inr (Or.inl ⟨rfl, rfl⟩)), ob_s]; rfl
    · show fX8_digest_50 h k (n + 1) 0 (m31 (m31 d (sT S (30 + w))) (sT S (14 + w))) (nI w) (nI 2) = fX8_digest_50 h k n 0 (m31 (m31 (m31 d (sT S (30 + w))) (sT S (14 + w))) (sT S (35 + w))) (nI w) (nI 3)
      rw [fX8_digest_50, if_neg (by decide), z00, z10, hp 2 _ (Or.inr (Or.inr (Or.inl ⟨rfl, rfl⟩))), ob_s]; rfl
    · show fX8_digest_50 h k (n + 1) 0 (m31 (m31 (m31 d (sT S (30 + w))) (sT S (14 + w))) (sT S (35 + w))) (nI w) (nI 3) = fX8_digest_50 h k n 0 (m31 (m31 (m31 (m31 d (sT S (30 + w))) (sT S (14 + w))) (sT S (35 + w))) (sT S (25 + w))) (nI w) (nI 4)
      rw [fX8_digest_50, if_neg (by decide), z00, z10, hp 3 _ (Or.inr (Or.inr (Or.inr ⟨rfl, rfl⟩))), ob_s]; rfl
  · show fX8_digest_50 h k (n + 1) 0 (m31 (m31 (m31 (m31 d (sT S (30 + w))) (sT S (14 + w))) (sT S (35 + w))) (sT S (25 + w))) (nI w) (nI 4) = _
    rw [fX8_digest_50, if_pos (by decide)]
theorem op_digest : OP_digest RR := by
  rintro h ⟨S, hW, hC, hM⟩
  have w := wf_cnt hW.1
  have n0 := w.1.2
  have n1 := w.2.1.2
  have hLa := hC.1.1
  have hr := hM.1.2.2
  refine ⟨dgE S, ?_, ?_, S, hW, hC, hM⟩
  · unfold fX8_digest
    rw [p0]
    have k2 : ∀ d, fX8_digest_89 h 0 d = fX8_digest_147 h 0 (dgC (sT S) d (tn (sT S) 1)) := by
      intro d
      unfold fX8_digest_89
      rw [p0]
      refine run_loop (fun n (s : Int64 × Int32) => fX8_digest_91 h n 0 s.1 s.2) (fun i => (dgC (sT S) d i, nI i)) (tn (sT S) 1) _ (fun n i hi => ?_) (fun n => ?_) FU (FU_lt (by omega))
      · show fX8_digest_91 h (n + 1) 0 (dgC (sT S) d i) (nI i) = fX8_digest_91 h n 0 (dgC (sT S) d (i + 1)) (nI (i + 1))
        rw [fX8_digest_91, z00, z10, hLa.2.2.2.2.1, w.2.1.1, if_neg (by rw [p_le (by omega) (by omega)]; omega), p0, c_dg108 hC hW hi, oL_d, p1, nI_add, dgC]
      · show fX8_digest_91 h (n + 1) 0 (dgC (sT S) d (tn (sT S) 1)) (nI (tn (sT S) 1)) = _
        rw [fX8_digest_91, z00, z10, hLa.2.2.2.2.1, w.2.1.1, if_pos (by rw [p_le (by omega) (by omega)]; exact Nat.le_refl _)]
    have k1 : ∀ d, fX8_digest_31 h 0 d = fX8_digest_89 h 0 (dgB (sT S) d (tn (sT S) 0)) := by
      intro d
      unfold fX8_digest_31
      rw [p0]
      refine run_loop (fun n (s : Int64 × Int32) => fX8_digest_33 h n 0 s.1 s.2) (fun i => (dgB (sT S) d i, nI i)) (tn (sT S) 0) _ (fun n i hi => ?_) (fun n => ?_) FU (FU_lt (by omega))
      · show fX8_digest_33 h (n + 1) 0 (dgB (sT S) d i) (nI i) = fX8_digest_33 h n 0 (dgB (sT S) d (i + 1)) (nI (i + 1))
        rw [fX8_digest_33, z00, z10, hLa.2.2.2.1, w.1.1, if_neg (by rw [p_le (by omega) (by omega)]; omega), p0, c_dg50 hC hW hi, oL_d, p1, nI_add, dgB]
      · show fX8_digest_33 h (n + 1) 0 (dgB (sT S) d (tn (sT S) 0)) (nI (tn (sT S) 0)) = _
        rw [fX8_digest_33, z00, z10, hLa.2.2.2.1, w.1.1, if_pos (by rw [p_le (by omega) (by omega)]; exact Nat.le_refl _)]
    obtain ⟨N, hN⟩ : ∃ N : Nat, N = 11 := ⟨11, rfl⟩
    refine run_loop (fun n (s : Int64 × Int32) => fX8_digest_6 h n 0 s.1 s.2) (fun i => (dgA S i, nI i)) N _ (fun n i hi => ?_) (fun n => ?_) FU (FU_lt (by omega))
    · show fX8_digest_6 h (n + 1) 0 (dgA S i) (nI i) = fX8_digest_6 h n 0 (dgA S (i + 1)) (nI (i + 1))
      rw [fX8_digest_6, if_neg (by rw [p10, p_lt (by omega) (by omega)]; omega), c_tally hC hW (by omega), ob_s, oL_d, oL_d, p1, nI_add, dgA]
      rfl
    · show fX8_digest_6 h (n + 1) 0 (dgA S N) (nI N) = _
      rw [fX8_digest_6, if_pos (by rw [hN]; decide), k1, k2, c_dg147 hC hW, hN, dgE]
  · unfold fX9_digest
    rw [p0]
    have k2 : ∀ d, fX9_digest_111 h 262 d = fX9_digest_174 h 262 (dgC (sT S) d (tn (sT S) 1)) := by
      intro d
      unfold fX9_digest_111
      rw [p0]
      refine run_loop (fun n (s : Int64 × Int32) => fX9_digest_113 h n 262 s.1 s.2) (fun i => (dgC (sT S) d i, nI i)) (tn (sT S) 1) _ (fun n i hi => ?_) (fun n => ?_) FU (FU_lt (by omega))
      · show fX9_digest_113 h (n + 1) 262 (dgC (sT S) d i) (nI i) = fX9_digest_113 h n 262 (dgC (sT S) d (i + 1)) (nI (i + 1))
        rw [fX9_digest_113, m_manyW hM hW, ob_s, if_neg (by rw [p_le (by omega) (by omega)]; omega)]
        simp (disch := omega) only [q20, q20s, p0, p1, p2, p3, p4, p5, p6, p7, p8, p9, p10, p11, p12, p14, p19, p23, p24, p25, p29, p30, p31, p35, p40, p46, p58, p60, p88, p99, p100, p112, p150, p9999, nI_add, nI_mul, ix_nI, p_sub, p_div, p_rem, p_shl, p_shr, p_and, p_or, inb_nI, decide_eq_true, oG_t, oL_d, hr, dgC, m31]
      · show fX9_digest_113 h (n + 1) 262 (dgC (sT S) d (tn (sT S) 1)) (nI (tn (sT S) 1)) = _
        rw [fX9_digest_113, m_manyW hM hW, ob_s, if_pos (by rw [p_le (by omega) (by omega)]; exact Nat.le_refl _)]
    have k1 : ∀ d, fX9_digest_31 h 262 d = fX9_digest_111 h 262 (dgB (sT S) d (tn (sT S) 0)) := by
      intro d
      unfold fX9_digest_31
      rw [p0]
      refine run_loop (fun n (s : Int64 × Int32) => fX9_digest_33 h n 262 s.1 s.2) (fun i => (dgB (sT S) d i, nI i)) (tn (sT S) 0) _ (fun n i hi => ?_) (fun n => ?_) FU (FU_lt (by omega))
      · show fX9_digest_33 h (n + 1) 262 (dgB (sT S) d i) (nI i) = fX9_digest_33 h n 262 (dgB (sT S) d (i + 1)) (nI (i + 1))
        rw [fX9_digest_33, m_many hM hW, ob_s, if_neg (by rw [p_le (by omega) (by omega)]; omega)]
        simp (disch := omega) only [q20, q20s, p0, p1, p2, p3, p4, p5, p6, p7, p8, p9, p10, p11, p12, p14, p19, p23, p24, p25, p29, p30, p31, p35, p40, p46, p58, p60, p88, p99, p100, p112, p150, p9999, nI_add, nI_mul, ix_nI, p_sub, p_div, p_rem, p_shl, p_shr, p_and, p_or, inb_nI, decide_eq_true, oG_t, oL_d, hr, dgB, m31]
      · show fX9_digest_33 h (n + 1) 262 (dgB (sT S) d (tn (sT S) 0)) (nI (tn (sT S) 0)) = _
        rw [fX9_digest_33, m_many hM hW, ob_s, if_pos (by rw [p_le (by omega) (by omega)]; exact Nat.le_refl _)]
    obtain ⟨N, hN⟩ : ∃ N : Nat, N = 11 := ⟨11, rfl⟩
    refine run_loop (fun n (s : Int64 × Int32) => fX9_digest_6 h n 262 s.1 s.2) (fun i => (dgA S i, nI i)) N _ (fun n i hi => ?_) (fun n => ?_) FU (FU_lt (by omega))
    · show fX9_digest_6 h (n + 1) 262 (dgA S i) (nI i) = fX9_digest_6 h n 262 (dgA S (i + 1)) (nI (i + 1))
      rw [fX9_digest_6, if_neg (by rw [p11, p_le (by omega) (by omega)]; omega), m_counted hM hW (by omega), ob_s, oL_d, oL_d, p1, nI_add, dgA]
      rfl
    · show fX9_digest_6 h (n + 1) 262 (dgA S N) (nI N) = _
      rw [fX9_digest_6, if_pos (by rw [hN]; decide), k1, k2, m_dg174 hM hW, hN, dgE]
/-! years -/
def yrX (x0 : Nat) : Nat → Nat
  | 0 => x0
  | i + 1 => (yrX x0 i * 1103515245 + 12345) % 2147483648
def yrS (T : Nat → Int32) (x0 : Nat) : Nat → Nat
  | 0 => 0
  | i + 1 => yrS T x0 i + pc 6 (who T (yrX x0 (i + 1) / 65536 % 30) (onT T) ((tn T 13 + i) % 12))
theorem yrX_lt {x0 : Nat} (h : x0 < 2147483648) : ∀ i, yrX x0 i < 2147483648 := by
  intro i
  cases i with
  | zero => exact h
  | succ i => exact Nat.mod_lt _ (by decide)
theorem yrS_le {T : Nat → Int32} {x0 : Nat} : ∀ i, yrS T x0 i ≤ 6 * i := by
  intro i
  induction i with
  | zero => exact Nat.le_refl _
  | succ i ih =>
    have h1 := pc_le 6 (who T (yrX x0 (i + 1) / 65536 % 30) (onT T) ((tn T 13 + i) % 12))
    unfold yrS
    omega
theorem yr_step {x : Nat} (hx : x < 2147483648) : jremL (lN x * (1103515245 : Int64) + (12345 : Int64)) (2147483648 : Int64) = lN ((x * 1103515245 + 12345) % 2147483648) := by
  have e1 : (1103515245 : Int64) = lN 1103515245 := by decide
  have e2 : (12345 : Int64) = lN 12345 := by decide
  have e3 : (2147483648 : Int64) = lN 2147483648 := by decide
  rw [e1, e2, e3, lN_mul, lN_add]
  exact pk_lRem (by omega) (by omega) (by omega)
theorem yr_cell {x : Nat} (hx : x < 2147483648) : (jremL (lN x / (65536 : Int64)) (30 : Int64)).toInt32 = nI (x / 65536 % 30) := by
  have e1 : (65536 : Int64) = lN 65536 := by decide
  have e2 : (30 : Int64) = lN 30 := by decide
  rw [e1, e2, pk_lDiv (by omega) (by omega) (by omega)]
  unfold jremL
  rw [pk_lRem (by omega) (by omega) (by omega), lN_i]
theorem op_years : OP_years RR := by
  rintro a1 a2 h ⟨S, hW, hC, hM⟩
  have hT := hW.1
  have w := wf_cnt hT
  have hbad : GO S (fX8_years_21 0 h) (fun h1 => fX9_years_24 262 h1) := GO.bad hW hC hM (fun h1 q => by unfold fX8_years_21; exact rf8 q) (fun h1 => rfl)
  refine GO.out (S := S) (f9 := fun h1 => fX9_years 262 a1 a2 h1) ?_
  unfold fX8_years fX9_years
  refine GO.chk c_within (fun h1 hM1 => m0999) (fun _ => hbad) (fun b1 => ?_)
  refine GO.chk c_within (fun h1 hM1 => m060) (fun _ => hbad) (fun b2 => ?_)
  obtain ⟨x, rfl, -, hx⟩ := wi_nI (a := a1) (lo := 0) (hi := 999999) (by omega) (by omega) b1
  obtain ⟨N, rfl, -, hN⟩ := wi_nI (a := a2) (lo := 0) (hi := 60) (by omega) (by omega) b2
  have hX := yrX_lt (show x < 2147483648 by omega)
  have hon := onT_lt hT (by omega)
  have n13 := w.2.2.2.2.2.2
  refine GO.ask hW hC hM (nI (yrS (sT S) x N)) ?_ (fun h1 m1 => ⟨h1, ?_, m1, Eqs.rf⟩)
  · rw [oL_d, nI_l (by omega), p0]
    refine run_ex2 (fun n (s : Int64 × Int32 × Int32 × AH) => fX8_years_37 n 0 (nI N) s.1 s.2.1 s.2.2.1 s.2.2.2) (fun i s => s.1 = lN (yrX x i) ∧ s.2.1 = nI (yrS (sT S) x i) ∧ s.2.2.1 = nI i ∧ EqQ h s.2.2.2) N _ _ ?_ ?_ (lN x, nI 0, nI 0, h) ⟨rfl, rfl, rfl, EqQ.rf⟩ FU (FU_lt (by omega))
    · rintro n i ⟨s1, s2, s3, hh⟩ hi ⟨i1, i2, i3, iq⟩
      simp only at i1 i2 i3 iq
      subst i1; subst i2; subst i3
      have hLa : LaR 2 (sT S) hh := hC.1.1.eqs (iq.eqs (by omega))
      have ht : (tn (sT S) 13 + i) % 12 < 12 := Nat.mod_lt _ (by omega)
      have hc : yrX x (i + 1) / 65536 % 30 < 30 := Nat.mod_lt _ (by omega)
      have hwl := who_lt hT (show 46 ≤ 304 by omega) (cell := yrX x (i + 1) / 65536 % 30) (set := onT (sT S)) (t := (tn (sT S) 13 + i) % 12)
      refine ⟨(lN (yrX x (i + 1)), nI (yrS (sT S) x (i + 1)), nI (i + 1), gz hh (sT S) (onT (sT S)) ((tn (sT S) 13 + i) % 12)), ?_, rfl, rfl, rfl, iq.tr gz_eqq⟩
      show fX8_years_37 (n + 1) 0 (nI N) (lN (yrX x i)) (nI (yrS (sT S) x i)) (nI i) hh = fX8_years_37 n 0 (nI N) (lN (yrX x (i + 1))) (nI (yrS (sT S) x (i + 1))) (nI (i + 1)) _
      rw [fX8_years_37, if_neg (by rw [p_le (by omega) (by omega)]; omega), yr_step (hX i), oL_d, oL_d, z00, z10, z04, c_dayStep hT (by omega) hLa (by omega), ob_s, show (yrX x i * 1103515245 + 12345) % 2147483648 = yrX x (i + 1) from rfl, yr_cell (hX (i + 1)), c_who hT (by omega) hLa (by omega) ht hc, ob2_s, c_bits _ hwl, ob_s, oL_d, oL_d, p1, nI_add, nI_add, yrS]
    · rintro n ⟨s1, s2, s3, hh⟩ ⟨i1, i2, i3, iq⟩
      simp only at i1 i2 i3 iq
      subst i1; subst i2; subst i3
      refine ⟨hh, ?_, iq⟩
      show fX8_years_37 (n + 1) 0 (nI N) (lN (yrX x N)) (nI (yrS (sT S) x N)) (nI N) hh = _
      rw [fX8_years_37, if_pos (by rw [p_le (by omega) (by omega)]; exact Nat.le_refl _)]
  · have r13 := (m1.1.2.2 13 (by omega)).trans n13.1
    show (oL (nI x).toInt64 fun v8 => fX9_years_40 FU 262 (nI N) v8 (0 : Int32) (0 : Int32) h1) = _
    rw [oL_d, nI_l (by omega), p0]
    refine run_loop (fun n (s : Int64 × Int32 × Int32) => fX9_years_40 n 262 (nI N) s.1 s.2.1 s.2.2 h1) (fun i => (lN (yrX x i), nI (yrS (sT S) x i), nI i)) N _ (fun n i hi => ?_) (fun n => ?_) FU (FU_lt (by omega))
    · show fX9_years_40 (n + 1) 262 (nI N) (lN (yrX x i)) (nI (yrS (sT S) x i)) (nI i) h1 = fX9_years_40 n 262 (nI N) (lN (yrX x (i + 1))) (nI (yrS (sT S) x (i + 1))) (nI (i + 1)) h1
      have ht : (tn (sT S) 13 + i) % 12 < 12 := Nat.mod_lt _ (by omega)
      have hc : yrX x (i + 1) / 65536 % 30 < 30 := Nat.mod_lt _ (by omega)
      have hwl := who_lt hT (show 46 ≤ 304 by omega) (cell := yrX x (i + 1) / 65536 % 30) (set := onT (sT S)) (t := (tn (sT S) 13 + i) % 12)
      have p13 : (13 : Int32) = nI 13 := by decide
      rw [fX9_years_40, if_neg (by rw [p_le (by omega) (by omega)]; omega), yr_step (hX i), oL_d, q20, m_on hT (show 46 ≤ 304 by omega) m1.1 (by omega), ob_s, q20s, p13, inb_nI (by omega), oG_d (by omega), ix_nI (by omega), r13, nI_add, p12, p_rem (by omega) (by omega), show (yrX x i * 1103515245 + 12345) % 2147483648 = yrX x (i + 1) from rfl, yr_cell (hX (i + 1)), m_who hT (show 46 ≤ 304 by omega) m1.1 (by omega) (by omega) ht hc, ob_s, m_bits6 hwl, ob_s, oL_d, oL_d, p1, nI_add, nI_add, yrS]
    · show fX9_years_40 (n + 1) 262 (nI N) (lN (yrX x N)) (nI (yrS (sT S) x N)) (nI N) h1 = _
      rw [fX9_years_40, if_pos (by rw [p_le (by omega) (by omega)]; exact Nat.le_refl _)]
