/-! PURE: what -/
def apM (T : Nat → Int32) (s j : Nat) : Bool := decide (tn T (88 + 4 * j + 0) = s)
def okM (T : Nat → Int32) (k j : Nat) : Bool := decide (se k (tn T (88 + 4 * j + 1)) (tn T (88 + 4 * j + 2)) = decide (tn T (88 + 4 * j + 3) = 1))
theorem wf_m {T : Nat → Int32} (hT : WfU T 304) {j : Nat} (hj : j < 6) : (T (88 + 4 * j + 0) = nI (tn T (88 + 4 * j + 0)) ∧ tn T (88 + 4 * j + 0) ≤ 5) ∧ (T (88 + 4 * j + 1) = nI (tn T (88 + 4 * j + 1)) ∧ tn T (88 + 4 * j + 1) ≤ 9) ∧ (T (88 + 4 * j + 2) = nI (tn T (88 + 4 * j + 2)) ∧ tn T (88 + 4 * j + 2) ≤ 40) ∧ (T (88 + 4 * j + 3) = nI (tn T (88 + 4 * j + 3)) ∧ tn T (88 + 4 * j + 3) ≤ 1) := by
  obtain ⟨k1, k2, k3, k4⟩ := hb_mark j hj
  have a1 := hT (88 + 4 * j + 0) (by omega) (by omega)
  have a2 := hT (88 + 4 * j + 1) (by omega) (by omega)
  have a3 := hT (88 + 4 * j + 2) (by omega) (by omega)
  have a4 := hT (88 + 4 * j + 3) (by omega) (by omega)
  rw [k1] at a1; rw [k2] at a2; rw [k3] at a3; rw [k4] at a4
  exact ⟨a1, a2, a3, a4⟩
theorem c_marksI {T : Nat → Int32} {h : AH} (hT : WfU T 304) (hR : ShR 1 2 T h) {s j m : Nat} (hs1 : s < 6) (hj : j < tn T 4) (hm : m < 64) (k99 : Int32 → Nat → Int32 → Int32 → Option Int32) : fX8_watcherKindsLeft_26 h k99 FU (nI s) 80 (nI m) (nI j) (nI 0) = k99 (nI s) 80 (nI (if apM T s j = true then kI (okM T) j m 6 else m)) (nI j) := by
  have n3 := (wf_cnt hT).2.2.2.2.1.2
  obtain ⟨⟨a1, b1⟩, ⟨a2, b2⟩, ⟨a3, b3⟩, ⟨a4, b4⟩⟩ := wf_m hT (show j < 6 by omega)
  have hk : KD 80 = 5 := rfl
  have hr : ∀ c, c < 4 → fX6_told 80 (nI j) (nI c) h = some (T (88 + 4 * j + c)) := by
    intro c hc
    rw [c_told hk (by omega), show j * 5 + c = 5 * j + c by omega]
    exact congrArg some (hR.2 j hj c hc)
  have r0 := (hr 0 (by omega)).trans (congrArg some a1)
  have r1 := (hr 1 (by omega)).trans (congrArg some a2)
  have r2 := (hr 2 (by omega)).trans (congrArg some a3)
  have r3 := (hr 3 (by omega)).trans (congrArg some a4)
  by_cases hap : tn T (88 + 4 * j + 0) = s
  · rw [if_pos (show apM T s j = true from decide_eq_true hap)]
    refine run_loop (fun n (x : Int32 × Int32) => fX8_watcherKindsLeft_26 h k99 n (nI s) 80 x.1 (nI j) x.2) (fun i => (nI (kI (okM T) j m i), nI i)) 6 _ (fun n i hi => ?_) (fun n => ?_) FU (FU_lt (by omega))
    · show fX8_watcherKindsLeft_26 h k99 (n + 1) (nI s) 80 (nI (kI (okM T) j m i)) (nI j) (nI i) = fX8_watcherKindsLeft_26 h k99 n (nI s) 80 (nI (kI (okM T) j m (i + 1))) (nI j) (nI (i + 1))
      have hki := (kI_is (ok := okM T) (j := j) hm i (by omega)).1
      rw [fX8_watcherKindsLeft_26]
      unfold fX8_watcherKindsLeft_83
      simp (disch := omega) only [p0, p1, p2, p3, p4, p5, p6, p7, p8, p9, p10, p11, p12, p14, p19, p23, p24, p25, p29, p30, p31, p35, p40, p46, p58, p60, p88, p99, p100, p112, p150, p9999, nI_add, nI_mul, ix_nI, p_sub, p_div, p_rem, p_shl, p_shr, p_and, p_or, inb_nI, r0, r1, r2, r3, ob_s, p_eq, p_le, if_pos hap, if_neg, c_sees i hi _ (show tn T (88 + 4 * j + 1) < 10 by omega) _ (show tn T (88 + 4 * j + 2) < 41 by omega), oL_d, c_clr6' hki hi]
      have hok : okM T i j = decide (se i (tn T (88 + 4 * j + 1)) (tn T (88 + 4 * j + 2)) = decide (tn T (88 + 4 * j + 3) = 1)) := rfl
      rw [kI]
      by_cases q : tn T (88 + 4 * j + 3) = 1
      · rw [decide_eq_true q] at hok
        rw [if_pos q]
        cases hse : se i (tn T (88 + 4 * j + 1)) (tn T (88 + 4 * j + 2)) with
        | false => rw [hse] at hok; rw [if_neg (show ¬ bI false = nI 1 by decide), if_neg (by rw [hok]; decide)]
        | true => rw [hse] at hok; rw [if_pos (show bI true = nI 1 by decide), if_pos (by rw [hok]; decide)]
      · rw [decide_eq_false q] at hok
        rw [if_neg q]
        cases hse : se i (tn T (88 + 4 * j + 1)) (tn T (88 + 4 * j + 2)) with
        | false => rw [hse] at hok; rw [if_pos (show bI false = nI 0 by decide), if_pos (by rw [hok]; decide)]
        | true => rw [hse] at hok; rw [if_neg (show ¬ bI true = nI 0 by decide), if_neg (by rw [hok]; decide)]
    · show fX8_watcherKindsLeft_26 h k99 (n + 1) (nI s) 80 (nI (kI (okM T) j m 6)) (nI j) (nI 6) = _
      rw [fX8_watcherKindsLeft_26, p0, r0, ob_s, if_pos (by rw [hap]), if_pos (by decide)]
  · rw [if_neg (show ¬ apM T s j = true from fun e => hap (of_decide_eq_true e))]
    refine run_loop (fun n (x : Int32) => fX8_watcherKindsLeft_26 h k99 n (nI s) 80 (nI m) (nI j) x) (fun i => nI i) 0 _ (fun n i hi => by omega) (fun n => ?_) FU (FU_lt (by omega))
    show fX8_watcherKindsLeft_26 h k99 (n + 1) (nI s) 80 (nI m) (nI j) (nI 0) = _
    rw [fX8_watcherKindsLeft_26, p0, r0, ob_s, if_neg (by rw [p_eq (by omega) (by omega)]; exact hap)]
theorem c_marks {T : Nat → Int32} {h : AH} (hT : WfU T 304) (hR : ShR 1 2 T h) {s : Nat} (hs1 : s < 6) : fX8_watcherKindsLeft 0 (nI s) h = some (nI (kL (apM T s) (okM T) (tn T 4))) := by
  have n3 := (wf_cnt hT).2.2.2.2.1
  have e3 : hI h 80 1 = nI (tn T 4) := hR.1.trans n3.1
  unfold fX8_watcherKindsLeft
  rw [z00, z14]
  refine run_loop (fun n (x : Int32 × Int32) => fX8_watcherKindsLeft_14 h n (nI s) 80 x.1 x.2) (fun i => (nI (kL (apM T s) (okM T) i), nI i)) (tn T 4) _ (fun n i hi => ?_) (fun n => ?_) FU (FU_lt (by omega))
  · show fX8_watcherKindsLeft_14 h (n + 1) (nI s) 80 (nI (kL (apM T s) (okM T) i)) (nI i) = fX8_watcherKindsLeft_14 h n (nI s) 80 (nI (kL (apM T s) (okM T) (i + 1))) (nI (i + 1))
    rw [fX8_watcherKindsLeft_14, e3, if_neg (by rw [p_le (by omega) (by omega)]; omega), p0, c_marksI hT hR hs1 hi (kL_is i).1, oL_d, p1, nI_add, kL]
  · show fX8_watcherKindsLeft_14 h (n + 1) (nI s) 80 (nI (kL (apM T s) (okM T) (tn T 4))) (nI (tn T 4)) = _
    rw [fX8_watcherKindsLeft_14, e3, if_pos (by rw [p_le (by omega) (by omega)]; exact Nat.le_refl _)]
theorem m_marksI {S : ST} {h : AH} (hM : MR S h) (hW : WfS S) {s k : Nat} (hs1 : s < 6) (hk : k < 6) (l2 : Int32) (k108 : Nat → Int32 → Int32 → Int32 → Int32 → Option Int32) : fX9_kindsOfWatcher_16 h k108 FU 262 (nI s) l2 (nI k) 1 0 = k108 262 (nI s) l2 (nI k) (bI (kF (apM (sT S) s) (okM (sT S)) k (tn (sT S) 4))) := by
  have hT := hW.1
  have n3 := (wf_cnt hT).2.2.2.2.1
  have hr := hM.1.2.2
  have hr3 := (hr 4 (by omega)).trans n3.1
  refine run_loop (fun n (x : Int32 × Int32) => fX9_kindsOfWatcher_16 h k108 n 262 (nI s) l2 (nI k) x.1 x.2) (fun i => (bI (kF (apM (sT S) s) (okM (sT S)) k i), nI i)) (tn (sT S) 4) _ (fun n i hi => ?_) (fun n => ?_) FU (FU_lt (by omega))
  · show fX9_kindsOfWatcher_16 h k108 (n + 1) 262 (nI s) l2 (nI k) (bI (kF (apM (sT S) s) (okM (sT S)) k i)) (nI i) = fX9_kindsOfWatcher_16 h k108 n 262 (nI s) l2 (nI k) (bI (kF (apM (sT S) s) (okM (sT S)) k (i + 1))) (nI (i + 1))
    obtain ⟨⟨a1, b1⟩, ⟨a2, b2⟩, ⟨a3, b3⟩, ⟨a4, b4⟩⟩ := wf_m hT (show i < 6 by omega)
    have r0 : hI h 263 (88 + 4 * i) = nI (tn (sT S) (88 + 4 * i + 0)) := (hr (88 + 4 * i) (by omega)).trans a1
    have r1 := (hr (88 + 4 * i + 1) (by omega)).trans a2
    have r2 := (hr (88 + 4 * i + 2) (by omega)).trans a3
    have r3 := (hr (88 + 4 * i + 3) (by omega)).trans a4
    rw [fX9_kindsOfWatcher_16]
    unfold fX9_kindsOfWatcher_92 fX9_kindsOfWatcher_99 fX9_kindsOfWatcher_95 fX9_kindsOfWatcher_100
    simp (disch := omega) only [p0, p1, p2, p3, p4, p5, p6, p7, p8, p9, p10, p11, p12, p14, p19, p23, p24, p25, p29, p30, p31, p35, p40, p46, p58, p60, p88, p99, p100, p112, p150, p9999, nI_add, nI_mul, ix_nI, p_sub, p_div, p_rem, p_shl, p_shr, p_and, p_or, inb_nI, q20, q20s, decide_eq_true, oG_t, oL_d, hr3, r0, r1, r2, r3, p_le, if_neg, p_eq, m_sees k hk _ (show tn (sT S) (88 + 4 * i + 1) < 10 by omega) _ (show tn (sT S) (88 + 4 * i + 2) < 41 by omega), ob_s, kF]
    cases hf : kF (apM (sT S) s) (okM (sT S)) k i with
    | false => rw [if_pos (show bI false = nI 0 by decide)]; rfl
    | true =>
      rw [if_neg (show ¬ bI true = nI 0 by decide)]
      by_cases hap : tn (sT S) (88 + 4 * i + 0) = s
      · rw [if_pos hap, show apM (sT S) s i = true from decide_eq_true hap]
        unfold okM
        by_cases q : tn (sT S) (88 + 4 * i + 3) = 1
        · rw [if_pos q, decide_eq_true q]
          cases se k (tn (sT S) (88 + 4 * i + 1)) (tn (sT S) (88 + 4 * i + 2)) <;> rfl
        · rw [if_neg q, decide_eq_false q]
          cases se k (tn (sT S) (88 + 4 * i + 1)) (tn (sT S) (88 + 4 * i + 2)) <;> rfl
      · rw [if_neg hap, show apM (sT S) s i = false from decide_eq_false hap]; rfl
  · show fX9_kindsOfWatcher_16 h k108 (n + 1) 262 (nI s) l2 (nI k) (bI (kF (apM (sT S) s) (okM (sT S)) k (tn (sT S) 4))) (nI (tn (sT S) 4)) = _
    rw [fX9_kindsOfWatcher_16]
    simp (disch := omega) only [p0, p1, p2, p3, p4, p5, p6, p7, p8, p9, p10, p11, p12, p14, p19, p23, p24, p25, p29, p30, p31, p35, p40, p46, p58, p60, p88, p99, p100, p112, p150, p9999, nI_add, nI_mul, ix_nI, p_sub, p_div, p_rem, p_shl, p_shr, p_and, p_or, inb_nI, q20, q20s, decide_eq_true, oG_t, hr3, p_le, if_pos]
theorem m_marks {S : ST} {h : AH} (hM : MR S h) (hW : WfS S) {s : Nat} (hs1 : s < 6) : fX9_kindsOfWatcher 262 (nI s) h = some (nI (kL (apM (sT S) s) (okM (sT S)) (tn (sT S) 4))) := by
  obtain ⟨N, hN⟩ : ∃ N : Nat, N = 6 := ⟨6, rfl⟩
  rw [← kL_kR, ← hN]
  unfold fX9_kindsOfWatcher
  refine run_loop (fun n (x : Int32 × Int32) => fX9_kindsOfWatcher_4 h n 262 (nI s) x.1 x.2) (fun i => (nI (kR (apM (sT S) s) (okM (sT S)) (tn (sT S) 4) i), nI i)) N _ (fun n i hi => ?_) (fun n => ?_) FU (FU_lt (by omega))
  · show fX9_kindsOfWatcher_4 h (n + 1) 262 (nI s) (nI (kR (apM (sT S) s) (okM (sT S)) (tn (sT S) 4) i)) (nI i) = fX9_kindsOfWatcher_4 h n 262 (nI s) (nI (kR (apM (sT S) s) (okM (sT S)) (tn (sT S) 4) (i + 1))) (nI (i + 1))
    rw [fX9_kindsOfWatcher_4, if_neg (by rw [p6, p_le (by omega) (by omega)]; omega), m_marksI hM hW hs1 (by omega), kR]
    unfold fX9_kindsOfWatcher_121
    cases kF (apM (sT S) s) (okM (sT S)) i (tn (sT S) 4) with
    | false =>
      rw [if_pos (show bI false = 0 by decide), oL_d, oL_d, if_neg (by decide), p0, p1, nI_add, p_or, Nat.or_zero]
    | true =>
      rw [if_neg (show ¬ bI true = 0 by decide), oL_d, oL_d, if_pos rfl, p1, nI_add, p_shl (by omega), p_or, Nat.one_mul]
  · show fX9_kindsOfWatcher_4 h (n + 1) 262 (nI s) _ (nI N) = _
    rw [fX9_kindsOfWatcher_4, if_pos (by rw [hN]; decide)]
theorem op_what : OP_what RR := by
  rintro a1 h ⟨S, hW, hC, hM⟩
  have hT := hW.1
  have n0 := (wf_cnt hT).2.1.2
  refine GO.out (S := S) (f9 := fun h1 => fX9_what 262 a1 h1) ?_
  unfold fX8_what fX9_what
  simp only [z00, z10]
  refine GO.chk (c_hasWatcher hT (show 46 ≤ 304 by omega) hC.1.1) (fun h1 hM1 => m_isWatcher hM1 hW) (fun _ => GO.bad hW hC hM (fun h1 q => rf8 q) (fun h1 => rfl)) (fun b1 => ?_)
  obtain ⟨s, rfl, hs1⟩ := hs_nI (by omega) b1
  refine GO.ask hW hC hM _ ⟨h, by rw [c_marks hT (hC.1.shR 2 (by omega)) (show s < 6 by omega), ob_s], EqQ.rf⟩ (fun h1 hM1 => ⟨h1, ?_, hM1, Eqs.rf⟩)
  show ob (fX9_kindsOfWatcher 262 (nI s) h1) _ = _
  rw [m_marks hM1 hW (show s < 6 by omega), ob_s]
