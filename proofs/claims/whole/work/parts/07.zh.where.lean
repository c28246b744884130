/-! PURE: where -/
def clrG (a s : Nat) : Nat := a &&& (2 ^ 32 - (2 ^ s + 1))
theorem clrG_bit {a s j : Nat} (hs : s < 32) : (clrG a s).testBit j = (a.testBit j && (decide (j < 32) && !decide (s = j))) := by
  have h1 : 2 ^ s < 2 ^ 32 := Nat.pow_lt_pow_right (by decide) hs
  unfold clrG
  rw [Nat.testBit_and, Nat.testBit_two_pow_sub_succ h1, Nat.testBit_two_pow]
theorem clrG_le {a s : Nat} : clrG a s ≤ a := Nat.and_le_left
theorem c_not1 : ∀ s, s < 31 → jshl (nI 1) (nI s) ^^^ (-nI 1) = nI (2 ^ 32 - (2 ^ s + 1)) := by decide +kernel
theorem c_clrG {a s : Nat} (hs : s < 31) : nI a &&& (jshl (nI 1) (nI s) ^^^ (-nI 1)) = nI (clrG a s) := by rw [c_not1 s hs, p_and]; rfl
def gI (ok : Nat → Nat → Bool) (j m : Nat) : Nat → Nat
  | 0 => m
  | k + 1 => if ok k j = true then gI ok j m k else clrG (gI ok j m k) k
def gL (B : Nat) (ok : Nat → Nat → Bool) : Nat → Nat
  | 0 => 2 ^ B - 1
  | j + 1 => gI ok j (gL B ok j) B
def gF (ok : Nat → Nat → Bool) (k : Nat) : Nat → Bool
  | 0 => true
  | j + 1 => gF ok k j && ok k j
def gR (ok : Nat → Nat → Bool) (n : Nat) : Nat → Nat
  | 0 => 0
  | k + 1 => if gF ok k n = true then gR ok n k ||| 2 ^ k else gR ok n k
theorem gI_is {ok : Nat → Nat → Bool} {j m : Nat} : ∀ n, n ≤ 31 → gI ok j m n ≤ m ∧ ∀ k, k < 32 → (gI ok j m n).testBit k = (m.testBit k && (decide (n ≤ k) || ok k j)) := by
  intro n
  induction n with
  | zero => intro _; exact ⟨Nat.le_refl _, fun k _ => by show m.testBit k = _; simp⟩
  | succ n ih =>
    intro hn
    obtain ⟨h1, h2⟩ := ih (by omega)
    unfold gI
    cases ho : ok n j with
    | true =>
      rw [if_pos rfl]
      refine ⟨h1, fun k hk => ?_⟩
      rw [h2 k hk]
      by_cases e : k = n
      · subst e; rw [ho]; simp
      · by_cases e2 : n ≤ k
        · rw [decide_eq_true e2, decide_eq_true (show n + 1 ≤ k by omega)]
        · rw [decide_eq_false e2, decide_eq_false (show ¬ n + 1 ≤ k by omega)]
    | false =>
      rw [if_neg (by decide)]
      refine ⟨Nat.le_trans clrG_le h1, fun k hk => ?_⟩
      rw [clrG_bit (by omega), h2 k hk, decide_eq_true hk]
      by_cases e : n = k
      · subst e; rw [ho, decide_eq_true rfl, decide_eq_false (show ¬ n + 1 ≤ n by omega)]; simp
      · rw [decide_eq_false e]
        by_cases e2 : n ≤ k
        · rw [decide_eq_true e2, decide_eq_true (show n + 1 ≤ k by omega)]; simp
        · rw [decide_eq_false e2, decide_eq_false (show ¬ n + 1 ≤ k by omega)]; simp
theorem gL_is {B : Nat} {ok : Nat → Nat → Bool} (hB : B ≤ 31) : ∀ n, gL B ok n < 2 ^ B ∧ ∀ k, k < B → (gL B ok n).testBit k = gF ok k n := by
  intro n
  induction n with
  | zero =>
    refine ⟨Nat.sub_lt (Nat.two_pow_pos B) (by decide), fun k hk => ?_⟩
    show (2 ^ B - 1).testBit k = true
    rw [Nat.testBit_two_pow_sub_one, decide_eq_true hk]
  | succ n ih =>
    obtain ⟨h1, h2⟩ := ih
    obtain ⟨g1, g2⟩ := gI_is (ok := ok) (j := n) (m := gL B ok n) B hB
    refine ⟨Nat.lt_of_le_of_lt g1 h1, fun k hk => ?_⟩
    show (gI ok n (gL B ok n) B).testBit k = (gF ok k n && ok k n)
    rw [g2 k (by omega), h2 k hk, decide_eq_false (show ¬ B ≤ k by omega), Bool.false_or]
theorem gR_is {ok : Nat → Nat → Bool} {n : Nat} : ∀ i, gR ok n i < 2 ^ i ∧ ∀ k, k < i → (gR ok n i).testBit k = gF ok k n := by
  intro i
  induction i with
  | zero => exact ⟨Nat.one_pos, fun k hk => by omega⟩
  | succ i ih =>
    obtain ⟨h1, h2⟩ := ih
    have h3 : 2 ^ (i + 1) = 2 * 2 ^ i := by rw [Nat.pow_succ, Nat.mul_comm]
    have h4 : 0 < 2 ^ i := Nat.two_pow_pos i
    unfold gR
    cases hf : gF ok i n with
    | true =>
      rw [if_pos rfl]
      refine ⟨Nat.or_lt_two_pow (by omega) (by omega), fun k hk => ?_⟩
      rw [Nat.testBit_or]
      by_cases e : k = i
      · subst e; rw [Nat.testBit_two_pow_self, hf, Bool.or_true]
      · rw [Nat.testBit_two_pow_of_ne (by omega), Bool.or_false, h2 k (by omega)]
    | false =>
      rw [if_neg (by decide)]
      refine ⟨by omega, fun k hk => ?_⟩
      by_cases e : k = i
      · subst e; rw [Nat.testBit_lt_two_pow h1, hf]
      · exact h2 k (by omega)
theorem gL_gR {B : Nat} {ok : Nat → Nat → Bool} {n : Nat} (hB : B ≤ 31) : gR ok n B = gL B ok n := by
  obtain ⟨a1, a2⟩ := gL_is (ok := ok) hB n
  obtain ⟨b1, b2⟩ := gR_is (ok := ok) (n := n) B
  refine Nat.eq_of_testBit_eq fun k => ?_
  by_cases hk : k < B
  · rw [a2 k hk, b2 k hk]
  · have h6 : 2 ^ B ≤ 2 ^ k := Nat.pow_le_pow_right (by decide) (by omega)
    rw [Nat.testBit_lt_two_pow (Nat.lt_of_lt_of_le a1 h6), Nat.testBit_lt_two_pow (Nat.lt_of_lt_of_le b1 h6)]
def okW (T : Nat → Int32) (c j : Nat) : Bool := decide (who T c (onT T) (tn T (46 + 2 * j + 0)) = tn T (46 + 2 * j + 1))
theorem wf_sw {T : Nat → Int32} (hT : WfU T 304) {j : Nat} (hj : j < 6) : (T (46 + 2 * j + 0) = nI (tn T (46 + 2 * j + 0)) ∧ tn T (46 + 2 * j + 0) ≤ 11) ∧ (T (46 + 2 * j + 1) = nI (tn T (46 + 2 * j + 1)) ∧ tn T (46 + 2 * j + 1) ≤ 63) := by
  obtain ⟨k1, k2⟩ := hb_saw j hj
  have a1 := hT (46 + 2 * j + 0) (by omega) (by omega)
  have a2 := hT (46 + 2 * j + 1) (by omega) (by omega)
  rw [k1] at a1; rw [k2] at a2
  exact ⟨a1, a2⟩
theorem c_whereI {T : Nat → Int32} {h : AH} {j m : Nat} (hT : WfU T 304) (hLa : LaR 2 T h) (hR : ShR 1 0 T h) (hj : j < tn T 2) (hg : ∀ w, w < tn T 1 → hI h 93 w = nI (gpl T (onT T) (tn T (19 + w)) (tn T (46 + 2 * j + 0)))) (hm : m < 2 ^ 30) (k107 : Nat → Int32 → Int32 → AH → Option (Int32 × AH)) : fX8_where_57 k107 FU 0 (nI m) (nI j) (nI 0) h = k107 0 (nI (gI (okW T) j m 30)) (nI j) h := by
  have n2 := (wf_cnt hT).2.2.1.2
  obtain ⟨⟨a1, b1⟩, ⟨a2, b2⟩⟩ := wf_sw hT (show j < 6 by omega)
  have hk : KD 76 = 5 := rfl
  have r1 : fX6_told 76 (nI j) (nI 1) h = some (nI (tn T (46 + 2 * j + 1))) := by
    rw [c_told hk (by omega), show j * 5 + 1 = 5 * j + 1 by omega, ← a2]
    exact congrArg some (hR.2 j hj 1 (by decide))
  obtain ⟨N, hN⟩ : ∃ N : Nat, N = 30 := ⟨30, rfl⟩
  rw [← hN]
  refine run_loop (fun n (x : Int32 × Int32) => fX8_where_57 k107 n 0 x.1 (nI j) x.2 h) (fun i => (nI (gI (okW T) j m i), nI i)) N _ (fun n i hi => ?_) (fun n => ?_) FU (FU_lt (by omega))
  · show fX8_where_57 k107 (n + 1) 0 (nI (gI (okW T) j m i)) (nI j) (nI i) h = fX8_where_57 k107 n 0 (nI (gI (okW T) j m (i + 1))) (nI j) (nI (i + 1)) h
    have hw := who_lt hT (show 46 ≤ 304 by omega) (cell := i) (set := onT T) (t := tn T (46 + 2 * j + 0))
    rw [fX8_where_57, if_neg (by rw [p30, p_le (by omega) (by omega)]; omega), z00, z10, z12, z04, c_wit hT (show 46 ≤ 304 by omega) hLa hg (by omega) (by omega), ob_s, p1, r1, ob_s, gI]
    by_cases q : who T i (onT T) (tn T (46 + 2 * j + 0)) = tn T (46 + 2 * j + 1)
    · rw [if_pos (by rw [q]), if_pos (show okW T i j = true from decide_eq_true q), oL_d, nI_add]
    · rw [if_neg (by rw [p_eq (by omega) (by omega)]; exact q), if_neg (show ¬ okW T i j = true from fun e => q (of_decide_eq_true e)), oL_d, oL_d, c_clrG (by omega), nI_add]
  · show fX8_where_57 k107 (n + 1) 0 (nI (gI (okW T) j m N)) (nI j) (nI N) h = _
    rw [fX8_where_57, if_pos (by rw [hN]; decide)]
theorem c_where {S : ST} {h : AH} (hC : CR S h) (hW : WfS S) : ∃ h1, fX8_where 0 h = some (nI (gL 30 (okW (sT S)) (tn (sT S) 2)), h1) ∧ EqQ h h1 := by
  have hT := hW.1
  have n2 := (wf_cnt hT).2.2.1
  have hon := onT_lt hT (by omega)
  unfold fX8_where
  have e0 : (1073741823 : Int32) = nI (gL 30 (okW (sT S)) 0) := by show _ = nI (2 ^ 30 - 1); decide
  rw [e0, p0]
  refine run_ex2 (fun n (s : Int32 × Int32 × AH) => fX8_where_5 n 0 s.1 s.2.1 s.2.2) (fun i s => s.1 = nI (gL 30 (okW (sT S)) i) ∧ s.2.1 = nI i ∧ EqQ h s.2.2) (tn (sT S) 2) _ _ ?_ ?_ (nI (gL 30 (okW (sT S)) 0), nI 0, h) ⟨rfl, rfl, EqQ.rf⟩ FU (FU_lt (by omega))
  · rintro n i ⟨s1, s2, hh⟩ hi ⟨i1, i2, iq⟩
    simp only at i1 i2 iq
    subst i1; subst i2
    have hLa : LaR 2 (sT S) hh := hC.1.1.eqs (iq.eqs (by omega))
    have hq2 : Eqs 76 77 h hh := iq.eqs (by omega)
    have hR0 := hC.1.shR 0 (by omega)
    have hR : ShR 1 0 (sT S) hh := ⟨by rw [(hq2 _ (by omega) (by omega) _).1]; exact hR0.1, fun j hj k hk => by rw [(hq2 _ (by omega) (by omega) _).1]; exact hR0.2 j hj k hk⟩
    have e1 : hI hh 76 1 = nI (tn (sT S) 2) := hR.1.trans n2.1
    obtain ⟨⟨a1, b1⟩, ⟨a2, b2⟩⟩ := wf_sw hT (show i < 6 by omega)
    have hk : KD 76 = 5 := rfl
    have r0 : fX6_told 76 (nI i) (nI 0) hh = some (nI (tn (sT S) (46 + 2 * i + 0))) := by
      rw [c_told hk (by omega), show i * 5 + 0 = 5 * i + 0 by omega, ← a1]
      exact congrArg some (hR.2 i hi 0 (by decide))
    refine ⟨(nI (gL 30 (okW (sT S)) (i + 1)), nI (i + 1), gz hh (sT S) (onT (sT S)) (tn (sT S) (46 + 2 * i + 0))), ?_, rfl, rfl, iq.tr gz_eqq⟩
    show fX8_where_5 (n + 1) 0 (nI (gL 30 (okW (sT S)) i)) (nI i) hh = fX8_where_5 n 0 (nI (gL 30 (okW (sT S)) (i + 1))) (nI (i + 1)) _
    have hRg : ShR 1 0 (sT S) (gz hh (sT S) (onT (sT S)) (tn (sT S) (46 + 2 * i + 0))) := by
      have hq3 : Eqs 76 77 hh (gz hh (sT S) (onT (sT S)) (tn (sT S) (46 + 2 * i + 0))) := gz_eqs (by omega)
      exact ⟨by rw [(hq3 _ (by omega) (by omega) _).1]; exact hR.1, fun j hj k hk => by rw [(hq3 _ (by omega) (by omega) _).1]; exact hR.2 j hj k hk⟩
    rw [fX8_where_5, z00, z12, z10, z04, e1, if_neg (by rw [p_le (by omega) (by omega)]; omega), c_on hT (by omega) hLa, ob_s, p0, r0, ob_s, c_gauge hT (show 46 ≤ 304 by omega) hLa (by omega) (by omega) (by omega), ob_s, c_whereI hT (gz_LaR hLa (by omega)) hRg hi gz_g (gL_is (by omega) i).1, oL_d, p1, nI_add, gL]
  · rintro n ⟨s1, s2, hh⟩ ⟨i1, i2, iq⟩
    simp only at i1 i2 iq
    subst i1; subst i2
    have hq2 : Eqs 76 77 h hh := iq.eqs (by omega)
    have hR0 := hC.1.shR 0 (by omega)
    have e1 : hI hh 76 1 = nI (tn (sT S) 2) := by rw [(hq2 _ (by omega) (by omega) _).1]; exact hR0.1.trans n2.1
    refine ⟨hh, ?_, iq⟩
    show fX8_where_5 (n + 1) 0 (nI (gL 30 (okW (sT S)) (tn (sT S) 2))) (nI (tn (sT S) 2)) hh = _
    rw [fX8_where_5, z00, z12, e1, if_pos (by rw [p_le (by omega) (by omega)]; exact Nat.le_refl _)]
theorem m_whereI {S : ST} {h : AH} (hM : MR S h) (hW : WfS S) {c : Nat} (hc : c < 30) (l1 : Int32) (k86 : Nat → Int32 → Int32 → Int32 → Option Int32) : fX9_where_15 h k86 FU 262 l1 (nI c) 1 0 = k86 262 l1 (nI c) (bI (gF (okW (sT S)) c (tn (sT S) 2))) := by
  have hT := hW.1
  have n2 := (wf_cnt hT).2.2.1
  have hon := onT_lt hT (by omega)
  have hr := hM.1.2.2
  have hr2 := (hr 2 (by omega)).trans n2.1
  refine run_loop (fun n (x : Int32 × Int32) => fX9_where_15 h k86 n 262 l1 (nI c) x.1 x.2) (fun i => (bI (gF (okW (sT S)) c i), nI i)) (tn (sT S) 2) _ (fun n i hi => ?_) (fun n => ?_) FU (FU_lt (by omega))
  · show fX9_where_15 h k86 (n + 1) 262 l1 (nI c) (bI (gF (okW (sT S)) c i)) (nI i) = fX9_where_15 h k86 n 262 l1 (nI c) (bI (gF (okW (sT S)) c (i + 1))) (nI (i + 1))
    obtain ⟨⟨a1, b1⟩, ⟨a2, b2⟩⟩ := wf_sw hT (show i < 6 by omega)
    have r0 : hI h 263 (46 + 2 * i) = nI (tn (sT S) (46 + 2 * i + 0)) := (hr (46 + 2 * i) (by omega)).trans a1
    have r1 := (hr (46 + 2 * i + 1) (by omega)).trans a2
    have hw := who_lt hT (show 46 ≤ 304 by omega) (cell := c) (set := onT (sT S)) (t := tn (sT S) (46 + 2 * i + 0))
    rw [fX9_where_15]
    unfold fX9_where_78 fX9_where_79
    simp (disch := omega) only [p0, p1, p2, p3, p4, p5, p6, p7, p8, p9, p10, p11, p12, p14, p19, p23, p24, p25, p29, p30, p31, p35, p40, p46, p58, p60, p88, p99, p100, p112, p150, p9999, nI_add, nI_mul, ix_nI, p_sub, p_div, p_rem, p_shl, p_shr, p_and, p_or, inb_nI, q20, q20s, decide_eq_true, oG_t, oL_d, hr2, r0, r1, p_le, if_neg, p_eq, m_on hT (show 46 ≤ 304 by omega) hM.1 (show 46 ≤ 304 by omega), ob_s, m_who hT (show 46 ≤ 304 by omega) hM.1 (show 46 ≤ 304 by omega) (show onT (sT S) < 2147483648 by omega) (show tn (sT S) (46 + 2 * i + 0) < 12 by omega) hc, gF]
    cases hf : gF (okW (sT S)) c i with
    | false => rw [if_pos (show bI false = nI 0 by decide)]; rfl
    | true =>
      rw [if_neg (show ¬ bI true = nI 0 by decide)]
      by_cases q : who (sT S) c (onT (sT S)) (tn (sT S) (46 + 2 * i + 0)) = tn (sT S) (46 + 2 * i + 1)
      · rw [if_pos q, show okW (sT S) c i = true from decide_eq_true q]; rfl
      · rw [if_neg q, show okW (sT S) c i = false from decide_eq_false q]; rfl
  · show fX9_where_15 h k86 (n + 1) 262 l1 (nI c) (bI (gF (okW (sT S)) c (tn (sT S) 2))) (nI (tn (sT S) 2)) = _
    rw [fX9_where_15]
    simp (disch := omega) only [p0, p1, p2, p3, p4, p5, p6, p7, p8, p9, p10, p11, p12, p14, p19, p23, p24, p25, p29, p30, p31, p35, p40, p46, p58, p60, p88, p99, p100, p112, p150, p9999, nI_add, nI_mul, ix_nI, p_sub, p_div, p_rem, p_shl, p_shr, p_and, p_or, inb_nI, q20, q20s, decide_eq_true, oG_t, hr2, p_le, if_pos]
theorem m_where {S : ST} {h : AH} (hM : MR S h) (hW : WfS S) : fX9_where 262 h = some (nI (gL 30 (okW (sT S)) (tn (sT S) 2))) := by
  obtain ⟨N, hN⟩ : ∃ N : Nat, N = 30 := ⟨30, rfl⟩
  rw [← gL_gR (by omega), ← hN]
  unfold fX9_where
  rw [p0]
  refine run_loop (fun n (x : Int32 × Int32) => fX9_where_4 h n 262 x.1 x.2) (fun i => (nI (gR (okW (sT S)) (tn (sT S) 2) i), nI i)) N _ (fun n i hi => ?_) (fun n => ?_) FU (FU_lt (by omega))
  · show fX9_where_4 h (n + 1) 262 (nI (gR (okW (sT S)) (tn (sT S) 2) i)) (nI i) = fX9_where_4 h n 262 (nI (gR (okW (sT S)) (tn (sT S) 2) (i + 1))) (nI (i + 1))
    rw [fX9_where_4, if_neg (by rw [p30, p_le (by omega) (by omega)]; omega), m_whereI hM hW (by omega), gR]
    unfold fX9_where_98
    cases gF (okW (sT S)) i (tn (sT S) 2) with
    | false => rw [if_pos (show bI false = 0 by decide), oL_d, oL_d, if_neg (by decide), p0, p1, nI_add, p_or, Nat.or_zero]
    | true => rw [if_neg (show ¬ bI true = 0 by decide), oL_d, oL_d, if_pos rfl, p1, nI_add, p_shl (by omega), p_or, Nat.one_mul]
  · show fX9_where_4 h (n + 1) 262 _ (nI N) = _
    rw [fX9_where_4, if_pos (by rw [hN]; decide)]
theorem op_where : OP_where RR := by
  rintro h ⟨S, hW, hC, hM⟩
  obtain ⟨h1, r1, q1⟩ := c_where hC hW
  have hM1 := hM.eqs (q1.eqs (by omega))
  exact ⟨_, h1, r1, m_where hM1 hW, S, hW, hC.eqq hW q1, hM1⟩
