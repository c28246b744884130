/-! PURE: is -/
theorem c_told {h : AH} {o j c : Nat} (hk : KD o = 5) (hj : j * 5 + c < 30) : fX6_told o (nI j) (nI c) h = some (hI h (o + 1) (j * 5 + c)) := by
  have e1 := pc_X6_0 hk
  have e2 := sz_X6_0 hk
  have e3 : SZ (o + 1) = 30 := by rw [← e1]; exact e2
  unfold fX6_told
  rw [e1, e3, show Int32.ofNat 30 = nI 30 from rfl]
  simp (disch := omega) only [p0, p1, p2, p3, p4, p5, p6, p7, p8, p9, p10, p11, p12, p14, p19, p23, p24, p25, p29, p30, p31, p35, p40, p46, p58, p60, p88, p99, p100, p112, p150, p9999, nI_add, nI_mul, ix_nI, p_sub, p_div, p_rem, p_shl, p_shr, p_and, p_or, inb_nI, p_lt, p_le, if_neg, e3, decide_eq_true, oG_t, oL_d]
def apN (T : Nat → Int32) (s j : Nat) : Bool := decide (tn T (58 + 5 * j + 0) = s)
def okN (T : Nat → Int32) (k j : Nat) : Bool := decide (pl k (tn T (58 + 5 * j + 1)) (tn T (58 + 5 * j + 2)) (tn T (58 + 5 * j + 3)) = tn T (58 + 5 * j + 4))
theorem wf_n {T : Nat → Int32} (hT : WfU T 304) {j : Nat} (hj : j < 6) : (T (58 + 5 * j + 0) = nI (tn T (58 + 5 * j + 0)) ∧ tn T (58 + 5 * j + 0) ≤ 4) ∧ (T (58 + 5 * j + 1) = nI (tn T (58 + 5 * j + 1)) ∧ tn T (58 + 5 * j + 1) ≤ 9) ∧ (T (58 + 5 * j + 2) = nI (tn T (58 + 5 * j + 2)) ∧ tn T (58 + 5 * j + 2) ≤ 9) ∧ (T (58 + 5 * j + 3) = nI (tn T (58 + 5 * j + 3)) ∧ tn T (58 + 5 * j + 3) ≤ 11) ∧ (T (58 + 5 * j + 4) = nI (tn T (58 + 5 * j + 4)) ∧ tn T (58 + 5 * j + 4) ≤ 40) := by
  obtain ⟨k1, k2, k3, k4, k5⟩ := hb_note j hj
  have a1 := hT (58 + 5 * j + 0) (by omega) (by omega)
  have a2 := hT (58 + 5 * j + 1) (by omega) (by omega)
  have a3 := hT (58 + 5 * j + 2) (by omega) (by omega)
  have a4 := hT (58 + 5 * j + 3) (by omega) (by omega)
  have a5 := hT (58 + 5 * j + 4) (by omega) (by omega)
  rw [k1] at a1; rw [k2] at a2; rw [k3] at a3; rw [k4] at a4; rw [k5] at a5
  exact ⟨a1, a2, a3, a4, a5⟩
theorem c_clr6' {a s : Nat} (ha : a < 64) (hs1 : s < 6) : nI a &&& (nI (1 * 2 ^ s) ^^^ (-nI 1)) = nI (clr a s) := by rw [← c_clr6 a ha s hs1, p_shl (by omega)]
theorem c_kindsI {T : Nat → Int32} {h : AH} (hT : WfU T 304) (hR : ShR 1 1 T h) {s j m : Nat} (hs1 : s < 5) (hj : j < tn T 3) (hm : m < 64) (k99 : Int32 → Nat → Int32 → Int32 → Option Int32) : fX8_showKindsLeft_26 h k99 FU (nI s) 78 (nI m) (nI j) (nI 0) = k99 (nI s) 78 (nI (if apN T s j = true then kI (okN T) j m 6 else m)) (nI j) := by
  have n3 := (wf_cnt hT).2.2.2.1.2
  obtain ⟨⟨a1, b1⟩, ⟨a2, b2⟩, ⟨a3, b3⟩, ⟨a4, b4⟩, ⟨a5, b5⟩⟩ := wf_n hT (show j < 6 by omega)
  have hk : KD 78 = 5 := rfl
  have hr : ∀ c, c < 5 → fX6_told 78 (nI j) (nI c) h = some (T (58 + 5 * j + c)) := by
    intro c hc
    rw [c_told hk (by omega), show j * 5 + c = 5 * j + c by omega]
    exact congrArg some (hR.2 j hj c hc)
  have r0 := (hr 0 (by omega)).trans (congrArg some a1)
  have r1 := (hr 1 (by omega)).trans (congrArg some a2)
  have r2 := (hr 2 (by omega)).trans (congrArg some a3)
  have r3 := (hr 3 (by omega)).trans (congrArg some a4)
  have r4 := (hr 4 (by omega)).trans (congrArg some a5)
  by_cases hap : tn T (58 + 5 * j + 0) = s
  · rw [if_pos (show apN T s j = true from decide_eq_true hap)]
    refine run_loop (fun n (x : Int32 × Int32) => fX8_showKindsLeft_26 h k99 n (nI s) 78 x.1 (nI j) x.2) (fun i => (nI (kI (okN T) j m i), nI i)) 6 _ (fun n i hi => ?_) (fun n => ?_) FU (FU_lt (by omega))
    · show fX8_showKindsLeft_26 h k99 (n + 1) (nI s) 78 (nI (kI (okN T) j m i)) (nI j) (nI i) = fX8_showKindsLeft_26 h k99 n (nI s) 78 (nI (kI (okN T) j m (i + 1))) (nI j) (nI (i + 1))
      have hpl := pl_le i hi _ (show tn T (58 + 5 * j + 1) < 10 by omega) _ (show tn T (58 + 5 * j + 2) < 10 by omega) _ (show tn T (58 + 5 * j + 3) < 12 by omega)
      have hki := (kI_is (ok := okN T) (j := j) hm i (by omega)).1
      rw [fX8_showKindsLeft_26]
      simp (disch := omega) only [p0, p1, p2, p3, p4, p5, p6, p7, p8, p9, p10, p11, p12, p14, p19, p23, p24, p25, p29, p30, p31, p35, p40, p46, p58, p60, p88, p99, p100, p112, p150, p9999, nI_add, nI_mul, ix_nI, p_sub, p_div, p_rem, p_shl, p_shr, p_and, p_or, inb_nI, r0, r1, r2, r3, r4, ob_s, p_eq, p_le, if_pos hap, if_neg, c_pull i hi _ (show tn T (58 + 5 * j + 1) < 10 by omega) _ (show tn T (58 + 5 * j + 2) < 10 by omega) _ (show tn T (58 + 5 * j + 3) < 12 by omega), oL_d, c_clr6' hki hi]
      by_cases q : pl i (tn T (58 + 5 * j + 1)) (tn T (58 + 5 * j + 2)) (tn T (58 + 5 * j + 3)) = tn T (58 + 5 * j + 4)
      · rw [if_pos q, kI, if_pos (show okN T i j = true from decide_eq_true q)]
      · rw [if_neg q, kI, if_neg (show ¬ okN T i j = true from fun e => q (of_decide_eq_true e))]
    · show fX8_showKindsLeft_26 h k99 (n + 1) (nI s) 78 (nI (kI (okN T) j m 6)) (nI j) (nI 6) = _
      rw [fX8_showKindsLeft_26, p0, r0, ob_s, if_pos (by rw [hap]), if_pos (by decide)]
  · rw [if_neg (show ¬ apN T s j = true from fun e => hap (of_decide_eq_true e))]
    refine run_loop (fun n (x : Int32) => fX8_showKindsLeft_26 h k99 n (nI s) 78 (nI m) (nI j) x) (fun i => nI i) 0 _ (fun n i hi => by omega) (fun n => ?_) FU (FU_lt (by omega))
    show fX8_showKindsLeft_26 h k99 (n + 1) (nI s) 78 (nI m) (nI j) (nI 0) = _
    rw [fX8_showKindsLeft_26, p0, r0, ob_s, if_neg (by rw [p_eq (by omega) (by omega)]; exact hap)]
theorem c_kinds {T : Nat → Int32} {h : AH} (hT : WfU T 304) (hR : ShR 1 1 T h) {s : Nat} (hs1 : s < 5) : fX8_showKindsLeft 0 (nI s) h = some (nI (kL (apN T s) (okN T) (tn T 3))) := by
  have n3 := (wf_cnt hT).2.2.2.1
  have e3 : hI h 78 1 = nI (tn T 3) := hR.1.trans n3.1
  unfold fX8_showKindsLeft
  rw [z00, z13]
  refine run_loop (fun n (x : Int32 × Int32) => fX8_showKindsLeft_14 h n (nI s) 78 x.1 x.2) (fun i => (nI (kL (apN T s) (okN T) i), nI i)) (tn T 3) _ (fun n i hi => ?_) (fun n => ?_) FU (FU_lt (by omega))
  · show fX8_showKindsLeft_14 h (n + 1) (nI s) 78 (nI (kL (apN T s) (okN T) i)) (nI i) = fX8_showKindsLeft_14 h n (nI s) 78 (nI (kL (apN T s) (okN T) (i + 1))) (nI (i + 1))
    rw [fX8_showKindsLeft_14, e3, if_neg (by rw [p_le (by omega) (by omega)]; omega), p0, c_kindsI hT hR hs1 hi (kL_is i).1, oL_d, p1, nI_add, kL]
  · show fX8_showKindsLeft_14 h (n + 1) (nI s) 78 (nI (kL (apN T s) (okN T) (tn T 3))) (nI (tn T 3)) = _
    rw [fX8_showKindsLeft_14, e3, if_pos (by rw [p_le (by omega) (by omega)]; exact Nat.le_refl _)]
theorem m_kindsI {S : ST} {h : AH} (hM : MR S h) (hW : WfS S) {s k : Nat} (hs1 : s < 5) (hk : k < 6) (l2 : Int32) (k108 : Nat → Int32 → Int32 → Int32 → Int32 → Option Int32) : fX9_kindsOf_16 h k108 FU 262 (nI s) l2 (nI k) 1 0 = k108 262 (nI s) l2 (nI k) (bI (kF (apN (sT S) s) (okN (sT S)) k (tn (sT S) 3))) := by
  have hT := hW.1
  have n3 := (wf_cnt hT).2.2.2.1
  have hr := hM.1.2.2
  have hr3 := (hr 3 (by omega)).trans n3.1
  refine run_loop (fun n (x : Int32 × Int32) => fX9_kindsOf_16 h k108 n 262 (nI s) l2 (nI k) x.1 x.2) (fun i => (bI (kF (apN (sT S) s) (okN (sT S)) k i), nI i)) (tn (sT S) 3) _ (fun n i hi => ?_) (fun n => ?_) FU (FU_lt (by omega))
  · show fX9_kindsOf_16 h k108 (n + 1) 262 (nI s) l2 (nI k) (bI (kF (apN (sT S) s) (okN (sT S)) k i)) (nI i) = fX9_kindsOf_16 h k108 n 262 (nI s) l2 (nI k) (bI (kF (apN (sT S) s) (okN (sT S)) k (i + 1))) (nI (i + 1))
    obtain ⟨⟨a1, b1⟩, ⟨a2, b2⟩, ⟨a3, b3⟩, ⟨a4, b4⟩, ⟨a5, b5⟩⟩ := wf_n hT (show i < 6 by omega)
    have hpl := pl_le k hk _ (show tn (sT S) (58 + 5 * i + 1) < 10 by omega) _ (show tn (sT S) (58 + 5 * i + 2) < 10 by omega) _ (show tn (sT S) (58 + 5 * i + 3) < 12 by omega)
    have r0 : hI h 263 (58 + 5 * i) = nI (tn (sT S) (58 + 5 * i + 0)) := (hr (58 + 5 * i) (by omega)).trans a1
    have r1 := (hr (58 + 5 * i + 1) (by omega)).trans a2
    have r2 := (hr (58 + 5 * i + 2) (by omega)).trans a3
    have r3 := (hr (58 + 5 * i + 3) (by omega)).trans a4
    have r4 := (hr (58 + 5 * i + 4) (by omega)).trans a5
    rw [fX9_kindsOf_16]
    unfold fX9_kindsOf_99 fX9_kindsOf_95 fX9_kindsOf_100
    simp (disch := omega) only [p0, p1, p2, p3, p4, p5, p6, p7, p8, p9, p10, p11, p12, p14, p19, p23, p24, p25, p29, p30, p31, p35, p40, p46, p58, p60, p88, p99, p100, p112, p150, p9999, nI_add, nI_mul, ix_nI, p_sub, p_div, p_rem, p_shl, p_shr, p_and, p_or, inb_nI, q20, q20s, decide_eq_true, oG_t, oL_d, hr3, r0, r1, r2, r3, r4, p_le, if_neg, p_eq, m_pull k hk _ (show tn (sT S) (58 + 5 * i + 1) < 10 by omega) _ (show tn (sT S) (58 + 5 * i + 2) < 10 by omega) _ (show tn (sT S) (58 + 5 * i + 3) < 12 by omega), ob_s, kF]
    cases hf : kF (apN (sT S) s) (okN (sT S)) k i with
    | false => rw [if_pos (show bI false = nI 0 by decide)]; rfl
    | true =>
      rw [if_neg (show ¬ bI true = nI 0 by decide)]
      by_cases hap : tn (sT S) (58 + 5 * i + 0) = s
      · rw [if_pos hap, show apN (sT S) s i = true from decide_eq_true hap]
        by_cases q : pl k (tn (sT S) (58 + 5 * i + 1)) (tn (sT S) (58 + 5 * i + 2)) (tn (sT S) (58 + 5 * i + 3)) = tn (sT S) (58 + 5 * i + 4)
        · rw [if_pos q, show okN (sT S) k i = true from decide_eq_true q]; rfl
        · rw [if_neg q, show okN (sT S) k i = false from decide_eq_false q]; rfl
      · rw [if_neg hap, show apN (sT S) s i = false from decide_eq_false hap]; rfl
  · show fX9_kindsOf_16 h k108 (n + 1) 262 (nI s) l2 (nI k) (bI (kF (apN (sT S) s) (okN (sT S)) k (tn (sT S) 3))) (nI (tn (sT S) 3)) = _
    rw [fX9_kindsOf_16]
    simp (disch := omega) only [p0, p1, p2, p3, p4, p5, p6, p7, p8, p9, p10, p11, p12, p14, p19, p23, p24, p25, p29, p30, p31, p35, p40, p46, p58, p60, p88, p99, p100, p112, p150, p9999, nI_add, nI_mul, ix_nI, p_sub, p_div, p_rem, p_shl, p_shr, p_and, p_or, inb_nI, q20, q20s, decide_eq_true, oG_t, hr3, p_le, if_pos]
