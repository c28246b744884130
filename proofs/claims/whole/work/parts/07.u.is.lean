/-! PURE: is -/
theorem c_told {h : AH} {o j c : Nat} (hk : KD o = 5) (hj : j * 5 + c < 30) : fX6_told o (nI j) (nI c) h = some (hI h (o + 1) (j * 5 + c)) := by
  have e1 := pc_X6_0 hk
  have e2 := sz_X6_0 hk
  have e3 : SZ (o + 1) = 30 := by rw [← e1]; exact e2
  unfold fX6_told
  rw [e1, e3, show Int32.ofNat 30 = nI 30 from rfl]
  simp (disch := omega) only [p0, p1, p2, p3, p4, p5, p6, p7, p8, p9, p10, p11, p12, p14, p19, p23, p24, p25, p29, p30, p31, p35, p40, p46, p58, p60, p88, p99, p100, p112, p150, p9999, nI_add, nI_mul, ix_nI, p_sub, p_div, p_rem, p_shl, p_shr, p_and, p_or, inb_nI, p_lt, p_le, if_neg, e3, decide_eq_true, oG_t, oL_d]
def apN (T : Nat → Int32) (s j : Nat) : Bool := decide (tn T (58 + 5 * j + 0) = s)
def okN (T : Nat → Int32) (k j : Nat) : Bool := decide (pl k (tn T (58 + 5 * j + 1)) (tn T (58 + 5 * j + 2)) (tn T (58 + 5 * j + 3)) = tn T (58 + 5 * j + 4))
theorem wf_n {T : Nat → Int32} (hT : WfU T 304) {j : Nat} (hj : j < 6) : (T (58 + 5 * j + 0) = nI (tn T (58 + 5 * j + 0)) ∧ tn T (58 + 5 * j + 0) ≤ 4) ∧ (T (58 + 5 * j + 1) = nI (tn T (58 + 5 * j + 1)) ∧ tn T (58 + 5 * j + 1) ≤ 9) ∧ (T (58 + 5 * j + 2) = nI (tn T (58 + 5 * j + 2)) ∧ tn T (58 + 5 * j + 2) ≤ 9) ∧ (T (58 + 5 * j + 3) = nI (tn T (58 + 5 * j + 3)) ∧ tn T (58 + 5 * j + 3) ≤ 11) ∧ (T (58 + 5 * j + 4) = nI (tn T (58 + 5 * j + 4)) ∧ tn T (58 + 5 * j + 4) ≤ 40) := by
  obtain ⟨k1, k2, k3, k4, k5⟩ := hb_note j hj
  have a1 := hT (58 + 5 * j + 0) (by omega) (by omega)
  have a2 := hT (58 + 5 * j + 1) (by omega) (by omega)
  have a3 := hT (58 + 5 * j + 2) (by omega) (by omega)
  have a4 := hT (58 + 5 * j + 3) (by omega) (by omega)
  have a5 := hT (58 + 5 * j + 4) (by omega) (by omega)
  rw [k1] at a1; rw [k2] at a2; rw [k3] at a3; rw [k4] at a4; rw [k5] at a5
  exact ⟨a1, a2, a3, a4, a5⟩
