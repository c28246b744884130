/-! PURE: what is asked of a call's numbers; how a call goes on -/
def wi (a lo hi : Int32) : Bool := decide (lo ≤ a) && decide (a ≤ hi)
theorem c_within {a lo hi : Int32} : fX8_within a lo hi = some (bI (wi a lo hi)) := by
  unfold fX8_within wi bI
  by_cases h1 : a < lo
  · have h2 : ¬ lo ≤ a := fun q => Int32.lt_irrefl (Int32.lt_of_lt_of_le h1 q)
    rw [if_pos h1, decide_eq_false h2]
    rfl
  · have h2 : lo ≤ a := Int32.not_lt.mp h1
    rw [if_neg h1, decide_eq_true h2]
    by_cases h3 : hi < a
    · have h4 : ¬ a ≤ hi := fun q => Int32.lt_irrefl (Int32.lt_of_lt_of_le h3 q)
      rw [if_pos h3, decide_eq_false h4]
      rfl
    · have h4 : a ≤ hi := Int32.not_lt.mp h3
      rw [if_neg h3, decide_eq_true h4]
      rfl
theorem lg_lt (x y : Int64) : (lg_cmp x y < 0) = (x < y) := by
  unfold lg_cmp
  by_cases h2 : y < x
  · have h1 : ¬ x < y := fun q => Int64.lt_irrefl (Int64.lt_of_lt_of_le q (Int64.le_of_lt h2))
    simp [h1, h2]
  · by_cases h3 : x = y
    · subst h3
      simp [h2]
    · have h1 : x < y := Int64.not_le.mp (fun q => h3 (Int64.le_antisymm (Int64.not_lt.mp h2) q))
      simp [h1, h2, h3]
theorem lg_gt (x y : Int64) : (0 < lg_cmp x y) = (y < x) := by
  unfold lg_cmp
  by_cases h2 : y < x
  · simp [h2]
  · by_cases h3 : x = y
    · subst h3
      simp
    · simp [h2, h3]
theorem wide_lt (a b : Int32) : (a.toInt64 < b.toInt64) = (a < b) := by
  rw [Int64.lt_iff_toInt_lt, Int32.lt_iff_toInt_lt, Int32.toInt_toInt64, Int32.toInt_toInt64]
theorem m_in {a lo hi : Int32} : fX9_in a.toInt64 lo.toInt64 hi.toInt64 = some (bI (wi a lo hi)) := by
  rw [← c_within]
  unfold fX9_in fX8_within
  simp only [lg_lt, lg_gt, wide_lt]
theorem chk {α : Type} {b : Bool} {A B : α} : (if bI b = 0 then A else B) = cond b B A := by cases b <;> rfl
theorem wi_nI {a : Int32} {lo hi : Nat} (hlo : lo < 2147483648) (hhi : hi < 2147483648) (h : wi a (nI lo) (nI hi) = true) : ∃ n, a = nI n ∧ lo ≤ n ∧ n ≤ hi := by
  unfold wi at h
  rw [Bool.and_eq_true, decide_eq_true_eq, decide_eq_true_eq] at h
  obtain ⟨h1, h2⟩ := h
  have h0 : ¬ a < 0 := fun q => by
    have h3 := nI_pos' (n := lo) hlo
    exact Int32.lt_irrefl (Int32.lt_of_lt_of_le q (Int32.le_trans h3 h1))
  obtain ⟨n, hn, rfl⟩ := nI_of h0
  exact ⟨n, rfl, (nI_leI hlo hn).mp h1, (nI_leI hn hhi).mp h2⟩
theorem wi_n {n lo hi : Nat} (hn : n < 2147483648) (hlo : lo < 2147483648) (hhi : hi < 2147483648) : wi (nI n) (nI lo) (nI hi) = (decide (lo ≤ n) && decide (n ≤ hi)) := by
  unfold wi
  simp only [p_le hlo hn, p_le hn hhi]
/-- one of so many -/
def hs (n : Nat) (a : Int32) : Bool := decide (0 ≤ a) && decide (a < nI n)
theorem hs_nI {n : Nat} {a : Int32} (hn : n < 2147483648) (h : hs n a = true) : ∃ k, a = nI k ∧ k < n := by
  unfold hs at h
  rw [Bool.and_eq_true, decide_eq_true_eq, decide_eq_true_eq] at h
  obtain ⟨h1, h2⟩ := h
  have h0 : ¬ a < 0 := fun q => Int32.lt_irrefl (Int32.lt_of_lt_of_le q h1)
  obtain ⟨k, hk, rfl⟩ := nI_of h0
  exact ⟨k, rfl, (nI_ltI hk hn).mp h2⟩
theorem pm1 : ∀ n, n < 100 → (nI n - 1).toInt = (n : Int) - 1 := by decide +kernel
theorem hs_wi {n : Nat} {a : Int32} (hn : n < 100) : wi a 0 (nI n - 1) = hs n a := by
  unfold wi hs
  congr 1
  refine decide_eq_decide.mpr ?_
  rw [Int32.le_iff_toInt_le, Int32.lt_iff_toInt_lt, pm1 n hn, nI_toInt (by omega)]
  omega
theorem c_has {n : Nat} {x a : Int32} (hx : x = nI n) : (if a < 0 then some (0 : Int32) else if x ≤ a then some (0 : Int32) else some (1 : Int32)) = some (bI (hs n a)) := by
  subst hx
  unfold hs bI
  by_cases h1 : a < 0
  · have h2 : ¬ 0 ≤ a := fun q => Int32.lt_irrefl (Int32.lt_of_lt_of_le h1 q)
    rw [if_pos h1, decide_eq_false h2]
    rfl
  · have h2 : 0 ≤ a := Int32.not_lt.mp h1
    rw [if_neg h1, decide_eq_true h2]
    by_cases h3 : nI n ≤ a
    · have h4 : ¬ a < nI n := fun q => Int32.lt_irrefl (Int32.lt_of_lt_of_le q h3)
      rw [if_pos h3, decide_eq_false h4]
      rfl
    · have h4 : a < nI n := Int32.not_le.mp h3
      rw [if_neg h3, decide_eq_true h4]
      rfl
theorem c_hasShow {la : Nat} {T : Nat → Int32} {h : AH} {m : Nat} {a : Int32} (hT : WfU T m) (hm : 46 ≤ m) (hR : LaR la T h) : fX2_hasShow la a h = some (bI (hs (tn T 0) a)) := by
  unfold fX2_hasShow
  exact c_has (hR.2.2.2.1.trans (wf_0 hT hm).1)
theorem c_hasWatcher {la : Nat} {T : Nat → Int32} {h : AH} {m : Nat} {a : Int32} (hT : WfU T m) (hm : 46 ≤ m) (hR : LaR la T h) : fX2_hasWatcher la a h = some (bI (hs (tn T 1) a)) := by
  unfold fX2_hasWatcher
  exact c_has (hR.2.2.2.2.1.trans (wf_1 hT hm).1)
theorem c_isKind {a : Int32} : fX8_isKind a = some (bI (wi a 0 5)) := by unfold fX8_isKind; rw [c_within, ob_s, oG_of (bI_B _)]
theorem c_isCell {a : Int32} : fX8_isCell a = some (bI (wi a 0 29)) := by unfold fX8_isCell; rw [c_within, ob_s, oG_of (bI_B _)]
theorem c_isLoud {a : Int32} : fX8_isLoud a = some (bI (wi a 1 9)) := by unfold fX8_isLoud; rw [c_within, ob_s, oG_of (bI_B _)]
theorem c_isDayStep {a : Int32} : fX8_isDayStep a = some (bI (wi a 0 11)) := by unfold fX8_isDayStep; rw [c_within, ob_s, oG_of (bI_B _)]
theorem c_isFar {a : Int32} : fX8_isFar a = some (bI (wi a 0 9)) := by unfold fX8_isFar; rw [c_within, ob_s, oG_of (bI_B _)]
theorem c_isPull {a : Int32} : fX8_isPull a = some (bI (wi a 0 40)) := by unfold fX8_isPull; rw [c_within, ob_s, oG_of (bI_B _)]
theorem m_isCell {a : Int32} : fX9_isCell a = some (bI (wi a 0 29)) := by unfold fX9_isCell; rw [show fX9_in a.toInt64 (0 : Int64) (29 : Int64) = some (bI (wi a 0 29)) from m_in (lo := 0) (hi := 29), ob_s, oG_of (bI_B _)]
theorem m_isStep {a : Int32} : fX9_isStep a = some (bI (wi a 0 11)) := by unfold fX9_isStep; rw [show fX9_in a.toInt64 (0 : Int64) (11 : Int64) = some (bI (wi a 0 11)) from m_in (lo := 0) (hi := 11), ob_s, oG_of (bI_B _)]
theorem m_isFar {a : Int32} : fX9_isFar a = some (bI (wi a 0 9)) := by unfold fX9_isFar; rw [show fX9_in a.toInt64 (0 : Int64) (9 : Int64) = some (bI (wi a 0 9)) from m_in (lo := 0) (hi := 9), ob_s, oG_of (bI_B _)]
theorem c_dayStep {la : Nat} {T : Nat → Int32} {h : AH} {m n : Nat} (hT : WfU T m) (hm : 46 ≤ m) (hR : LaR la T h) (hn : n < 1000) : fX2_dayStep la (nI n) h = some (nI ((tn T 13 + n) % 12)) := by
  obtain ⟨w, w'⟩ := wf_13 hT hm
  unfold fX2_dayStep
  rw [hR.2.1, w]
  simp (disch := omega) only [p0, p1, p2, p3, p4, p5, p6, p7, p8, p9, p10, p11, p12, p14, p19, p23, p24, p25, p29, p30, p31, p35, p40, p46, p58, p60, p88, p99, p100, p112, p150, p9999, nI_add, nI_mul, ix_nI, p_sub, p_div, p_rem, p_shl, p_shr, p_and, p_or, inb_nI]
theorem z00 : PC 0 0 = 1 := rfl
theorem z10 : PC 1 0 = 2 := rfl
theorem z04 : PC 0 4 = 92 := rfl
theorem q20 : PC 262 0 = 263 := rfl
theorem q20s : SZ 263 = 304 := rfl
theorem oG_d {α : Type} {p : Prop} [Decidable p] {t : Option α} (h : p) : oG (decide p) t = t := oG_of (decide_eq_true h)
section MM
variable {S : ST} {h : AH}
theorem m_rd (hM : MR S h) {k : Nat} (hk : k < 304) : oG (inb (nI k) (SZ (PC 262 0))) (some (hI h (PC 262 0) (ix (nI k)))) = some (sT S k) := by
  have hsz : SZ (PC 262 0) = 304 := rfl
  have hpc : PC 262 0 = 263 := rfl
  simp (disch := omega) only [q20, q20s, inb_nI, decide_eq_true, oG_t, ix_nI, hM.1.2.2 k hk]
theorem m_many (hM : MR S h) (hW : WfS S) : fX9_many 262 h = some (nI (tn (sT S) 0)) := (m_rd hM (k := 0) (by omega)).trans (congrArg some (wf_cnt hW.1).1.1)
theorem m_manyW (hM : MR S h) (hW : WfS S) : fX9_manyWatchers 262 h = some (nI (tn (sT S) 1)) := (m_rd hM (k := 1) (by omega)).trans (congrArg some (wf_cnt hW.1).2.1.1)
theorem m_isShow (hM : MR S h) (hW : WfS S) {a : Int32} : fX9_isShow 262 a h = some (bI (hs (tn (sT S) 0) a)) := by
  have h5 := (wf_cnt hW.1).1.2
  unfold fX9_isShow
  rw [m_many hM hW, ob_s, show fX9_in a.toInt64 (0 : Int64) ((nI (tn (sT S) 0) - 1).toInt64) = _ from m_in (lo := 0), ob_s, oG_of (bI_B _), hs_wi (by omega)]
theorem m_isWatcher (hM : MR S h) (hW : WfS S) {a : Int32} : fX9_isWatcher 262 a h = some (bI (hs (tn (sT S) 1) a)) := by
  have h5 := (wf_cnt hW.1).2.1.2
  unfold fX9_isWatcher
  rw [m_manyW hM hW, ob_s, show fX9_in a.toInt64 (0 : Int64) ((nI (tn (sT S) 1) - 1).toInt64) = _ from m_in (lo := 0), ob_s, oG_of (bI_B _), hs_wi (by omega)]
theorem m_stepNow (hM : MR S h) (hW : WfS S) : fX9_stepNow 262 h = some (nI (tn (sT S) 13 % 12)) := by
  obtain ⟨w, w'⟩ := (wf_cnt hW.1).2.2.2.2.2.2
  have hsz : SZ (PC 262 0) = 304 := rfl
  have hpc : PC 262 0 = 263 := rfl
  unfold fX9_stepNow
  rw [show (13 : Int32) = nI 13 by decide]
  simp (disch := omega) only [p0, p1, p2, p3, p4, p5, p6, p7, p8, p9, p10, p11, p12, p14, p19, p23, p24, p25, p29, p30, p31, p35, p40, p46, p58, p60, p88, p99, p100, p112, p150, p9999, nI_add, nI_mul, ix_nI, p_sub, p_div, p_rem, p_shl, p_shr, p_and, p_or, inb_nI, q20, q20s, decide_eq_true, oG_t, hM.1.2.2 13 (by omega), w]
end MM
section GO
variable {S : ST} {h : AH} {f8 : Option (Int32 × AH)} {f9 : AH → Option (Int32 × AH)}
theorem rr_bad (hW : WfS S) (hC : CR S h) (hM : MR S h) (e8 : ∀ h1, fX8_refuse 0 (-2) h = some (-2, h1) → f8 = some (-2, h1)) (e9 : ∀ h1, MR S h1 → f9 h1 = some (-2, sI h1 266 0 (hI h1 266 0 + 1))) : ∃ (v : Int32) (h1 h2 : AH), f8 = some (v, h1) ∧ f9 h1 = some (v, h2) ∧ RR h2 := by
  obtain ⟨h1, r1, hC1, he1⟩ := c_refuse hW hC (v := -2) (i := 0) (Or.inl ⟨rfl, rfl⟩)
  have hM1 := hM.eqs (he1.sub (by omega) (by omega))
  obtain ⟨hM2, he2⟩ := m_ref hM1 0 (by omega)
  exact ⟨-2, h1, _, e8 h1 r1, e9 h1 hM1, RR.go (hW.bump 0) hC1 hM2 he2⟩
theorem rr_no (hW : WfS S) (hC : CR S h) (hM : MR S h) (e8 : ∀ h1, fX8_refuse 0 (-3) h = some (-3, h1) → f8 = some (-3, h1)) (e9 : ∀ h1, MR S h1 → f9 h1 = some (-3, sI h1 266 1 (hI h1 266 1 + 1))) : ∃ (v : Int32) (h1 h2 : AH), f8 = some (v, h1) ∧ f9 h1 = some (v, h2) ∧ RR h2 := by
  obtain ⟨h1, r1, hC1, he1⟩ := c_refuse hW hC (v := -3) (i := 1) (Or.inr (Or.inl ⟨rfl, rfl⟩))
  have hM1 := hM.eqs (he1.sub (by omega) (by omega))
  obtain ⟨hM2, he2⟩ := m_ref hM1 1 (by omega)
  exact ⟨-3, h1, _, e8 h1 r1, e9 h1 hM1, RR.go (hW.bump 1) hC1 hM2 he2⟩
theorem rr_full (hW : WfS S) (hC : CR S h) (hM : MR S h) (e8 : ∀ h1, fX8_refuse 0 (-4) h = some (-4, h1) → f8 = some (-4, h1)) (e9 : ∀ h1, MR S h1 → f9 h1 = some (-4, sI h1 266 2 (hI h1 266 2 + 1))) : ∃ (v : Int32) (h1 h2 : AH), f8 = some (v, h1) ∧ f9 h1 = some (v, h2) ∧ RR h2 := by
  obtain ⟨h1, r1, hC1, he1⟩ := c_refuse hW hC (v := -4) (i := 2) (Or.inr (Or.inr ⟨rfl, rfl⟩))
  have hM1 := hM.eqs (he1.sub (by omega) (by omega))
  obtain ⟨hM2, he2⟩ := m_ref hM1 2 (by omega)
  exact ⟨-4, h1, _, e8 h1 r1, e9 h1 hM1, RR.go (hW.bump 2) hC1 hM2 he2⟩
/-- a call that only asks -/
theorem rr_ask (hW : WfS S) (hC : CR S h) (hM : MR S h) {v : Int32} (e8 : ∃ h1, f8 = some (v, h1) ∧ EqQ h h1) (e9 : ∀ h1, MR S h1 → ∃ h2, f9 h1 = some (v, h2) ∧ MR S h2 ∧ Eqs 0 261 h1 h2) : ∃ (v : Int32) (h1 h2 : AH), f8 = some (v, h1) ∧ f9 h1 = some (v, h2) ∧ RR h2 := by
  obtain ⟨h1, r1, q1⟩ := e8
  obtain ⟨h2, r2, hM2, q2⟩ := e9 h1 (hM.eqs (q1.eqs (by omega)))
  exact ⟨v, h1, h2, r1, r2, RR.go hW (hC.eqq hW q1) hM2 q2⟩
/-- a call that changes what both hold -/
theorem rr_do {S' : ST} (hM : MR S h) (hW' : WfS S') {v : Int32} (e8 : ∃ h1, f8 = some (v, h1) ∧ CR S' h1 ∧ Eqs 262 274 h h1) (e9 : ∀ h1, MR S h1 → ∃ h2, f9 h1 = some (v, h2) ∧ MR S' h2 ∧ Eqs 0 261 h1 h2) : ∃ (v : Int32) (h1 h2 : AH), f8 = some (v, h1) ∧ f9 h1 = some (v, h2) ∧ RR h2 := by
  obtain ⟨h1, r1, hC1, q1⟩ := e8
  obtain ⟨h2, r2, hM2, q2⟩ := e9 h1 (hM.eqs (q1.sub (by omega) (by omega)))
  exact ⟨v, h1, h2, r1, r2, RR.go hW' hC1 hM2 q2⟩
end GO
