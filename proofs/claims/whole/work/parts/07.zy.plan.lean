/-! PURE: plan -/
theorem c_open2 {T : Nat → Int32} {h : AH} {m cell : Nat} (hT : WfU T m) (hm : 46 ≤ m) (hR : LaR 2 T h) (hc : cell < 30) : ∃ h1, fX7_openSteps 92 2 (nI cell) h = some (nI (opS T cell 24), h1) ∧ EqQ h h1 ∧ ∀ o, 96 < o → ∀ k, hI h1 o k = hI h o k := by
  have n13 := (wf_13 hT hm).2
  unfold fX7_openSteps
  refine run_rel (fun n (s : Int32 × Int32 × AH) => fX7_openSteps_5 n 92 2 (nI cell) s.1 s.2.1 s.2.2) (fun i s => s.1 = nI (opS T cell i) ∧ s.2.1 = nI i ∧ EqQ h s.2.2 ∧ ∀ o, 96 < o → ∀ k, hI s.2.2 o k = hI h o k) 24 (fun r => ∃ h1, r = some (nI (opS T cell 24), h1) ∧ EqQ h h1 ∧ ∀ o, 96 < o → ∀ k, hI h1 o k = hI h o k) ?_ ?_ (0, 0, h) ⟨rfl, rfl, EqQ.rf, fun _ _ _ => rfl⟩ FU (FU_lt (by omega))
  · rintro n i ⟨s1, s2, hh⟩ hi ⟨i1, i2, iq, io⟩
    simp only at i1 i2 iq io
    subst i1; subst i2
    have hLa := hR.eqs (iq.eqs (by omega))
    have ht : (tn T 13 + i) % 12 < 12 := Nat.mod_lt _ (by omega)
    have hw := who_lt hT hm (cell := cell) (set := onT T) (t := (tn T 13 + i) % 12)
    have hol := opS_lt (T := T) (cell := cell) i
    show ∃ s', fX7_openSteps_5 (n + 1) 92 2 (nI cell) (nI (opS T cell i)) (nI i) hh = _ ∧ _
    rw [fX7_openSteps_5, if_neg (by rw [show (24 : Int32) = nI 24 by decide, p_le (by omega) (by omega)]; omega), c_dayStep hT hm hLa (by omega), ob_s, c_who hT hm hLa (by omega) ht hc, ob2_s]
    simp (disch := omega) only [p0, p1, p2, p3, p4, p5, p6, p7, p8, p9, p10, p11, p12, p14, p19, p23, p24, p25, p29, p30, p31, p35, p40, p46, p58, p60, p88, p99, p100, p112, p150, p9999, nI_add, nI_mul, ix_nI, p_sub, p_div, p_rem, p_shl, p_shr, p_and, p_or, inb_nI, p_eq, oL_d, Nat.one_mul]
    refine ⟨(nI (opS T cell (i + 1)), nI (i + 1), gz hh T (onT T) ((tn T 13 + i) % 12)), ?_, rfl, rfl, iq.tr gz_eqq, fun o ho k => ?_⟩
    · by_cases hz : who T cell (onT T) ((tn T 13 + i) % 12) = 0
      · rw [if_pos hz, opS, if_pos (show opn T cell i = true from decide_eq_true hz)]
      · rw [if_neg hz, opS, if_neg (show ¬ opn T cell i = true from fun q => hz (of_decide_eq_true q))]
    · show hI (gz hh T (onT T) ((tn T 13 + i) % 12)) o k = _
      unfold gz
      rw [rowS_n (by omega)]
      exact io o ho k
  · rintro n ⟨s1, s2, hh⟩ ⟨i1, i2, iq, io⟩
    simp only at i1 i2 iq io
    subst i1; subst i2
    refine ⟨hh, ?_, iq, io⟩
    show fX7_openSteps_5 (n + 1) 92 2 (nI cell) (nI (opS T cell 24)) (nI 24) hh = _
    rw [fX7_openSteps_5, if_pos (by decide)]
theorem c_openAt {r : Nat} {v : Int32} {h : AH} (hr : r < 4) : fX4_openAt 97 (nI r) v h = some (sI h 98 r v) := by
  unfold fX4_openAt
  rw [z970, z98s, if_neg (by rw [p0, p_lt (by omega) (by omega)]; omega), show Int32.ofNat 4 = nI 4 from rfl, if_neg (show ¬ nI 4 ≤ nI r by rw [p_le (by omega) (by omega)]; omega), inb_nI (by omega), oG_d (by omega), ix_nI (by omega), oL_d]
/-- the digit of cell k, of n; the cell -/
def dgt (n a k : Nat) : Nat := a / 100 ^ (n - 1 - k) % 100
def gkf (n a k : Nat) : Nat := dgt n a k - 11
def DgOk (n a : Nat) : Prop := ∀ k, k < n → 11 ≤ dgt n a k ∧ dgt n a k ≤ 40
theorem dgt_s {n a r : Nat} (hr : r < n) : a / 100 ^ (n - (r + 1)) % 100 = dgt n a r ∧ a / 100 ^ (n - (r + 1)) / 100 = a / 100 ^ (n - r) := by
  unfold dgt
  refine ⟨by rw [show n - 1 - r = n - (r + 1) by omega], ?_⟩
  rw [show n - r = n - (r + 1) + 1 by omega, Nat.pow_succ, ← Nat.div_div_eq_div_mul]
theorem c_fill {T : Nat → Int32} {h : AH} {a n : Nat} {a2 : Int32} (hT : WfU T 304) (hR : LaR 2 T h) (hn : n ≤ 4) (ha : a < 2147483648) (hd : DgOk n a) : ∀ r, r ≤ n → ∀ m, r < m → ∀ g, EqQ h g → ∃ h', fX8_plan_40 m 0 a2 (nI n) (nI (a / 100 ^ (n - r))) (dw r) g = fX8_plan_89 0 a2 (nI n) h' ∧ EqQ h h' ∧ (∀ k, hI h' 97 k = hI g 97 k) ∧ (∀ k, k < r → hI h' 98 k = nI (opS T (gkf n a k) 24)) ∧ ∀ k, r ≤ k → hI h' 98 k = hI g 98 k := by
  intro r
  induction r with
  | zero =>
    intro _ m hm g e1
    obtain ⟨m, rfl⟩ : ∃ m', m = m' + 1 := ⟨m - 1, by omega⟩
    refine ⟨g, ?_, e1, fun _ => rfl, fun k hk => absurd hk (Nat.not_lt_zero k), fun _ _ => rfl⟩
    rw [fX8_plan_40, if_pos (show dw 0 < 0 by decide)]
  | succ r ih =>
    intro hr m hm g e1
    obtain ⟨m, rfl⟩ : ∃ m', m = m' + 1 := ⟨m - 1, by omega⟩
    have hq : a / 100 ^ (n - (r + 1)) < 2147483648 := Nat.lt_of_le_of_lt (Nat.div_le_self _ _) ha
    obtain ⟨d1, d2⟩ := dgt_s (n := n) (a := a) (r := r) (by omega)
    obtain ⟨o1, o2⟩ := hd r (by omega)
    have hgk : dgt n a r - 11 = gkf n a r := rfl
    have hgl : gkf n a r < 30 := by unfold gkf; omega
    have hLa := hR.eqs (e1.eqs (by omega))
    obtain ⟨g1, r1, q1, q2⟩ := c_open2 hT (show 46 ≤ 304 by omega) hLa hgl
    obtain ⟨h', s1, s2, s3, s4, s5⟩ := ih (by omega) m (by omega) (sI g1 98 r (nI (opS T (gkf n a r) 24))) (e1.tr (q1.tr (EqQ.sI (by omega) (by omega) (by omega) (by omega))))
    refine ⟨h', ?_, s2, fun k => ?_, fun k hk => ?_, fun k hk => ?_⟩
    · rw [fX8_plan_40, show dw (r + 1) = nI r from rfl, if_neg (by rw [p0, p_lt (by omega) (by omega)]; omega), z00, z10, z04, z06, p100, p_rem hq (by omega), d1, p11, p_sub o1, hgk, r1, ob2_S, c_openAt (by omega), ob_S, p_div hq (by omega), d2, oL_D, dw_m r (by omega), oL_D]
      exact s1
    · rw [s3 k, sI_o (by omega), q2 97 (by omega)]
    · by_cases e : k = r
      · rw [e, s5 r (Nat.le_refl _), sI_e]
      · exact s4 k (by omega)
    · rw [s5 k (by omega), sI_n (by omega), q2 98 (by omega)]
theorem m_goals {a n : Nat} (hn0 : 0 < n) (hn : n ≤ 4) (ha : a < 2147483648) (hd : DgOk n a) : ∀ r, r ≤ n → ∀ m, r < m → ∀ g, ∃ h', fX9_layGoals_50 m 262 (nI n) (nI (a / 100 ^ (n - r))) (dw r) g = some (nI n, h') ∧ EqO 268 268 268 g h' ∧ (∀ k, k < r → hI h' 268 k = nI (gkf n a k)) ∧ ∀ k, r ≤ k → hI h' 268 k = hI g 268 k := by
  intro r
  induction r with
  | zero =>
    intro _ m hm g
    obtain ⟨m, rfl⟩ : ∃ m', m = m' + 1 := ⟨m - 1, by omega⟩
    refine ⟨g, ?_, EqO.rf, fun k hk => absurd hk (Nat.not_lt_zero k), fun _ _ => rfl⟩
    rw [fX9_layGoals_50, if_pos (show dw 0 < 0 by decide)]
    unfold fX9_layGoals_80
    rw [if_neg (by rw [p0, p_eq (by omega) (by omega)]; omega)]
  | succ r ih =>
    intro hr m hm g
    obtain ⟨m, rfl⟩ : ∃ m', m = m' + 1 := ⟨m - 1, by omega⟩
    have hq : a / 100 ^ (n - (r + 1)) < 2147483648 := Nat.lt_of_le_of_lt (Nat.div_le_self _ _) ha
    obtain ⟨d1, d2⟩ := dgt_s (n := n) (a := a) (r := r) (by omega)
    obtain ⟨o1, o2⟩ := hd r (by omega)
    have hgk : dgt n a r - 11 = gkf n a r := rfl
    obtain ⟨h', s1, s2, s4, s5⟩ := ih (by omega) m (by omega) (sI g 268 r (nI (gkf n a r)))
    refine ⟨h', ?_, (EqO.sI (by omega)).tr s2, fun k hk => ?_, fun k hk => ?_⟩
    · rw [fX9_layGoals_50, show dw (r + 1) = nI r from rfl, if_neg (by rw [p0, p_lt (by omega) (by omega)]; omega), q27, q27s, inb_nI (by omega), oG_d (by omega), ix_nI (by omega), p100, p_rem hq (by omega), d1, p11, p_sub o1, hgk, oL_D, p_div hq (by omega), d2, oL_D, dw_m r (by omega), oL_D]
      exact s1
    · by_cases e : k = r
      · rw [e, s5 r (Nat.le_refl _), sI_e]
      · exact s4 k (by omega)
    · rw [s5 k (by omega), sI_n (by omega)]
theorem m1140 {a : Int32} : fX9_in a.toInt64 (11 : Int64) (40 : Int64) = some (bI (wi a 11 40)) := m_in (lo := 11) (hi := 40)
theorem wi_1140 {d : Nat} (hd : d < 2147483648) : wi (nI d) 11 40 = decide (11 ≤ d ∧ d ≤ 40) := by
  unfold wi
  rw [show decide ((11 : Int32) ≤ nI d) = decide (11 ≤ d) from decide_eq_decide.mpr (by rw [p11, p_le (by omega) (by omega)]), show decide (nI d ≤ (40 : Int32)) = decide (d ≤ 40) from decide_eq_decide.mpr (by rw [p40, p_le (by omega) (by omega)])]
  exact (Bool.decide_and _ _).symm
theorem cells_r {a0 : Int32} : ∀ r, r ≤ 4 → ∀ x, 0 < x → x < 2147483648 → ∀ m, r < m → (fX8_planCells_4 m (nI x) (nI (5 - r)) = some 0 ∧ ∀ h, fX9_layGoals_4 m 262 a0 (nI (4 - r)) (nI x) h = some (-1, h)) ∨ ∃ n, 0 < n ∧ n ≤ r ∧ fX8_planCells_4 m (nI x) (nI (5 - r)) = some (nI (4 - r + n)) ∧ (∀ h, fX9_layGoals_4 m 262 a0 (nI (4 - r)) (nI x) h = fX9_layGoals_43 262 a0 (nI (4 - r + n)) h) ∧ ∀ j, j < n → 11 ≤ x / 100 ^ j % 100 ∧ x / 100 ^ j % 100 ≤ 40 := by
  intro r
  induction r with
  | zero =>
    intro _ x hx0 hx m hm
    obtain ⟨m, rfl⟩ : ∃ m', m = m' + 1 := ⟨m - 1, by omega⟩
    refine Or.inl ⟨?_, fun h => ?_⟩
    · rw [fX8_planCells_4, if_pos (by decide)]
    · rw [fX9_layGoals_4, if_neg (by rw [p0, p_le (by omega) (by omega)]; omega), if_pos (by decide)]
  | succ r ih =>
    intro hr x hx0 hx m hm
    obtain ⟨m, rfl⟩ : ∃ m', m = m' + 1 := ⟨m - 1, by omega⟩
    have e8 : fX8_planCells_4 (m + 1) (nI x) (nI (5 - (r + 1))) = if 11 ≤ x % 100 ∧ x % 100 ≤ 40 then (if x / 100 = 0 then some (nI (5 - (r + 1))) else fX8_planCells_4 m (nI (x / 100)) (nI (5 - r))) else some 0 := by
      have hz : (nI (x / 100) = (0 : Int32)) = (x / 100 = 0) := by rw [p0, p_eq (by omega) (by omega)]
      rw [fX8_planCells_4, if_neg (by rw [p4, p_lt (by omega) (by omega)]; omega), p100, p_rem hx (by omega), c_within, ob_s, wi_1140 (by omega), p_div hx (by omega), p1, nI_add, oL_d, oL_d, show 5 - (r + 1) + 1 = 5 - r by omega]
      by_cases e : 11 ≤ x % 100 ∧ x % 100 ≤ 40
      · rw [if_pos e, decide_eq_true e, if_neg (by decide)]
        by_cases e2 : x / 100 = 0
        · rw [if_pos (hz.mpr e2), if_pos e2]
        · rw [if_neg (fun q => e2 (hz.mp q)), if_neg e2]
      · rw [if_neg e, decide_eq_false e, if_pos (by decide)]
    have e9 : ∀ h, fX9_layGoals_4 (m + 1) 262 a0 (nI (4 - (r + 1))) (nI x) h = if 11 ≤ x % 100 ∧ x % 100 ≤ 40 then fX9_layGoals_4 m 262 a0 (nI (4 - r)) (nI (x / 100)) h else some (-1, h) := by
      intro h
      rw [fX9_layGoals_4, if_neg (by rw [p0, p_le (by omega) (by omega)]; omega), if_neg (by rw [p4, p_eq (by omega) (by omega)]; omega), p100, p_rem hx (by omega), m1140, ob_s, wi_1140 (by omega), p_div hx (by omega)]
      by_cases e : 11 ≤ x % 100 ∧ x % 100 ≤ 40
      · rw [if_pos e, decide_eq_true e, if_neg (by decide), p1, nI_add, oL_d, oL_d, show 4 - (r + 1) + 1 = 4 - r by omega]
      · rw [if_neg e, decide_eq_false e, if_pos (by decide)]
    by_cases e : 11 ≤ x % 100 ∧ x % 100 ≤ 40
    · rw [e8, if_pos e]
      by_cases e2 : x / 100 = 0
      · refine Or.inr ⟨1, by omega, by omega, ?_, fun h => ?_, fun j hj => ?_⟩
        · rw [if_pos e2, show 5 - (r + 1) = 4 - (r + 1) + 1 by omega]
        · obtain ⟨m, rfl⟩ : ∃ m', m = m' + 1 := ⟨m - 1, by omega⟩
          rw [e9 h, if_pos e, e2, fX9_layGoals_4, if_pos (by decide), show 4 - (r + 1) + 1 = 4 - r by omega]
        · rw [show j = 0 by omega, Nat.pow_zero, Nat.div_one]; exact e
      · rw [if_neg e2]
        rcases ih (by omega) (x / 100) (by omega) (by omega) m (by omega) with ⟨f1, f2⟩ | ⟨n, n1, n2, n3, n4, n5⟩
        · exact Or.inl ⟨f1, fun h => by rw [e9 h, if_pos e]; exact f2 h⟩
        · refine Or.inr ⟨n + 1, by omega, by omega, ?_, fun h => ?_, fun j hj => ?_⟩
          · rw [n3, show 4 - r + n = 4 - (r + 1) + (n + 1) by omega]
          · rw [e9 h, if_pos e, n4 h, show 4 - r + n = 4 - (r + 1) + (n + 1) by omega]
          · by_cases ej : j = 0
            · rw [ej, Nat.pow_zero, Nat.div_one]; exact e
            · have := n5 (j - 1) (by omega)
              rw [Nat.div_div_eq_div_mul, Nat.mul_comm, ← Nat.pow_succ, show (j - 1).succ = j by omega] at this
              exact this
    · refine Or.inl ⟨by rw [e8, if_neg e], fun h => by rw [e9 h, if_neg e]⟩
theorem rem_neg {a : Int32} (h : a ≤ 0) : ¬ (11 : Int32) ≤ jrem a 100 := by
  have h0 : a.toInt ≤ 0 := Int32.le_iff_toInt_le.mp h
  have h1 := Int32.le_toInt a
  obtain ⟨y, hy⟩ : ∃ y : Nat, a.toInt = -(y : Int) := ⟨(-a.toInt).toNat, by omega⟩
  have hyl : y ≤ 2147483648 := by omega
  have hyq : y / 100 ≤ 21474836 := by omega
  have e1 : (a / 100).toInt = -((y / 100 : Nat) : Int) := by
    rw [Int32.toInt_div, hy, show (100 : Int32).toInt = ((100 : Nat) : Int) by decide, Int.neg_tdiv, ← Int.ofNat_tdiv]
    generalize y / 100 = q at hyq ⊢
    rw [Int.bmod_eq_of_le (by omega) (by omega)]
  have e2 : (a / 100 * 100).toInt = -((y / 100 * 100 : Nat) : Int) := by
    rw [Int32.toInt_mul, e1, show (100 : Int32).toInt = ((100 : Nat) : Int) by decide, Int.bmod_eq_of_le (by omega) (by omega)]
    omega
  have e3 : (jrem a 100).toInt = -((y % 100 : Nat) : Int) := by
    unfold jrem
    rw [Int32.toInt_sub, e2, hy, Int.bmod_eq_of_le (by omega) (by omega)]
    omega
  intro q
  have := Int32.le_iff_toInt_le.mp q
  rw [e3, show (11 : Int32).toInt = 11 by decide] at this
  omega
theorem pos_nI {a : Int32} (h : ¬ a ≤ 0) : ∃ n, a = nI n ∧ 0 < n ∧ n < 2147483648 := by
  have h0 : ¬ a.toInt ≤ 0 := fun q => h (Int32.le_iff_toInt_le.mpr q)
  have h1 := Int32.toInt_lt a
  refine ⟨a.toInt.toNat, Int32.toInt_inj.mp ?_, by omega, by omega⟩
  rw [nI_toInt (by omega)]
  omega
theorem cells_all (a1 : Int32) : (fX8_planCells a1 = some 0 ∧ ∀ h, fX9_layGoals 262 a1 h = some (-1, h)) ∨ ∃ a n, 0 < n ∧ n ≤ 4 ∧ a < 2147483648 ∧ a1 = nI a ∧ fX8_planCells a1 = some (nI n) ∧ (∀ h, fX9_layGoals 262 a1 h = fX9_layGoals_43 262 a1 (nI n) h) ∧ DgOk n a := by
  obtain ⟨F, hF⟩ : ∃ F, FU = F + 1 := ⟨999999, rfl⟩
  by_cases h0 : a1 ≤ 0
  · refine Or.inl ⟨?_, fun h => ?_⟩
    · unfold fX8_planCells
      rw [hF, fX8_planCells_4, if_neg (by decide), c_within, ob_s, show wi (jrem a1 100) 11 40 = false by (unfold wi; rw [decide_eq_false (rem_neg h0), Bool.false_and]), if_pos (by decide)]
    · unfold fX9_layGoals
      rw [hF, fX9_layGoals_4, if_pos h0]
      unfold fX9_layGoals_43
      rw [oL_D, hF, fX9_layGoals_50, if_pos (by decide)]
      unfold fX9_layGoals_80
      rw [if_pos rfl]
  · obtain ⟨a, rfl, ha0, ha⟩ := pos_nI h0
    have h5 : 4 < FU := FU_lt (by omega)
    unfold fX8_planCells fX9_layGoals
    rcases cells_r (a0 := nI a) 4 (Nat.le_refl _) a ha0 ha FU h5 with q | ⟨n, n1, n2, n3, n4, n5⟩
    · exact Or.inl q
    · rw [show 4 - 4 + n = n by omega] at n3 n4
      exact Or.inr ⟨a, n, n1, n2, ha, rfl, n3, n4, fun k hk => n5 (n - 1 - k) (by omega)⟩
