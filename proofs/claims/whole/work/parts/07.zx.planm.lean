/-! PURE: plan, the model's loops -/
theorem q27 : PC 262 7 = 268 := rfl
theorem q27s : SZ 268 = 4 := rfl
theorem q28 : PC 262 8 = 269 := rfl
theorem q28s : SZ 269 = 96 := rfl
theorem q29 : PC 262 9 = 270 := rfl
theorem q29s : SZ 270 = 4 := rfl
theorem q2a : PC 262 10 = 271 := rfl
theorem q2as : SZ 271 = 4 := rfl
theorem pM : (1000000 : Int32) = nI 1000000 := by decide
def dw : Nat → Int32
  | 0 => -1
  | r + 1 => nI r
theorem dw_m : ∀ r, r < 4 → nI r + (-1 : Int32) = dw r := by decide +kernel
theorem EqO.m (a b : Nat) (ha : 267 ≤ a) (hb : b ≤ 271) (hab : a ≤ b) {h h' : AH} (q : EqO a b b h h') : EqM h h' := fun o k e => ⟨q.1 o k (by unfold keepM at e; omega) (by unfold keepM at e; omega), q.2.1 o k⟩
theorem m_32 {P : Option (Int32 × AH) → Prop} {k50 : AH → Option (Int32 × AH)} {k59 : Nat → Int32 → Int32 → Int32 → Int32 → Int32 → AH → Option (Int32 × AH)} {n d r : Nat} {x3 x4 x5 : Int32} {s : Nat → Nat} {g : AH} (hn : n ≤ 4) (hr : r < n) (hd : d < 24) (hs : ∀ k, r < k → k < n → hI g 270 k = nI (s k) ∧ s k < 24) (h50 : (∃ j, r < j ∧ j < n ∧ s j = d) → P (k50 g)) (h59 : (∀ j, r < j → j < n → s j ≠ d) → P (k59 262 (nI n) x3 x4 x5 (nI d) g)) : P (fX9_lastBy_32 k50 k59 FU 262 (nI n) x3 x4 x5 (nI d) (nI (r + 1)) g) := by
  have stp : ∀ m i, r + 1 + i < n → fX9_lastBy_32 k50 k59 (m + 1) 262 (nI n) x3 x4 x5 (nI d) (nI (r + 1 + i)) g = if s (r + 1 + i) = d then k50 g else fX9_lastBy_32 k50 k59 m 262 (nI n) x3 x4 x5 (nI d) (nI (r + 1 + (i + 1))) g := by
    intro m i hi
    obtain ⟨s1, s2⟩ := hs (r + 1 + i) (by omega) hi
    have hz : (nI (s (r + 1 + i)) = nI d) = (s (r + 1 + i) = d) := p_eq (by omega) (by omega)
    rw [fX9_lastBy_32, if_neg (by rw [p_le (by omega) (by omega)]; omega), q29, q29s, inb_nI (by omega), oG_d (by omega), ix_nI (by omega), s1, p1, nI_add, oL_d]
    by_cases e : s (r + 1 + i) = d
    · rw [if_pos (hz.mpr e), if_pos e]
    · rw [if_neg (fun q => e (hz.mp q)), if_neg e]
      rfl
  rcases firstOf (fun i => decide (s (r + 1 + i) = d)) (n - (r + 1)) with hno | ⟨k, k1, k2, k3⟩
  · have e : fX9_lastBy_32 k50 k59 FU 262 (nI n) x3 x4 x5 (nI d) (nI (r + 1)) g = k59 262 (nI n) x3 x4 x5 (nI d) g := by
      refine run_loop (fun m (x : Int32) => fX9_lastBy_32 k50 k59 m 262 (nI n) x3 x4 x5 (nI d) x g) (fun i => nI (r + 1 + i)) (n - (r + 1)) _ (fun m i hi => ?_) (fun m => ?_) FU (FU_lt (by omega))
      · show fX9_lastBy_32 k50 k59 (m + 1) 262 (nI n) x3 x4 x5 (nI d) (nI (r + 1 + i)) g = fX9_lastBy_32 k50 k59 m 262 (nI n) x3 x4 x5 (nI d) (nI (r + 1 + (i + 1))) g
        rw [stp m i (by omega), if_neg (of_decide_eq_false (hno i hi))]
      · show fX9_lastBy_32 k50 k59 (m + 1) 262 (nI n) x3 x4 x5 (nI d) (nI (r + 1 + (n - (r + 1)))) g = _
        rw [fX9_lastBy_32, if_pos (by rw [p_le (by omega) (by omega)]; omega)]
    rw [e]
    refine h59 (fun j hj1 hj2 q => ?_)
    have := of_decide_eq_false (hno (j - (r + 1)) (by omega))
    rw [show r + 1 + (j - (r + 1)) = j by omega] at this
    exact this q
  · have e : fX9_lastBy_32 k50 k59 FU 262 (nI n) x3 x4 x5 (nI d) (nI (r + 1)) g = k50 g := by
      refine run_loop (fun m (x : Int32) => fX9_lastBy_32 k50 k59 m 262 (nI n) x3 x4 x5 (nI d) x g) (fun i => nI (r + 1 + i)) k _ (fun m i hi => ?_) (fun m => ?_) FU (FU_lt (by omega))
      · show fX9_lastBy_32 k50 k59 (m + 1) 262 (nI n) x3 x4 x5 (nI d) (nI (r + 1 + i)) g = fX9_lastBy_32 k50 k59 m 262 (nI n) x3 x4 x5 (nI d) (nI (r + 1 + (i + 1))) g
        rw [stp m i (by omega), if_neg (of_decide_eq_false (k3 i hi))]
      · show fX9_lastBy_32 k50 k59 (m + 1) 262 (nI n) x3 x4 x5 (nI d) (nI (r + 1 + k)) g = _
        rw [stp m k (by omega), if_pos (of_decide_eq_true k2)]
    rw [e]
    exact h50 ⟨r + 1 + k, by omega, by omega, of_decide_eq_true k2⟩
def FrH (A : Nat → Nat) (n : Nat) (h : AH) : Prop := ∀ k, k < n → ∀ t, t < 24 → hI h 269 (24 * k + t) = bI ((A k).testBit t)
theorem m_lastBy {A : Nat → Nat} {n c : Nat} {h : AH} (hn0 : 0 < n) (hn : n ≤ 4) (hc : c < 2147483648) (hF : FrH A n h) : ∃ v h', fX9_lastBy 262 (nI c) (nI n) h = some (nI v, h') ∧ EqO 270 270 270 h h' ∧ ((gC A n c ∧ v = mxd n c n ∧ ∀ k, k < n → hI h' 270 k = nI (dg n c k)) ∨ (¬ gC A n c ∧ v = 1000000)) := by
  have key : ∀ r, r ≤ n → ∀ m, r < m → ∀ g, EqO 270 270 270 h g → (∀ k, r ≤ k → k < n → hI g 270 k = nI (dg n c k)) → (∀ k, r ≤ k → k < n → (A k).testBit (dg n c k) = true) → (∀ i j, r ≤ i → i < j → j < n → dg n c i ≠ dg n c j) → ∃ v h', fX9_lastBy_10 m 262 (nI n) (nI (c / 24 ^ (n - r))) (nI (mxd n c (n - r))) (dw r) g = some (nI v, h') ∧ EqO 270 270 270 h h' ∧ ((gC A n c ∧ v = mxd n c n ∧ ∀ k, k < n → hI h' 270 k = nI (dg n c k)) ∨ (¬ gC A n c ∧ v = 1000000)) := by
    intro r
    induction r with
    | zero =>
      intro _ m hm g e1 e2 e3 e4
      obtain ⟨m, rfl⟩ : ∃ m', m = m' + 1 := ⟨m - 1, by omega⟩
      refine ⟨mxd n c n, g, ?_, e1, Or.inl ⟨⟨fun k hk => e3 k (Nat.zero_le k) hk, fun i j hij hj => e4 i j (Nat.zero_le i) hij hj⟩, rfl, fun k hk => e2 k (Nat.zero_le k) hk⟩⟩
      rw [fX9_lastBy_10, if_pos (show dw 0 < 0 by decide), Nat.sub_zero]
    | succ r ih =>
      intro hr m hm g e1 e2 e3 e4
      obtain ⟨m, rfl⟩ : ∃ m', m = m' + 1 := ⟨m - 1, by omega⟩
      have hq : c / 24 ^ (n - (r + 1)) < 2147483648 := Nat.lt_of_le_of_lt (Nat.div_le_self _ _) hc
      have hd : c / 24 ^ (n - (r + 1)) % 24 = dg n c r := by
        unfold dg
        rw [show n - 1 - r = n - (r + 1) by omega]
      have hq2 : c / 24 ^ (n - (r + 1)) / 24 = c / 24 ^ (n - r) := by
        rw [show n - r = n - (r + 1) + 1 by omega, Nat.pow_succ, ← Nat.div_div_eq_div_mul]
      have hd24 : dg n c r < 24 := dg_lt
      have hmx : mxd n c (n - (r + 1)) ≤ 24 := mxd_le _ (by omega) (fun k _ => dg_lt)
      have em : mxd n c (n - r) = if dg n c r + 1 ≤ mxd n c (n - (r + 1)) then mxd n c (n - (r + 1)) else dg n c r + 1 := by
        rw [show n - r = n - (r + 1) + 1 by omega]
        show (if dg n c (n - 1 - (n - (r + 1))) + 1 ≤ _ then _ else _) = _
        rw [show n - 1 - (n - (r + 1)) = r by omega]
      have bad : ¬ gC A n c → ∃ v h', some ((1000000 : Int32), g) = some (nI v, h') ∧ EqO 270 270 270 h h' ∧ ((gC A n c ∧ v = mxd n c n ∧ ∀ k, k < n → hI h' 270 k = nI (dg n c k)) ∨ (¬ gC A n c ∧ v = 1000000)) := fun q => ⟨1000000, g, by rw [pM], e1, Or.inr ⟨q, rfl⟩⟩
      rw [fX9_lastBy_10, show dw (r + 1) = nI r from rfl, if_neg (by rw [p0, p_lt (by omega) (by omega)]; omega), p24, p_rem hq (by omega), hd, oL_D, p_div hq (by omega), hq2, oL_D, p1, nI_add, oL_D]
      refine m_32 (P := fun R => ∃ v h', R = some (nI v, h') ∧ EqO 270 270 270 h h' ∧ ((gC A n c ∧ v = mxd n c n ∧ ∀ k, k < n → hI h' 270 k = nI (dg n c k)) ∨ (¬ gC A n c ∧ v = 1000000))) (s := dg n c) hn (by omega) hd24 (fun k hk1 hk2 => ⟨e2 k hk1 hk2, dg_lt⟩) (fun ⟨j, j1, j2, j3⟩ => ?_) (fun hne => ?_)
      · exact bad (fun q => q.2 r j j1 j2 j3.symm)
      · have hfr : hI g 269 (24 * r + dg n c r) = bI ((A r).testBit (dg n c r)) := by
          rw [e1.1 269 _ (by omega) (by omega)]
          exact hF r (by omega) _ hd24
        rw [q28, q28s, q29, q29s, nI_mul, nI_add, inb_nI (by omega), oG_d (by omega), ix_nI (by omega), hfr]
        cases hb : (A r).testBit (dg n c r) with
        | false =>
          rw [if_pos (by decide)]
          exact bad (fun q => by rw [q.1 r (by omega)] at hb; cases hb)
        | true =>
          rw [if_neg (by decide), inb_nI (by omega), oG_d (by omega), oL_D, ix_nI (by omega), nI_add]
          have e1' : EqO 270 270 270 h (sI g 270 r (nI (dg n c r))) := e1.tr (EqO.sI (by omega))
          have e2' : ∀ k, r ≤ k → k < n → hI (sI g 270 r (nI (dg n c r))) 270 k = nI (dg n c k) := by
            intro k hk1 hk2
            by_cases e : k = r
            · rw [e, sI_e]
            · rw [sI_n (by omega)]; exact e2 k (by omega) hk2
          have e3' : ∀ k, r ≤ k → k < n → (A k).testBit (dg n c k) = true := by
            intro k hk1 hk2
            by_cases e : k = r
            · rw [e]; exact hb
            · exact e3 k (by omega) hk2
          have e4' : ∀ i j, r ≤ i → i < j → j < n → dg n c i ≠ dg n c j := by
            intro i j hi hij hj
            by_cases e : i = r
            · rw [e]; exact fun q => hne j (by omega) hj q.symm
            · exact e4 i j (by omega) hij hj
          have fin := ih (by omega) m (by omega) _ e1' e2' e3' e4'
          have hz : (nI (dg n c r + 1) ≤ nI (mxd n c (n - (r + 1)))) = (dg n c r + 1 ≤ mxd n c (n - (r + 1))) := p_le (by omega) (by omega)
          rw [em] at fin
          by_cases e : dg n c r + 1 ≤ mxd n c (n - (r + 1))
          · rw [if_pos e] at fin
            rw [if_pos (hz.mpr e)]
            unfold fX9_lastBy_105
            rw [dw_m r (by omega), oL_D]
            exact fin
          · rw [if_neg e] at fin
            rw [if_neg (fun q => e (hz.mp q))]
            unfold fX9_lastBy_105
            rw [dw_m r (by omega), oL_D]
            exact fin
  have g := key n (Nat.le_refl _) FU (FU_lt (by omega)) h EqO.rf (fun k h1 h2 => by omega) (fun k h1 h2 => by omega) (fun i j h1 h2 h3 => by omega)
  rw [Nat.sub_self, Nat.pow_zero, Nat.div_one, show mxd n c 0 = 0 from rfl, show dw n = nI (n - 1) by (obtain ⟨n, rfl⟩ : ∃ m, n = m + 1 := ⟨n - 1, by omega⟩); rfl] at g
  unfold fX9_lastBy
  rw [p1, p_sub (by omega), oL_D, p0]
  exact g
def InvC (A : Nat → Nat) (n so : Nat) (g : AH) (c : Nat) : Prop := (so = 1000000 ∧ ∀ c', c' < c → ¬ gC A n c') ∨ ∃ b, b < c ∧ gC A n b ∧ so = mxd n b n ∧ (∀ k, k < n → hI g 271 k = nI (dg n b k)) ∧ (∀ c', c' < c → gC A n c' → so ≤ mxd n c' n) ∧ ∀ c', c' < b → gC A n c' → so < mxd n c' n
theorem m_116n {k149 : Nat → Int32 → Int32 → Int32 → Int32 → Int32 → Int32 → AH → Option (Int32 × AH)} {n so v : Nat} {x2 x4 x6 : Int32} {g : AH} (hn0 : 0 < n) (hn : n ≤ 4) (hv : so ≤ v) (hs : v < 2147483648) : fX9_plan_116 k149 FU 262 x2 (nI n) x4 (nI so) x6 (nI v) (nI 0) g = k149 262 x2 (nI n) x4 (nI so) x6 (nI v) g := by
  refine run_loop (fun m (x : Int32) => fX9_plan_116 k149 m 262 x2 (nI n) x4 (nI so) x6 (nI v) x g) (fun i => nI 0) 0 _ (fun m i hi => absurd hi (Nat.not_lt_zero i)) (fun m => ?_) FU (FU_lt (by omega))
  show fX9_plan_116 k149 (m + 1) 262 x2 (nI n) x4 (nI so) x6 (nI v) (nI 0) g = _
  rw [fX9_plan_116, if_neg (by rw [p_le (by omega) (by omega)]; omega), if_pos (by rw [p_le (by omega) (by omega)]; omega)]
theorem m_116 {P : Option (Int32 × AH) → Prop} {k149 : Nat → Int32 → Int32 → Int32 → Int32 → Int32 → Int32 → AH → Option (Int32 × AH)} {n so v : Nat} {x2 x4 x6 : Int32} {g : AH} (hn : n ≤ 4) (hv : v < so) (hs : so < 2147483648) (hP : ∀ g', EqO 271 271 271 g g' → (∀ k, k < n → hI g' 271 k = hI g 270 k) → P (k149 262 x2 (nI n) x4 (nI so) x6 (nI v) g')) : P (fX9_plan_116 k149 FU 262 x2 (nI n) x4 (nI so) x6 (nI v) (nI 0) g) := by
  refine run_rel (fun m (x : Int32 × AH) => fX9_plan_116 k149 m 262 x2 (nI n) x4 (nI so) x6 (nI v) x.1 x.2) (fun i x => x.1 = nI i ∧ EqO 271 271 271 g x.2 ∧ ∀ k, k < i → hI x.2 271 k = hI g 270 k) n P ?_ ?_ (nI 0, g) ⟨rfl, EqO.rf, fun k hk => absurd hk (Nat.not_lt_zero k)⟩ FU (FU_lt (by omega))
  · rintro m i ⟨s1, g1⟩ hi ⟨i1, i2, i3⟩
    simp only at i1 i2 i3
    subst i1
    refine ⟨(nI (i + 1), sI g1 271 i (hI g 270 i)), ?_, rfl, i2.tr (EqO.sI (by omega)), fun k hk => ?_⟩
    · show fX9_plan_116 k149 (m + 1) 262 x2 (nI n) x4 (nI so) x6 (nI v) (nI i) g1 = fX9_plan_116 k149 m 262 x2 (nI n) x4 (nI so) x6 (nI v) (nI (i + 1)) (sI g1 271 i (hI g 270 i))
      rw [fX9_plan_116, if_neg (by rw [p_le (by omega) (by omega)]; omega), if_neg (by rw [p_le (by omega) (by omega)]; omega), q29, q29s, q2a, q2as, inb_nI (by omega), oG_d (by omega), oG_d (by omega), oL_d, ix_nI (by omega), i2.1 270 i (by omega) (by omega), p1, nI_add, oL_d]
    · show hI (sI g1 271 i (hI g 270 i)) 271 k = _
      by_cases e : k = i
      · rw [e, sI_e]
      · rw [sI_n (by omega)]; exact i3 k (by omega)
  · rintro m ⟨s1, g1⟩ ⟨i1, i2, i3⟩
    simp only at i1 i2 i3
    subst i1
    show P (fX9_plan_116 k149 (m + 1) 262 x2 (nI n) x4 (nI so) x6 (nI v) (nI n) g1)
    rw [fX9_plan_116, if_pos (by rw [p_le (by omega) (by omega)]; exact Nat.le_refl _)]
    exact hP g1 i2 i3
theorem p24_lt : ∀ n, n ≤ 4 → 24 ^ n ≤ 331776 := by decide +kernel
theorem m_codes {A : Nat → Nat} {n : Nat} {a2 : Int32} {h : AH} (hn0 : 0 < n) (hn : n ≤ 4) (hF : FrH A n h) : ∃ so h2, fX9_plan_97 FU 262 a2 (nI n) (nI (24 ^ n)) (nI 1000000) (nI 0) h = fX9_plan_171 262 a2 (nI n) (nI so) h2 ∧ EqO 270 271 271 h h2 ∧ so ≤ 1000000 ∧ InvC A n so h2 (24 ^ n) := by
  have hN := p24_lt n hn
  generalize 24 ^ n = N at hN
  refine run_rel (fun m (x : Int32 × Int32 × AH) => fX9_plan_97 m 262 a2 (nI n) (nI N) x.1 x.2.1 x.2.2) (fun i x => ∃ so, x.1 = nI so ∧ x.2.1 = nI i ∧ EqO 270 271 271 h x.2.2 ∧ so ≤ 1000000 ∧ InvC A n so x.2.2 i) N (fun R => ∃ so h2, R = fX9_plan_171 262 a2 (nI n) (nI so) h2 ∧ EqO 270 271 271 h h2 ∧ so ≤ 1000000 ∧ InvC A n so h2 N) ?_ ?_ (nI 1000000, nI 0, h) ⟨1000000, rfl, rfl, EqO.rf, Nat.le_refl _, Or.inl ⟨rfl, fun c' hc => absurd hc (Nat.not_lt_zero c')⟩⟩ FU (FU_lt (by omega))
  · rintro m i ⟨s1, s2, g⟩ hi ⟨so, i1, i2, i3, i4, i5⟩
    simp only at i1 i2 i3 i5
    subst i1; subst i2
    have hFg : FrH A n g := fun k hk t ht => by rw [i3.1 269 _ (by omega) (by omega)]; exact hF k hk t ht
    obtain ⟨v, g1, r1, r2, r3⟩ := m_lastBy (c := i) hn0 hn (by omega) hFg
    have hv : v ≤ 1000000 := by
      rcases r3 with ⟨-, e, -⟩ | ⟨-, e⟩
      · have := mxd_le (n := n) (c := i) (X := 24) n (Nat.le_refl _) (fun k _ => dg_lt); omega
      · omega
    have h3 : EqO 270 271 271 h g1 := i3.tr (r2.wd (by omega) (by omega) (by omega))
    have row : ∀ k, hI g1 271 k = hI g 271 k := fun k => r2.1 271 k (by omega) (by omega)
    show ∃ s', fX9_plan_97 (m + 1) 262 a2 (nI n) (nI N) (nI so) (nI i) g = _ ∧ _
    rw [fX9_plan_97, if_neg (by rw [p_le (by omega) (by omega)]; omega), r1, ob2_S, p0]
    by_cases hle : so ≤ v
    · rw [m_116n hn0 hn hle (by omega)]
      unfold fX9_plan_149
      rw [if_pos (by rw [p_le (by omega) (by omega)]; exact hle)]
      unfold fX9_plan_163
      rw [p1, nI_add, oL_D]
      refine ⟨(nI so, nI (i + 1), g1), rfl, so, rfl, rfl, h3, i4, ?_⟩
      show InvC A n so g1 (i + 1)
      rcases i5 with ⟨j1, j2⟩ | ⟨b, b1, b2, b3, b4, b5, b6⟩
      · refine Or.inl ⟨j1, fun c' hc => ?_⟩
        by_cases e : c' = i
        · rcases r3 with ⟨-, e2, -⟩ | ⟨e2, -⟩
          · have := mxd_le (n := n) (c := i) (X := 24) n (Nat.le_refl _) (fun k _ => dg_lt); omega
          · rw [e]; exact e2
        · exact j2 c' (by omega)
      · refine Or.inr ⟨b, by omega, b2, b3, fun k hk => (row k).trans (b4 k hk), fun c' hc hg => ?_, b6⟩
        by_cases e : c' = i
        · rcases r3 with ⟨-, e2, -⟩ | ⟨e2, -⟩
          · rw [e, ← e2]; exact hle
          · rw [e] at hg; exact absurd hg e2
        · exact b5 c' (by omega) hg
    · have hgC : gC A n i ∧ v = mxd n i n ∧ ∀ k, k < n → hI g1 270 k = nI (dg n i k) := by
        rcases r3 with q | ⟨-, e⟩
        · exact q
        · omega
      refine m_116 (P := fun R => ∃ s' : Int32 × Int32 × AH, R = fX9_plan_97 m 262 a2 (nI n) (nI N) s'.1 s'.2.1 s'.2.2 ∧ ∃ so, s'.1 = nI so ∧ s'.2.1 = nI (i + 1) ∧ EqO 270 271 271 h s'.2.2 ∧ so ≤ 1000000 ∧ InvC A n so s'.2.2 (i + 1)) hn (Nat.lt_of_not_le hle) (by omega) (fun g' w1 w2 => ?_)
      unfold fX9_plan_149
      rw [if_neg (by rw [p_le (by omega) (by omega)]; exact hle)]
      unfold fX9_plan_163
      rw [p1, nI_add, oL_D]
      refine ⟨(nI v, nI (i + 1), g'), rfl, v, rfl, rfl, h3.tr (w1.wd (by omega) (by omega) (by omega)), hv, ?_⟩
      show InvC A n v g' (i + 1)
      obtain ⟨x1, x2, x3⟩ := hgC
      refine Or.inr ⟨i, by omega, x1, x2, fun k hk => (w2 k hk).trans (x3 k hk), fun c' hc hg => ?_, fun c' hc hg => ?_⟩
      · by_cases e : c' = i
        · rw [e, x2]; exact Nat.le_refl _
        · rcases i5 with ⟨-, j2⟩ | ⟨b, b1, b2, b3, b4, b5, b6⟩
          · exact absurd hg (j2 c' (by omega))
          · have := b5 c' (by omega) hg; omega
      · rcases i5 with ⟨-, j2⟩ | ⟨b, b1, b2, b3, b4, b5, b6⟩
        · exact absurd hg (j2 c' hc)
        · have := b5 c' hc hg; omega
  · rintro m ⟨s1, s2, g⟩ ⟨so, i1, i2, i3, i4, i5⟩
    simp only at i1 i2 i3 i5
    subst i1; subst i2
    refine ⟨so, g, ?_, i3, i4, i5⟩
    show fX9_plan_97 (m + 1) 262 a2 (nI n) (nI N) (nI so) (nI N) g = _
    rw [fX9_plan_97, if_pos (by rw [p_le (by omega) (by omega)]; exact Nat.le_refl _)]
