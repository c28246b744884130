/-! PURE: plan, the codes -/
def dg (n c k : Nat) : Nat := c / 24 ^ (n - 1 - k) % 24
def gC (A : Nat → Nat) (n c : Nat) : Prop := (∀ k, k < n → (A k).testBit (dg n c k) = true) ∧ ∀ i j, i < j → j < n → dg n c i ≠ dg n c j
/-- the greatest of the last i digits, and one -/
def mxd (n c : Nat) : Nat → Nat
  | 0 => 0
  | i + 1 => if dg n c (n - 1 - i) + 1 ≤ mxd n c i then mxd n c i else dg n c (n - 1 - i) + 1
theorem dg_lt {n c k : Nat} : dg n c k < 24 := Nat.mod_lt _ (by decide)
theorem mxd_le {n c X : Nat} : ∀ i, i ≤ n → (∀ k, k < n → dg n c k + 1 ≤ X) → mxd n c i ≤ X := by
  intro i
  induction i with
  | zero => intro _ _; exact Nat.zero_le _
  | succ i ih =>
    intro hi h
    have h1 := ih (by omega) h
    have h2 := h (n - 1 - i) (by omega)
    unfold mxd
    split <;> omega
theorem mxd_ge {n c : Nat} : ∀ i, i ≤ n → ∀ k, k < n → n - i ≤ k → dg n c k + 1 ≤ mxd n c i := by
  intro i
  induction i with
  | zero => intro _ k _ _; omega
  | succ i ih =>
    intro hi k hk hk2
    unfold mxd
    by_cases e : k = n - 1 - i
    · rw [← e]; split <;> omega
    · have := ih (by omega) k hk (by omega)
      split <;> omega
theorem pre_s {n c k : Nat} (hk : k < n) : c / 24 ^ (n - (k + 1)) = 24 * (c / 24 ^ (n - k)) + dg n c k := by
  have e1 : n - k = n - (k + 1) + 1 := by omega
  have e2 : n - 1 - k = n - (k + 1) := by omega
  unfold dg
  rw [e1, e2, Nat.pow_succ, ← Nat.div_div_eq_div_mul]
  exact (Nat.div_add_mod _ 24).symm
theorem code_lt {n c c' j : Nat} (hc : c < 24 ^ n) (hc' : c' < 24 ^ n) (hj : j < n) (he : ∀ k, k < j → dg n c k = dg n c' k) (hl : dg n c j < dg n c' j) : c < c' := by
  have h1 : ∀ k, k ≤ j → c / 24 ^ (n - k) = c' / 24 ^ (n - k) := by
    intro k
    induction k with
    | zero => intro _; rw [Nat.sub_zero, Nat.div_eq_of_lt hc, Nat.div_eq_of_lt hc']
    | succ k ih =>
      intro hk
      rw [pre_s (by omega), pre_s (by omega), ih (by omega), he k (by omega)]
  have h2 : ∀ d, j + 1 + d ≤ n → c / 24 ^ (n - (j + 1 + d)) < c' / 24 ^ (n - (j + 1 + d)) := by
    intro d
    induction d with
    | zero =>
      intro hd
      rw [Nat.add_zero, pre_s (by omega), pre_s (by omega), h1 j (Nat.le_refl _)]
      omega
    | succ d ih =>
      intro hd
      have g := ih (by omega)
      rw [show j + 1 + (d + 1) = j + 1 + d + 1 by omega, pre_s (by omega), pre_s (by omega)]
      have := dg_lt (n := n) (c := c) (k := j + 1 + d)
      omega
  have h3 := h2 (n - (j + 1)) (by omega)
  rw [show n - (j + 1 + (n - (j + 1))) = 0 by omega, Nat.pow_zero, Nat.div_one, Nat.div_one] at h3
  exact h3
def cdv (s : Nat → Nat) : Nat → Nat
  | 0 => 0
  | k + 1 => 24 * cdv s k + s k
theorem cdv_lt {s : Nat → Nat} : ∀ n, (∀ k, k < n → s k < 24) → cdv s n < 24 ^ n := by
  intro n
  induction n with
  | zero => intro _; exact Nat.one_pos
  | succ n ih =>
    intro h
    have h1 := ih (fun k hk => h k (by omega))
    have h2 := h n (by omega)
    have h3 : 24 ^ (n + 1) = 24 * 24 ^ n := by rw [Nat.pow_succ, Nat.mul_comm]
    show 24 * cdv s n + s n < _
    omega
theorem cdv_div {s : Nat → Nat} {a : Nat} : ∀ b, (∀ k, k < a + b → s k < 24) → cdv s (a + b) / 24 ^ b = cdv s a := by
  intro b
  induction b with
  | zero => intro _; rw [Nat.pow_zero, Nat.div_one]; rfl
  | succ b ih =>
    intro h
    have h2 := h (a + b) (by omega)
    show (24 * cdv s (a + b) + s (a + b)) / 24 ^ (b + 1) = _
    rw [Nat.pow_succ, Nat.mul_comm (24 ^ b), ← Nat.div_div_eq_div_mul, show (24 * cdv s (a + b) + s (a + b)) / 24 = cdv s (a + b) by omega]
    exact ih (fun k hk => h k (by omega))
theorem cdv_dg {s : Nat → Nat} {n k : Nat} (h : ∀ k, k < n → s k < 24) (hk : k < n) : dg n (cdv s n) k = s k := by
  have h1 := cdv_div (s := s) (a := k + 1) (n - 1 - k) (fun j hj => h j (by omega))
  have h2 := h k hk
  rw [show k + 1 + (n - 1 - k) = n by omega] at h1
  unfold dg
  rw [h1]
  show (24 * cdv s k + s k) % 24 = s k
  omega
theorem fA_bit {A : Nat → Nat} {F i t : Nat} : (fA A F i).testBit t = ((A i).testBit t && F.testBit t) := Nat.testBit_and _ _ _
noncomputable def gsp (A : Nat → Nat) (n L k : Nat) : Nat := gst A n k (fre A n L k)
theorem fre_bit {A : Nat → Nat} {n L t : Nat} (hL : L < 24) (hg : ∀ k, k < n → gsp A n L k < 24) : ∀ k, k ≤ n → ((fre A n L k).testBit t = true ↔ t ≤ L ∧ ∀ j, j < k → gsp A n L j ≠ t) := by
  intro k
  induction k with
  | zero =>
    intro _
    show (upT L).testBit t = true ↔ _
    rw [upT_bit, decide_eq_true_eq]
    exact ⟨fun q => ⟨q, fun j hj => absurd hj (Nat.not_lt_zero j)⟩, fun q => q.1⟩
  | succ k ih =>
    intro hk
    have g := hg k (by omega)
    show (clrG (fre A n L k) (gsp A n L k)).testBit t = true ↔ _
    rw [clrG_bit (by omega), Bool.and_eq_true, ih (by omega), Bool.and_eq_true, decide_eq_true_eq, Bool.not_eq_true', decide_eq_false_iff_not]
    constructor
    · rintro ⟨⟨q1, q2⟩, q3, q4⟩
      refine ⟨q1, fun j hj => ?_⟩
      by_cases e : j = k
      · rw [e]; exact q4
      · exact q2 j (by omega)
    · rintro ⟨q1, q2⟩
      exact ⟨⟨q1, fun j hj => q2 j (by omega)⟩, by omega, q2 k (by omega)⟩
theorem greedy {A : Nat → Nat} {n L : Nat} (h0 : HL (fA A (upT L)) n 0) : ∀ k, k ≤ n → HL (fA A (fre A n L k)) n k ∧ ∀ j, j < k → gsp A n L j < 24 ∧ (A j &&& fre A n L j).testBit (gsp A n L j) = true := by
  intro k
  induction k with
  | zero => intro _; exact ⟨h0, fun j hj => absurd hj (Nat.not_lt_zero j)⟩
  | succ k ih =>
    intro hk
    obtain ⟨g1, g2⟩ := ih (by omega)
    obtain ⟨x, x1, x2, x3⟩ := hl_ext (A := fun _ => fA A (fre A n L k)) (A' := fun x => fA A (clrG (fre A n L k) x)) (n := n) (lo := k) (by omega) g1 (fun x hx i y hy => by
      show (fA A (clrG (fre A n L k) x) i).testBit y = ((fA A (fre A n L k) i).testBit y && !decide (x = y))
      rw [fA_bit, fA_bit, clrG_bit (by omega), decide_eq_true (show y < 32 by omega), Bool.true_and, Bool.and_assoc])
    obtain ⟨l1, l2, l3⟩ := lst_is (p := fun t => (A k &&& fre A n L k).testBit t && hB A n (k + 1) (clrG (fre A n L k) t)) 24
    have l1' : gsp A n L k ≤ 24 := l1
    have l2' : ∀ i, i < gsp A n L k → ((A k &&& fre A n L k).testBit i && hB A n (k + 1) (clrG (fre A n L k) i)) = false := l2
    have l3' : gsp A n L k < 24 → ((A k &&& fre A n L k).testBit (gsp A n L k) && hB A n (k + 1) (clrG (fre A n L k) (gsp A n L k))) = true := l3
    have hlt : gsp A n L k < 24 := by
      refine Nat.lt_of_not_le fun q => ?_
      have := l2' x (by omega)
      rw [show (A k &&& fre A n L k).testBit x = true from x2, hB_t.mpr x3] at this
      exact absurd this (by decide)
    have h3 := l3' hlt
    rw [Bool.and_eq_true] at h3
    refine ⟨hB_t.mp h3.2, fun j hj => ?_⟩
    by_cases e : j = k
    · rw [e]; exact ⟨hlt, h3.1⟩
    · exact g2 j (by omega)
theorem gC_soon {A : Nat → Nat} {n c : Nat} (hn : 0 < n) (hg : gC A n c) : sLa A n + 1 ≤ mxd n c n ∧ sLa A n < 24 := by
  have h1 : mxd n c n ≤ 24 := mxd_le n (Nat.le_refl _) (fun k _ => dg_lt)
  have h2 := mxd_ge (c := c) n (Nat.le_refl _) 0 hn (by omega)
  have h3 : HL (fA A (upT (mxd n c n - 1))) n 0 := hl_of (s := dg n c) (fun i _ hi => ⟨dg_lt, by
    have := mxd_ge (c := c) n (Nat.le_refl _) i hi (by omega)
    rw [fA_bit, hg.1 i hi, upT_bit, decide_eq_true (by omega)]; rfl⟩) (fun i j _ hij hj => hg.2 i j hij hj)
  obtain ⟨l1, l2, l3⟩ := lst_is (p := fun L => hB A n 0 (upT L)) 24
  have l2' : ∀ i, i < sLa A n → hB A n 0 (upT i) = false := l2
  have h4 : ¬ mxd n c n - 1 < sLa A n := fun q => by
    have := l2' _ q
    rw [hB_t.mpr h3] at this
    exact absurd this (by decide)
  omega
theorem sLa_good {A : Nat → Nat} {n : Nat} (hs : sLa A n < 24) : (∀ k, k < n → gsp A n (sLa A n) k < 24) ∧ cdv (gsp A n (sLa A n)) n < 24 ^ n ∧ gC A n (cdv (gsp A n (sLa A n)) n) ∧ mxd n (cdv (gsp A n (sLa A n)) n) n ≤ sLa A n + 1 := by
  obtain ⟨l1, l2, l3⟩ := lst_is (p := fun L => hB A n 0 (upT L)) 24
  have l3' : hB A n 0 (upT (sLa A n)) = true := l3 hs
  have g := greedy (hB_t.mp l3') n (Nat.le_refl _)
  have g1 : ∀ k, k < n → gsp A n (sLa A n) k < 24 := fun k hk => (g.2 k hk).1
  have gf : ∀ k, k < n → (A k).testBit (gsp A n (sLa A n) k) = true ∧ gsp A n (sLa A n) k ≤ sLa A n ∧ ∀ j, j < k → gsp A n (sLa A n) j ≠ gsp A n (sLa A n) k := by
    intro k hk
    have := (g.2 k hk).2
    rw [Nat.testBit_and, Bool.and_eq_true, fre_bit hs g1 k (by omega)] at this
    exact this
  refine ⟨g1, cdv_lt n g1, ⟨fun k hk => ?_, fun i j hij hj => ?_⟩, mxd_le n (Nat.le_refl _) (fun k hk => ?_)⟩
  · rw [cdv_dg g1 hk]; exact (gf k hk).1
  · rw [cdv_dg g1 (by omega), cdv_dg g1 hj]; exact (gf j hj).2.2 i hij
  · rw [cdv_dg g1 hk]; have := (gf k hk).2.1; omega
theorem first_is {A : Nat → Nat} {n c : Nat} (hs : sLa A n < 24) (hc : c < 24 ^ n) (hg : gC A n c) (hm : mxd n c n = sLa A n + 1) (hf : ∀ c', c' < c → gC A n c' → mxd n c n < mxd n c' n) : ∀ k, k < n → dg n c k = gsp A n (sLa A n) k := by
  obtain ⟨g1, g2, g3, g4⟩ := sLa_good hs
  have key : ∀ k, k ≤ n → ∀ j, j < k → dg n c j = gsp A n (sLa A n) j := by
    intro k
    induction k with
    | zero => intro _ j hj; exact absurd hj (Nat.not_lt_zero j)
    | succ k ih =>
      intro hk
      have ih := ih (by omega)
      have hdm : ∀ i, i < n → dg n c i ≤ sLa A n := fun i hi => by
        have := mxd_ge (c := c) n (Nat.le_refl _) i hi (by omega)
        omega
      have hfr : ∀ i, i < n → k ≤ i → (fre A n (sLa A n) k).testBit (dg n c i) = true := fun i hi hki => (fre_bit hs g1 k (by omega)).mpr ⟨hdm i hi, fun j hj => by
        rw [← ih j hj]
        exact hg.2 j i (by omega) hi⟩
      obtain ⟨l1, l2, l3⟩ := lst_is (p := fun t => (A k &&& fre A n (sLa A n) k).testBit t && hB A n (k + 1) (clrG (fre A n (sLa A n) k) t)) 24
      have l2' : ∀ i, i < gsp A n (sLa A n) k → ((A k &&& fre A n (sLa A n) k).testBit i && hB A n (k + 1) (clrG (fre A n (sLa A n) k) i)) = false := l2
      have hge : ¬ dg n c k < gsp A n (sLa A n) k := fun q => by
        have h1 := l2' _ q
        have h2 : HL (fA A (clrG (fre A n (sLa A n) k) (dg n c k))) n (k + 1) := hl_of (s := dg n c) (fun i hi1 hi => ⟨dg_lt, by
          have d1 : dg n c k < 24 := dg_lt
          have d2 : dg n c i < 24 := dg_lt
          rw [fA_bit, hg.1 i hi, clrG_bit (by omega), hfr i hi (by omega), decide_eq_true (show dg n c i < 32 by omega), decide_eq_false (hg.2 k i (by omega) hi)]; rfl⟩) (fun i j _ hij hj => hg.2 i j hij hj)
        rw [hB_t.mpr h2, Nat.testBit_and, hg.1 k (by omega), hfr k (by omega) (Nat.le_refl _)] at h1
        exact absurd h1 (by decide)
      have hle : ¬ gsp A n (sLa A n) k < dg n c k := fun q => by
        have h1 : cdv (gsp A n (sLa A n)) n < c := code_lt g2 hc (j := k) (by omega) (fun j hj => by rw [cdv_dg g1 (by omega), ih j hj]) (by rw [cdv_dg g1 (by omega)]; exact q)
        have := hf _ h1 g3
        omega
      intro j hj
      by_cases e : j = k
      · rw [e]; omega
      · exact ih j (by omega)
  exact key n (Nat.le_refl _)
