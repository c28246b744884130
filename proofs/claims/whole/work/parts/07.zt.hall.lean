/-! PURE: bits counted; Hall's theorem over masks -/
def cb (m : Nat) : Nat → Nat
  | 0 => 0
  | i + 1 => cb m i + (if m.testBit i = true then 1 else 0)
theorem pc_cb : ∀ n m, pc n m = cb m n := by
  intro n
  induction n with
  | zero => intro m; rfl
  | succ n ih =>
    intro m
    have hb : pc (n + 1) m = pc n m + m / 2 ^ n % 2 := by rw [pc_add]; rfl
    have h2 : m / 2 ^ n % 2 < 2 := Nat.mod_lt _ (by decide)
    rw [hb, ih, cb, Nat.testBit_eq_decide_div_mod_eq]
    by_cases e : m / 2 ^ n % 2 = 1
    · rw [decide_eq_true e, if_pos rfl, e]
    · rw [decide_eq_false e, if_neg (by decide)]; omega
theorem cb_or (a b : Nat) : ∀ k, cb (a ||| b) k + cb (a &&& b) k = cb a k + cb b k := by
  intro k
  induction k with
  | zero => rfl
  | succ k ih =>
    unfold cb
    rw [Nat.testBit_or, Nat.testBit_and]
    cases a.testBit k <;> cases b.testBit k <;> simp <;> omega
theorem cb_mono {a b : Nat} : ∀ k, (∀ i, i < k → a.testBit i = true → b.testBit i = true) → cb a k ≤ cb b k := by
  intro k
  induction k with
  | zero => intro _; exact Nat.le_refl _
  | succ k ih =>
    intro h
    have h1 := ih (fun i hi => h i (by omega))
    have h2 := h k (by omega)
    unfold cb
    by_cases e : a.testBit k = true
    · rw [if_pos e, if_pos (h2 e)]; omega
    · rw [if_neg e]; omega
theorem cb_zero {a : Nat} : ∀ k, (∀ i, i < k → a.testBit i = false) → cb a k = 0 := by
  intro k
  induction k with
  | zero => intro _; rfl
  | succ k ih => intro h; unfold cb; rw [ih (fun i hi => h i (by omega)), h k (by omega)]; rfl
theorem cb_pow {p : Nat} : ∀ k, cb (2 ^ p) k = if p < k then 1 else 0 := by
  intro k
  induction k with
  | zero => rfl
  | succ k ih =>
    unfold cb
    rw [ih, Nat.testBit_two_pow]
    by_cases e : p = k
    · subst e; rw [decide_eq_true rfl, if_neg (by omega), if_pos rfl, if_pos (by omega)]
    · rw [decide_eq_false e, if_neg (show ¬ (false = true) by decide)]
      by_cases e2 : p < k
      · rw [if_pos e2, if_pos (by omega)]
      · rw [if_neg e2, if_neg (by omega)]
theorem cb_ins {a p k : Nat} (h : a.testBit p = false) (hp : p < k) : cb (a ||| 2 ^ p) k = cb a k + 1 := by
  have h1 := cb_or a (2 ^ p) k
  have h2 : cb (a &&& 2 ^ p) k = 0 := cb_zero k (fun i _ => by
    rw [Nat.testBit_and, Nat.testBit_two_pow]
    by_cases e : p = i
    · rw [← e, h]; rfl
    · rw [decide_eq_false e, Bool.and_false])
  rw [cb_pow, if_pos hp] at h1
  omega
theorem cb_ins_le {a p k : Nat} : cb (a ||| 2 ^ p) k ≤ cb a k + 1 := by
  have h1 := cb_or a (2 ^ p) k
  rw [cb_pow] at h1
  split at h1 <;> omega
theorem cb_more {a n : Nat} (h : ∀ i, n ≤ i → a.testBit i = false) : ∀ d, cb a (n + d) = cb a n := by
  intro d
  induction d with
  | zero => rfl
  | succ d ih =>
    show cb a (n + d) + (if a.testBit (n + d) = true then 1 else 0) = _
    rw [h _ (by omega), ih]
    rfl
def un (A : Nat → Nat) (S : Nat) : Nat → Nat
  | 0 => 0
  | i + 1 => if S.testBit i = true then un A S i ||| A i else un A S i
theorem un_bit {A : Nat → Nat} {S x : Nat} : ∀ n, (un A S n).testBit x = true ↔ ∃ i, i < n ∧ S.testBit i = true ∧ (A i).testBit x = true := by
  intro n
  induction n with
  | zero => exact ⟨fun h => (by rw [un, Nat.zero_testBit] at h; cases h), fun ⟨i, hi, _⟩ => by omega⟩
  | succ n ih =>
    unfold un
    by_cases e : S.testBit n = true
    · rw [if_pos e, Nat.testBit_or, Bool.or_eq_true, ih]
      constructor
      · rintro (⟨i, h1, h2⟩ | h)
        · exact ⟨i, by omega, h2⟩
        · exact ⟨n, by omega, e, h⟩
      · rintro ⟨i, h1, h2, h3⟩
        by_cases q : i = n
        · rw [q] at h3; exact Or.inr h3
        · exact Or.inl ⟨i, by omega, h2, h3⟩
    · rw [if_neg e, ih]
      constructor
      · rintro ⟨i, h1, h2⟩; exact ⟨i, by omega, h2⟩
      · rintro ⟨i, h1, h2, h3⟩
        by_cases q : i = n
        · rw [q] at h2; exact absurd h2 e
        · exact ⟨i, by omega, h2, h3⟩
/-- any few of the cells lo .. n - 1 have as many steps together -/
def HL (A : Nat → Nat) (n lo : Nat) : Prop := ∀ S, (∀ i, S.testBit i = true → lo ≤ i ∧ i < n) → cb S n ≤ cb (un A S n) 24
theorem hl_ext {A A' : Nat → Nat → Nat} {n lo : Nat} (hlo : lo < n) (h : HL (A 0) n lo) (hA : ∀ x, x < 24 → ∀ i y, y < 24 → (A' x i).testBit y = ((A 0 i).testBit y && !decide (x = y))) : ∃ x, x < 24 ∧ (A 0 lo).testBit x = true ∧ HL (A' x) n (lo + 1) := by
  refine Classical.byContradiction fun hno => ?_
  have hbad : ∀ x, x < 24 → (A 0 lo).testBit x = true → ∃ S, (∀ i, S.testBit i = true → lo + 1 ≤ i ∧ i < n) ∧ cb (un (A' x) S n) 24 < cb S n := by
    intro x hx hb
    refine Classical.byContradiction fun hn2 => hno ⟨x, hx, hb, fun S hS => ?_⟩
    refine Classical.byContradiction fun hn3 => hn2 ⟨S, hS, by omega⟩
  have claim : ∀ k, k ≤ 24 → ∃ T, (∀ i, T.testBit i = true → lo + 1 ≤ i ∧ i < n) ∧ cb (un (A 0) T n) 24 = cb T n ∧ ∀ x, x < k → (A 0 lo).testBit x = true → (un (A 0) T n).testBit x = true := by
    intro k
    induction k with
    | zero =>
      intro _
      refine ⟨0, fun i hi => (by rw [Nat.zero_testBit] at hi; cases hi), ?_, fun x hx => by omega⟩
      rw [cb_zero n (fun i _ => Nat.zero_testBit i)]
      refine cb_zero 24 (fun i _ => ?_)
      cases hb : (un (A 0) 0 n).testBit i with
      | false => rfl
      | true =>
        obtain ⟨j, -, h2, -⟩ := (un_bit n).mp hb
        rw [Nat.zero_testBit] at h2; cases h2
    | succ k ih =>
      intro hk
      obtain ⟨T, t1, t2, t3⟩ := ih (by omega)
      by_cases hb : (A 0 lo).testBit k = true
      · obtain ⟨S, s1, s2⟩ := hbad k (by omega) hb
        have s1' : ∀ i, S.testBit i = true → lo ≤ i ∧ i < n := fun i hi => ⟨by have := s1 i hi; omega, (s1 i hi).2⟩
        have g1 := h S s1'
        have sub : ∀ x, x < 24 → x ≠ k → (un (A 0) S n).testBit x = true → (un (A' k) S n).testBit x = true := by
          intro x hx hxk hu
          obtain ⟨i, i1, i2, i3⟩ := (un_bit n).mp hu
          refine (un_bit n).mpr ⟨i, i1, i2, ?_⟩
          rw [hA k (by omega) i x hx, i3, decide_eq_false (fun e => hxk e.symm)]
          rfl
        have g2 : (un (A 0) S n).testBit k = true := by
          refine Classical.byContradiction fun hn => ?_
          have g3 : cb (un (A 0) S n) 24 ≤ cb (un (A' k) S n) 24 := cb_mono 24 (fun x hx hu => sub x hx (fun e => hn (by rw [← e]; exact hu)) hu)
          omega
        have g4 : cb (un (A 0) S n) 24 ≤ cb (un (A' k) S n ||| 2 ^ k) 24 := cb_mono 24 (fun x hx hu => by
          rw [Nat.testBit_or, Nat.testBit_two_pow]
          by_cases e : k = x
          · rw [decide_eq_true e, Bool.or_true]
          · rw [sub x hx (fun q => e q.symm) hu, Bool.true_or])
        have g5 := cb_ins_le (a := un (A' k) S n) (p := k) (k := 24)
        have tS : cb (un (A 0) S n) 24 = cb S n := by omega
        have bT : ∀ i, (T ||| S).testBit i = true → lo + 1 ≤ i ∧ i < n := by
          intro i hi
          rw [Nat.testBit_or, Bool.or_eq_true] at hi
          rcases hi with hi | hi
          · exact t1 i hi
          · exact s1 i hi
        have bI' : ∀ i, (T &&& S).testBit i = true → lo ≤ i ∧ i < n := by
          intro i hi
          rw [Nat.testBit_and, Bool.and_eq_true] at hi
          exact s1' i hi.2
        have u1 : ∀ x, x < 24 → (un (A 0) (T ||| S) n).testBit x = true → (un (A 0) T n ||| un (A 0) S n).testBit x = true := by
          intro x _ hx
          obtain ⟨i, i1, i2, i3⟩ := (un_bit n).mp hx
          rw [Nat.testBit_or, Bool.or_eq_true] at i2 ⊢
          rcases i2 with i2 | i2
          · exact Or.inl ((un_bit n).mpr ⟨i, i1, i2, i3⟩)
          · exact Or.inr ((un_bit n).mpr ⟨i, i1, i2, i3⟩)
        have u2 : ∀ x, x < 24 → (un (A 0) (T &&& S) n).testBit x = true → (un (A 0) T n &&& un (A 0) S n).testBit x = true := by
          intro x _ hx
          obtain ⟨i, i1, i2, i3⟩ := (un_bit n).mp hx
          rw [Nat.testBit_and, Bool.and_eq_true] at i2 ⊢
          exact ⟨(un_bit n).mpr ⟨i, i1, i2.1, i3⟩, (un_bit n).mpr ⟨i, i1, i2.2, i3⟩⟩
        have c1 := cb_mono 24 u1
        have c2 := cb_mono 24 u2
        have c3 := cb_or (un (A 0) T n) (un (A 0) S n) 24
        have c4 := cb_or T S n
        have c5 := h (T &&& S) bI'
        have c6 := h (T ||| S) (fun i hi => ⟨by have := bT i hi; omega, (bT i hi).2⟩)
        refine ⟨T ||| S, bT, by omega, fun x hx hxa => ?_⟩
        by_cases e : x = k
        · subst e
          obtain ⟨i, i1, i2, i3⟩ := (un_bit n).mp g2
          exact (un_bit n).mpr ⟨i, i1, by rw [Nat.testBit_or, i2, Bool.or_true], i3⟩
        · obtain ⟨i, i1, i2, i3⟩ := (un_bit n).mp (t3 x (by omega) hxa)
          exact (un_bit n).mpr ⟨i, i1, by rw [Nat.testBit_or, i2, Bool.true_or], i3⟩
      · refine ⟨T, t1, t2, fun x hx hxa => ?_⟩
        by_cases e : x = k
        · rw [e] at hxa; exact absurd hxa hb
        · exact t3 x (by omega) hxa
  obtain ⟨T, t1, t2, t3⟩ := claim 24 (Nat.le_refl _)
  have hTlo : T.testBit lo = false := by
    cases e : T.testBit lo with
    | false => rfl
    | true => have := t1 lo e; omega
  have h1 := h (T ||| 2 ^ lo) (fun i hi => by
    rw [Nat.testBit_or, Nat.testBit_two_pow, Bool.or_eq_true, decide_eq_true_eq] at hi
    rcases hi with hi | hi
    · have := t1 i hi; omega
    · omega)
  have h2 := cb_ins hTlo hlo
  have h3 : cb (un (A 0) (T ||| 2 ^ lo) n) 24 ≤ cb (un (A 0) T n) 24 := cb_mono 24 (fun x hx hu => by
    obtain ⟨i, i1, i2, i3⟩ := (un_bit n).mp hu
    rw [Nat.testBit_or, Nat.testBit_two_pow, Bool.or_eq_true, decide_eq_true_eq] at i2
    rcases i2 with i2 | i2
    · exact (un_bit n).mpr ⟨i, i1, i2, i3⟩
    · rw [← i2] at i3
      exact t3 x hx i3)
  omega
/-- unlike steps that are open give Hall's condition -/
def im (s : Nat → Nat) (S : Nat) : Nat → Nat
  | 0 => 0
  | i + 1 => if S.testBit i = true then im s S i ||| 2 ^ s i else im s S i
theorem im_bit {s : Nat → Nat} {S x : Nat} : ∀ n, (im s S n).testBit x = true ↔ ∃ i, i < n ∧ S.testBit i = true ∧ s i = x := by
  intro n
  induction n with
  | zero => exact ⟨fun h => (by rw [im, Nat.zero_testBit] at h; cases h), fun ⟨i, hi, _⟩ => by omega⟩
  | succ n ih =>
    unfold im
    by_cases e : S.testBit n = true
    · rw [if_pos e, Nat.testBit_or, Bool.or_eq_true, ih, Nat.testBit_two_pow, decide_eq_true_eq]
      constructor
      · rintro (⟨i, h1, h2⟩ | h)
        · exact ⟨i, by omega, h2⟩
        · exact ⟨n, by omega, e, h⟩
      · rintro ⟨i, h1, h2, h3⟩
        by_cases q : i = n
        · rw [q] at h3; exact Or.inr h3
        · exact Or.inl ⟨i, by omega, h2, h3⟩
    · rw [if_neg e, ih]
      constructor
      · rintro ⟨i, h1, h2⟩; exact ⟨i, by omega, h2⟩
      · rintro ⟨i, h1, h2, h3⟩
        by_cases q : i = n
        · rw [q] at h2; exact absurd h2 e
        · exact ⟨i, by omega, h2, h3⟩
theorem hl_of {A : Nat → Nat} {n lo : Nat} {s : Nat → Nat} (hs1 : ∀ i, lo ≤ i → i < n → s i < 24 ∧ (A i).testBit (s i) = true) (hj : ∀ i j, lo ≤ i → i < j → j < n → s i ≠ s j) : HL A n lo := by
  intro S hS
  have key : ∀ k, k ≤ n → cb (im s S k) 24 = cb S k := by
    intro k
    induction k with
    | zero => intro _; exact cb_zero 24 (fun i _ => Nat.zero_testBit i)
    | succ k ih =>
      intro hk
      have h1 := ih (by omega)
      show cb (if S.testBit k = true then im s S k ||| 2 ^ s k else im s S k) 24 = cb S k + (if S.testBit k = true then 1 else 0)
      by_cases e : S.testBit k = true
      · rw [if_pos e, if_pos e]
        have h2 := (hS k e).1
        rw [cb_ins _ (hs1 k h2 (by omega)).1, h1]
        cases hb : (im s S k).testBit (s k) with
        | false => rfl
        | true =>
          obtain ⟨i, i1, i2, i3⟩ := (im_bit k).mp hb
          exact absurd i3 (hj i k (hS i i2).1 i1 (by omega))
      · rw [if_neg e, if_neg e, h1, Nat.add_zero]
  rw [← key n (Nat.le_refl _)]
  refine cb_mono 24 (fun x hx hu => ?_)
  obtain ⟨i, i1, i2, i3⟩ := (im_bit n).mp hu
  have := hs1 i (hS i i2).1 i1
  rw [i3] at this
  exact (un_bit n).mpr ⟨i, i1, i2, this.2⟩
/-! the machine's count of bits -/
theorem and_split {k a b c d : Nat} (ha : a < 2 ^ k) (hc : c < 2 ^ k) : (2 ^ k * b + a) &&& (2 ^ k * d + c) = 2 ^ k * (b &&& d) + (a &&& c) := by
  have hac : a &&& c < 2 ^ k := Nat.lt_of_le_of_lt Nat.and_le_left ha
  refine Nat.eq_of_testBit_eq fun i => ?_
  rw [Nat.testBit_and, Nat.testBit_two_pow_mul_add _ ha, Nat.testBit_two_pow_mul_add _ hc, Nat.testBit_two_pow_mul_add _ hac]
  by_cases e : i < k
  · rw [if_pos e, if_pos e, if_pos e, Nat.testBit_and]
  · rw [if_neg e, if_neg e, if_neg e, Nat.testBit_and]
theorem by_1 : ∀ a, a < 256 → ∀ r, r < 2 → (128 * r + a / 2) &&& 85 = (a / 2) &&& 85 ∧ (a / 2) &&& 85 ≤ a := by decide +kernel
theorem by_2 : ∀ a, a < 256 → ∀ r, r < 4 → (64 * r + a / 4) &&& 51 = (a / 4) &&& 51 := by decide +kernel
def v1b (a : Nat) : Nat := a - ((a / 2) &&& 85)
def v2b (a : Nat) : Nat := (v1b a &&& 51) + ((v1b a / 4) &&& 51)
theorem by_3 : ∀ a, a < 256 → v1b a < 256 ∧ v2b a % 16 ≤ 4 ∧ v2b a / 16 ≤ 4 ∧ (v2b a + v2b a / 16) &&& 15 = pc 8 a ∧ pc 8 a ≤ 8 := by decide +kernel
theorem by_4 : ∀ a, a < 256 → ∀ r, r < 5 → (v2b a + v2b a / 16 + 16 * r) < 256 ∧ (v2b a + v2b a / 16 + 16 * r) &&& 15 = pc 8 a := by decide +kernel
