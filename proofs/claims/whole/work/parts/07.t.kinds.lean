/-! PURE: the kinds that agree with all that is told -/
def kI (ok : Nat → Nat → Bool) (j m : Nat) : Nat → Nat
  | 0 => m
  | k + 1 => if ok k j = true then kI ok j m k else clr (kI ok j m k) k
def kL (ap : Nat → Bool) (ok : Nat → Nat → Bool) : Nat → Nat
  | 0 => 63
  | j + 1 => if ap j = true then kI ok j (kL ap ok j) 6 else kL ap ok j
def kF (ap : Nat → Bool) (ok : Nat → Nat → Bool) (k : Nat) : Nat → Bool
  | 0 => true
  | j + 1 => kF ap ok k j && (!ap j || ok k j)
def kR (ap : Nat → Bool) (ok : Nat → Nat → Bool) (n : Nat) : Nat → Nat
  | 0 => 0
  | k + 1 => if kF ap ok k n = true then kR ap ok n k ||| 2 ^ k else kR ap ok n k
theorem clr6_bit : ∀ a, a < 64 → ∀ s, s < 6 → ∀ j, j < 6 → (clr a s).testBit j = (a.testBit j && !decide (j = s)) := by decide +kernel
theorem clr6_lt : ∀ a, a < 64 → ∀ s, s < 6 → clr a s < 64 := by decide +kernel
theorem c_clr6 : ∀ a, a < 64 → ∀ s, s < 6 → nI a &&& (jshl (nI 1) (nI s) ^^^ (-nI 1)) = nI (clr a s) := by decide +kernel
theorem kI_is {ok : Nat → Nat → Bool} {j m : Nat} (hm : m < 64) : ∀ n, n ≤ 6 → kI ok j m n < 64 ∧ ∀ k, k < 6 → (kI ok j m n).testBit k = (m.testBit k && (decide (n ≤ k) || ok k j)) := by
  intro n
  induction n with
  | zero => intro _; exact ⟨hm, fun k _ => by show m.testBit k = _; simp⟩
  | succ n ih =>
    intro hn
    obtain ⟨h1, h2⟩ := ih (by omega)
    unfold kI
    cases ho : ok n j with
    | true =>
      rw [if_pos rfl]
      refine ⟨h1, fun k hk => ?_⟩
      rw [h2 k hk]
      by_cases e : k = n
      · subst e; rw [ho]; simp
      · by_cases e2 : n ≤ k
        · rw [decide_eq_true e2, decide_eq_true (show n + 1 ≤ k by omega)]
        · rw [decide_eq_false e2, decide_eq_false (show ¬ n + 1 ≤ k by omega)]
    | false =>
      rw [if_neg (by decide)]
      refine ⟨clr6_lt _ h1 n (by omega), fun k hk => ?_⟩
      rw [clr6_bit _ h1 n (by omega) k hk, h2 k hk]
      by_cases e : k = n
      · subst e; rw [ho, decide_eq_true rfl, decide_eq_false (show ¬ k + 1 ≤ k by omega)]; simp
      · rw [decide_eq_false e]
        by_cases e2 : n ≤ k
        · rw [decide_eq_true e2, decide_eq_true (show n + 1 ≤ k by omega)]; simp
        · rw [decide_eq_false e2, decide_eq_false (show ¬ n + 1 ≤ k by omega)]; simp
theorem kL_is {ap : Nat → Bool} {ok : Nat → Nat → Bool} : ∀ n, kL ap ok n < 64 ∧ ∀ k, k < 6 → (kL ap ok n).testBit k = kF ap ok k n := by
  intro n
  induction n with
  | zero => exact ⟨(by decide : (63 : Nat) < 64), (by decide : ∀ k, k < 6 → (63 : Nat).testBit k = true)⟩
  | succ n ih =>
    obtain ⟨h1, h2⟩ := ih
    unfold kL
    cases ha : ap n with
    | true =>
      rw [if_pos rfl]
      obtain ⟨g1, g2⟩ := kI_is (ok := ok) (j := n) h1 6 (by omega)
      refine ⟨g1, fun k hk => ?_⟩
      rw [g2 k hk, h2 k hk, kF, ha, decide_eq_false (show ¬ 6 ≤ k by omega)]
      simp
    | false =>
      rw [if_neg (by decide)]
      refine ⟨h1, fun k hk => ?_⟩
      rw [h2 k hk, kF, ha]
      simp
theorem kR_is {ap : Nat → Bool} {ok : Nat → Nat → Bool} {n : Nat} : ∀ i, kR ap ok n i < 2 ^ i ∧ ∀ k, k < i → (kR ap ok n i).testBit k = kF ap ok k n := by
  intro i
  induction i with
  | zero => exact ⟨Nat.one_pos, fun k hk => by omega⟩
  | succ i ih =>
    obtain ⟨h1, h2⟩ := ih
    have h3 : 2 ^ (i + 1) = 2 * 2 ^ i := by rw [Nat.pow_succ, Nat.mul_comm]
    have h4 : 0 < 2 ^ i := Nat.two_pow_pos i
    unfold kR
    cases hf : kF ap ok i n with
    | true =>
      rw [if_pos rfl]
      refine ⟨Nat.or_lt_two_pow (by omega) (by omega), fun k hk => ?_⟩
      rw [Nat.testBit_or]
      by_cases e : k = i
      · subst e; rw [Nat.testBit_two_pow_self, hf, Bool.or_true]
      · rw [Nat.testBit_two_pow_of_ne (by omega), Bool.or_false, h2 k (by omega)]
    | false =>
      rw [if_neg (by decide)]
      refine ⟨by omega, fun k hk => ?_⟩
      by_cases e : k = i
      · subst e; rw [Nat.testBit_lt_two_pow h1, hf]
      · exact h2 k (by omega)
theorem kL_kR {ap : Nat → Bool} {ok : Nat → Nat → Bool} {n : Nat} : kR ap ok n 6 = kL ap ok n := by
  obtain ⟨a1, a2⟩ := kL_is (ap := ap) (ok := ok) n
  obtain ⟨b1, b2⟩ := kR_is (ap := ap) (ok := ok) (n := n) 6
  refine Nat.eq_of_testBit_eq fun k => ?_
  by_cases hk : k < 6
  · rw [a2 k hk, b2 k hk]
  · have h6 : 2 ^ 6 ≤ 2 ^ k := Nat.pow_le_pow_right (by decide) (by omega)
    rw [Nat.testBit_lt_two_pow (Nat.lt_of_lt_of_le a1 h6), Nat.testBit_lt_two_pow (Nat.lt_of_lt_of_le b1 h6)]
