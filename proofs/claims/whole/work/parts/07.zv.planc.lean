/-! PURE: plan, the class's course -/
theorem z06 : PC 0 6 = 97 := rfl
theorem z970 : PC 97 0 = 98 := rfl
theorem z98s : SZ 98 = 4 := rfl
def PlC (A : Nat → Nat) (n : Nat) (h : AH) : Prop := n ≤ 4 ∧ hI h 97 1 = nI n ∧ ∀ k, k < n → hI h 98 k = nI (A k) ∧ A k < 16777216
def fA (A : Nat → Nat) (F : Nat) : Nat → Nat := fun k => A k &&& F
noncomputable def hB (A : Nat → Nat) (n lo F : Nat) : Bool := @decide (HL (fA A F) n lo) (Classical.propDecidable _)
theorem hB_t {A : Nat → Nat} {n lo F : Nat} : hB A n lo F = true ↔ HL (fA A F) n lo := by
  unfold hB
  exact @decide_eq_true_iff _ (Classical.propDecidable _)
def tz4 (x : Nat) : Nat := if x % 2 = 1 then 0 else if x % 4 = 2 then 1 else if x % 8 = 4 then 2 else 3
theorem tz4_is : ∀ x, x < 16 → 0 < x → fJ6_numberOfTrailingZeros_0f7a4 (nI x) = some (nI (tz4 x)) ∧ tz4 x < 4 ∧ ∀ f, f < 5 → (tz4 x < f ↔ ¬ x % 2 ^ f = 0) := by decide +kernel
theorem un_lt {A : Nat → Nat} {S K : Nat} : ∀ n, (∀ k, k < n → A k < 2 ^ K) → un A S n < 2 ^ K := by
  intro n
  induction n with
  | zero => intro _; exact Nat.two_pow_pos K
  | succ n ih =>
    intro h
    have h1 := ih (fun k hk => h k (by omega))
    unfold un
    split
    · exact Nat.or_lt_two_pow h1 (h n (by omega))
    · exact h1
theorem fA_lt {A : Nat → Nat} {F k : Nat} (h : A k < 16777216) : fA A F k < 2 ^ 24 := Nat.lt_of_le_of_lt Nat.and_le_left h
theorem c_together {A : Nat → Nat} {n few F : Nat} {h : AH} (hP : PlC A n h) (hf : few < 16) : fX4_stepsTogether 97 (nI few) (nI F) h = some (nI (pc 24 (un (fA A F) few n))) := by
  obtain ⟨h4, h1, hk⟩ := hP
  unfold fX4_stepsTogether
  refine run_loop (fun m (s : Int32 × Int32) => fX4_stepsTogether_5 h m 97 (nI few) (nI F) s.1 s.2) (fun i => (nI (un (fA A F) few i), nI i)) n _ (fun m i hi => ?_) (fun m => ?_) FU (FU_lt (by omega))
  · show fX4_stepsTogether_5 h (m + 1) 97 (nI few) (nI F) (nI (un (fA A F) few i)) (nI i) = fX4_stepsTogether_5 h m 97 (nI few) (nI F) (nI (un (fA A F) few (i + 1))) (nI (i + 1))
    obtain ⟨k1, k2⟩ := hk i hi
    rw [fX4_stepsTogether_5, h1, if_neg (by rw [p_le (by omega) (by omega)]; omega), z970, z98s, inb_nI (by omega), oG_d (by omega), ix_nI (by omega), k1, p_and, p_or, p1, nI_add, oL_d, oL_d, oL_d]
    have hb : (jshr (nI few) (nI i) &&& nI 1 = nI 1) = (few.testBit i = true) := p_bit (by omega) (by omega)
    by_cases e : few.testBit i = true
    · rw [if_pos (hb.mpr e), un, if_pos e]; rfl
    · rw [if_neg (fun q => e (hb.mp q)), un, if_neg e]
  · show fX4_stepsTogether_5 h (m + 1) 97 (nI few) (nI F) (nI (un (fA A F) few n)) (nI n) = _
    have hu : un (fA A F) few n < 16777216 := un_lt n (fun k q => fA_lt (hk k q).2)
    rw [fX4_stepsTogether_5, h1, if_pos (by rw [p_le (by omega) (by omega)]; exact Nat.le_refl _)]
    unfold fX4_stepsTogether_42
    rw [c_bc hu, ob_s]
theorem bit_ge {S n : Nat} (h : S < 2 ^ n) {i : Nat} (hi : S.testBit i = true) : i < n := by
  refine Nat.lt_of_not_le fun q => ?_
  rw [Nat.testBit_lt_two_pow (Nat.lt_of_lt_of_le h (Nat.pow_le_pow_right (by decide) q))] at hi
  exact absurd hi (by decide)
theorem pow_16 {n : Nat} (h : n ≤ 4) : 2 ^ n ≤ 16 ∧ 0 < 2 ^ n := ⟨Nat.pow_le_pow_right (n := 2) (by decide) h, Nat.two_pow_pos n⟩
/-- Hall's condition as it is tried: few by few -/
theorem hl_few {A : Nat → Nat} {n lo : Nat} (hlo : lo ≤ n) : HL A n lo ↔ ∀ few, 0 < few → few < 2 ^ n → few % 2 ^ lo = 0 → pc n few ≤ pc 24 (un A few n) := by
  constructor
  · intro h few f0 f1 f2
    rw [pc_cb, pc_cb]
    refine h few (fun i hi => ⟨?_, bit_ge f1 hi⟩)
    refine Nat.le_of_not_lt fun q => ?_
    have : (few % 2 ^ lo).testBit i = true := by rw [Nat.testBit_mod_two_pow, hi, decide_eq_true q]; rfl
    rw [f2, Nat.zero_testBit] at this
    exact absurd this (by decide)
  · intro h S hS
    rcases Nat.eq_zero_or_pos S with e | e
    · rw [e, cb_zero n (fun i _ => Nat.zero_testBit i)]; exact Nat.zero_le _
    · have hl : S < 2 ^ n := Nat.lt_pow_two_of_testBit S (fun i hi => by
        cases hb : S.testBit i with
        | false => rfl
        | true => have := hS i hb; omega)
      have hm : S % 2 ^ lo = 0 := Nat.eq_of_testBit_eq (fun i => by
        rw [Nat.testBit_mod_two_pow, Nat.zero_testBit]
        cases hb : S.testBit i with
        | false => rw [Bool.and_false]
        | true => have := hS i hb; rw [decide_eq_false (by omega), Bool.false_and])
      have := h S e hl hm
      rw [pc_cb, pc_cb] at this
      exact this
theorem c_canFill {A : Nat → Nat} {n lo F : Nat} {h : AH} (hP : PlC A n h) (hlo : lo ≤ n) : fX4_canFill 97 (nI lo) (nI F) h = some (bI (hB A n lo F)) := by
  have hP0 := hP
  obtain ⟨h4, h1, hk⟩ := hP
  obtain ⟨q1, q2⟩ := pow_16 h4
  have hpn : ∀ few, few < 2 ^ n → pc 24 few = pc n few := by
    intro few hf
    rw [pc_cb, pc_cb]
    have := cb_more (a := few) (n := n) (fun i hi => Nat.testBit_lt_two_pow (Nat.lt_of_lt_of_le hf (Nat.pow_le_pow_right (by decide) hi))) (24 - n)
    rw [show n + (24 - n) = 24 by omega] at this
    exact this
  have hpl : ∀ few, pc n few ≤ n := fun few => pc_le n few
  have stp : ∀ m i, i < 2 ^ n - 1 → fX4_canFill_2 h (m + 1) 97 (nI lo) (nI F) (nI (i + 1)) = if (i + 1) % 2 ^ lo = 0 ∧ pc 24 (un (fA A F) (i + 1) n) < pc n (i + 1) then some (nI 0) else fX4_canFill_2 h m 97 (nI lo) (nI F) (nI (i + 2)) := by
    intro m i hi
    obtain ⟨t1, t2, t3⟩ := tz4_is (i + 1) (by omega) (by omega)
    have t3' := t3 lo (by omega)
    have hu := pc_le 24 (un (fA A F) (i + 1) n)
    have := hpl (i + 1)
    rw [fX4_canFill_2, h1, p1, p_shl (by omega), Nat.one_mul, if_neg (by rw [p_le (by omega) (by omega)]; omega), t1, ob_s, nI_add, oL_d, c_together hP0 (by omega), ob_s, c_bc (by omega), hpn _ (by omega), ob_s, p0]
    have hz : (nI (tz4 (i + 1)) < nI lo) = (tz4 (i + 1) < lo) := p_lt (by omega) (by omega)
    have hz2 : (nI (pc n (i + 1)) ≤ nI (pc 24 (un (fA A F) (i + 1) n))) = (pc n (i + 1) ≤ pc 24 (un (fA A F) (i + 1) n)) := p_le (by omega) (by omega)
    by_cases e1 : (i + 1) % 2 ^ lo = 0
    · rw [if_neg (fun q => t3'.mp (hz.mp q) e1)]
      by_cases e2 : pc 24 (un (fA A F) (i + 1) n) < pc n (i + 1)
      · rw [if_neg (fun q => by have := hz2.mp q; omega), if_pos ⟨e1, e2⟩]
      · rw [if_pos (hz2.mpr (by omega)), if_neg (fun q => e2 q.2)]
    · rw [if_pos (hz.mpr (t3'.mpr e1)), if_neg (fun q => e1 q.1)]
  unfold fX4_canFill
  rw [p1]
  rcases firstOf (fun i => decide ((i + 1) % 2 ^ lo = 0 ∧ pc 24 (un (fA A F) (i + 1) n) < pc n (i + 1))) (2 ^ n - 1) with hn | ⟨k, k1, k2, k3⟩
  · have hH : HL (fA A F) n lo := (hl_few hlo).mpr (fun few f0 f1 f2 => by
      have := of_decide_eq_false (hn (few - 1) (by omega))
      rw [show few - 1 + 1 = few by omega] at this
      exact Nat.le_of_not_lt (fun q => this ⟨f2, q⟩))
    rw [show hB A n lo F = true from hB_t.mpr hH]
    refine run_loop (fun m (s : Int32) => fX4_canFill_2 h m 97 (nI lo) (nI F) s) (fun i => nI (i + 1)) (2 ^ n - 1) _ (fun m i hi => ?_) (fun m => ?_) FU (FU_lt (by omega))
    · show fX4_canFill_2 h (m + 1) 97 (nI lo) (nI F) (nI (i + 1)) = fX4_canFill_2 h m 97 (nI lo) (nI F) (nI (i + 2))
      rw [stp m i hi, if_neg (of_decide_eq_false (hn i hi))]
    · show fX4_canFill_2 h (m + 1) 97 (nI lo) (nI F) (nI (2 ^ n - 1 + 1)) = _
      rw [fX4_canFill_2, h1, p1, p_shl (by omega), Nat.one_mul, if_pos (by rw [p_le (by omega) (by omega)]; omega)]
      rfl
  · have hH : ¬ HL (fA A F) n lo := fun q => by
      have e := of_decide_eq_true k2
      have := (hl_few hlo).mp q (k + 1) (by omega) (by omega) e.1
      omega
    have hf : hB A n lo F = false := by
      cases e : hB A n lo F with
      | false => rfl
      | true => exact absurd (hB_t.mp e) hH
    rw [hf]
    refine run_loop (fun m (s : Int32) => fX4_canFill_2 h m 97 (nI lo) (nI F) s) (fun i => nI (i + 1)) k _ (fun m i hi => ?_) (fun m => ?_) FU (FU_lt (by omega))
    · show fX4_canFill_2 h (m + 1) 97 (nI lo) (nI F) (nI (i + 1)) = fX4_canFill_2 h m 97 (nI lo) (nI F) (nI (i + 2))
      rw [stp m i (by omega), if_neg (of_decide_eq_false (k3 i hi))]
    · show fX4_canFill_2 h (m + 1) 97 (nI lo) (nI F) (nI (k + 1)) = _
      rw [stp m k k1, if_pos (of_decide_eq_true k2)]
      rfl
def upT (L : Nat) : Nat := 2 ^ (L + 1) - 1
theorem upT_bit {L i : Nat} : (upT L).testBit i = decide (i ≤ L) := by
  unfold upT
  rw [Nat.testBit_two_pow_sub_one]
  exact decide_eq_decide.mpr ⟨fun q => by omega, fun q => by omega⟩
theorem upT_lt : ∀ L, L < 24 → upT L < 16777216 := by decide +kernel
theorem c_upTo : ∀ L, L < 24 → fX4_upTo (nI L) = some (nI (upT L)) := by decide +kernel
/-- the least of 24 that p takes; 24, if none -/
def lst (p : Nat → Bool) : Nat → Nat
  | 0 => 0
  | n + 1 => if lst p n < n then lst p n else if p n = true then n else n + 1
theorem lst_is {p : Nat → Bool} : ∀ n, lst p n ≤ n ∧ (∀ i, i < lst p n → p i = false) ∧ (lst p n < n → p (lst p n) = true) := by
  intro n
  induction n with
  | zero => exact ⟨Nat.le_refl _, fun i hi => absurd hi (Nat.not_lt_zero i), fun q => absurd q (Nat.lt_irrefl 0)⟩
  | succ n ih =>
    obtain ⟨h1, h2, h3⟩ := ih
    unfold lst
    by_cases e : lst p n < n
    · rw [if_pos e]; exact ⟨by omega, h2, fun _ => h3 e⟩
    · have e1 : lst p n = n := by omega
      rw [if_neg e]
      rw [e1] at h2
      by_cases e2 : p n = true
      · rw [if_pos e2]; exact ⟨by omega, h2, fun _ => e2⟩
      · rw [if_neg e2]
        refine ⟨by omega, fun i hi => ?_, fun q => by omega⟩
        by_cases e3 : i = n
        · rw [e3]; exact Bool.eq_false_iff.mpr e2
        · exact h2 i (by omega)
noncomputable def sLa (A : Nat → Nat) (n : Nat) : Nat := lst (fun L => hB A n 0 (upT L)) 24
theorem c_soonest {A : Nat → Nat} {n : Nat} {h : AH} (hP : PlC A n h) : fX4_soonestLast 97 h = some (if sLa A n < 24 then nI (sLa A n) else -1) := by
  obtain ⟨l1, l2, l3⟩ := lst_is (p := fun L => hB A n 0 (upT L)) 24
  unfold fX4_soonestLast
  have stp : ∀ m i, i < 24 → fX4_soonestLast_2 h (m + 1) 97 (nI i) = if hB A n 0 (upT i) = true then some (nI i) else fX4_soonestLast_2 h m 97 (nI (i + 1)) := by
    intro m i hi
    rw [fX4_soonestLast_2, p24, if_neg (by rw [p_le (by omega) (by omega)]; omega), c_upTo i hi, ob_s, p0, c_canFill hP (Nat.zero_le n), ob_s, p1, nI_add, oL_d]
    cases hB A n 0 (upT i) with
    | false => rw [if_pos (by decide), if_neg (by decide)]
    | true => rw [if_neg (by decide), if_pos rfl]
  have l3' : sLa A n < 24 → hB A n 0 (upT (sLa A n)) = true := l3
  have go : ∀ i, i < sLa A n → hB A n 0 (upT i) = false := l2
  have hle : sLa A n ≤ 24 := l1
  refine run_loop (fun m (s : Int32) => fX4_soonestLast_2 h m 97 s) (fun i => nI i) (sLa A n) _ (fun m i hi => ?_) (fun m => ?_) FU (FU_lt (by omega))
  · show fX4_soonestLast_2 h (m + 1) 97 (nI i) = fX4_soonestLast_2 h m 97 (nI (i + 1))
    rw [stp m i (by omega), if_neg (by rw [go i hi]; decide)]
  · show fX4_soonestLast_2 h (m + 1) 97 (nI (sLa A n)) = _
    by_cases e : sLa A n < 24
    · rw [stp m _ e, if_pos (l3' e), if_pos e]
    · have e1 : sLa A n = 24 := by omega
      rw [if_neg e, e1, fX4_soonestLast_2, if_pos (by decide)]
/-- the step given, by what is free; what is free then -/
noncomputable def gst (A : Nat → Nat) (n k F : Nat) : Nat := lst (fun t => (A k &&& F).testBit t && hB A n (k + 1) (clrG F t)) 24
noncomputable def fre (A : Nat → Nat) (n L : Nat) : Nat → Nat
  | 0 => upT L
  | k + 1 => clrG (fre A n L k) (gst A n k (fre A n L k))
theorem fre_lt {A : Nat → Nat} {n L : Nat} (hL : L < 24) : ∀ k, fre A n L k < 16777216 := by
  intro k
  induction k with
  | zero => exact upT_lt L hL
  | succ k ih => exact Nat.lt_of_le_of_lt clrG_le ih
theorem c_first {A : Nat → Nat} {n k F : Nat} {h : AH} (hP : PlC A n h) (hk : k < n) (hF : F < 16777216) : fX4_firstStep 97 (nI k) (nI F) h = some (if gst A n k F < 24 then nI (gst A n k F) else -1) := by
  obtain ⟨l1, l2, l3⟩ := lst_is (p := fun t => (A k &&& F).testBit t && hB A n (k + 1) (clrG F t)) 24
  have h4 := hP.1
  obtain ⟨k1, k2⟩ := hP.2.2 k hk
  unfold fX4_firstStep
  have stp : ∀ m i, i < 24 → fX4_firstStep_2 h (m + 1) 97 (nI k) (nI F) (nI i) = if ((A k &&& F).testBit i && hB A n (k + 1) (clrG F i)) = true then some (nI i) else fX4_firstStep_2 h m 97 (nI k) (nI F) (nI (i + 1)) := by
    intro m i hi
    have hz : (nI (A k) &&& nI F &&& jshl (nI 1) (nI i) = nI 0) = ((A k &&& F).testBit i = false) := by
      have hp : 2 ^ i < 2147483648 := Nat.lt_of_lt_of_le (Nat.pow_lt_pow_right (by decide) hi) (by decide)
      have hand : (A k &&& F) &&& 2 ^ i ≤ 2 ^ i := Nat.and_le_right
      rw [p_and, p_shl (by omega), Nat.one_mul, p_and, p_eq (by omega) (by omega)]
      refine propext ⟨fun q => ?_, fun q => Nat.eq_of_testBit_eq (fun j => ?_)⟩
      · have : ((A k &&& F) &&& 2 ^ i).testBit i = false := by rw [q, Nat.zero_testBit]
        rw [Nat.testBit_and, Nat.testBit_two_pow_self, Bool.and_true] at this
        exact this
      · rw [Nat.testBit_and, Nat.zero_testBit, Nat.testBit_two_pow]
        by_cases e : i = j
        · rw [← e, q]; rfl
        · rw [decide_eq_false e, Bool.and_false]
    rw [fX4_firstStep_2, p24, if_neg (by rw [p_le (by omega) (by omega)]; omega), z970, z98s, inb_nI (by omega), oG_d (by omega), ix_nI (by omega), k1, p1, p0, c_clrG (by omega), nI_add, nI_add, oL_d, c_canFill hP (by omega), ob_s]
    cases e : (A k &&& F).testBit i with
    | false => rw [if_pos (hz.mpr e), if_neg (by rw [Bool.false_and]; decide)]
    | true =>
      rw [if_neg (fun q => by rw [hz.mp q] at e; cases e)]
      cases hB A n (k + 1) (clrG F i) with
      | false => rw [if_pos (by decide), if_neg (by decide)]
      | true => rw [if_neg (by decide), if_pos (by decide)]
  have hle : gst A n k F ≤ 24 := l1
  have l3' : gst A n k F < 24 → ((A k &&& F).testBit (gst A n k F) && hB A n (k + 1) (clrG F (gst A n k F))) = true := l3
  refine run_loop (fun m (s : Int32) => fX4_firstStep_2 h m 97 (nI k) (nI F) s) (fun i => nI i) (gst A n k F) _ (fun m i hi => ?_) (fun m => ?_) FU (FU_lt (by omega))
  · show fX4_firstStep_2 h (m + 1) 97 (nI k) (nI F) (nI i) = fX4_firstStep_2 h m 97 (nI k) (nI F) (nI (i + 1))
    have := l2 i hi
    rw [stp m i (by omega), if_neg (by rw [this]; decide)]
  · show fX4_firstStep_2 h (m + 1) 97 (nI k) (nI F) (nI (gst A n k F)) = _
    by_cases e : gst A n k F < 24
    · rw [stp m _ e, if_pos (l3' e), if_pos e]
    · have e1 : gst A n k F = 24 := by omega
      rw [if_neg e, e1, fX4_firstStep_2, if_pos (by decide)]
theorem n_neg {a : Nat} (ha : a < 2147483648) : ¬ nI a = (-1 : Int32) := fun q => by
  have := congrArg Int32.toInt q
  rw [nI_toInt ha, show (-1 : Int32).toInt = -1 by decide] at this
  omega
noncomputable def prS (A : Nat → Nat) (n L : Nat) : Nat → Int32
  | 0 => -1
  | k + 1 => nI (gst A n k (fre A n L k))
theorem c_stepOf {A : Nat → Nat} {n i L : Nat} {h : AH} (hP : PlC A n h) (hi : i < n) (hL : L < 24) (hg : ∀ k, k < n → gst A n k (fre A n L k) < 24) : fX4_stepOf 97 (nI i) (nI L) h = some (nI (gst A n i (fre A n L i))) := by
  have h4 := hP.1
  have h1 := hP.2.1
  unfold fX4_stepOf
  rw [c_upTo L hL, ob_s]
  refine run_loop (fun m (s : Int32 × Int32 × Int32) => fX4_stepOf_11 h m 97 (nI i) s.1 s.2.1 s.2.2) (fun k => (nI (fre A n L k), prS A n L k, nI k)) (i + 1) _ (fun m k hk => ?_) (fun m => ?_) FU (FU_lt (by omega))
  · show fX4_stepOf_11 h (m + 1) 97 (nI i) (nI (fre A n L k)) (prS A n L k) (nI k) = fX4_stepOf_11 h m 97 (nI i) (nI (fre A n L (k + 1))) (nI (gst A n k (fre A n L k))) (nI (k + 1))
    have g1 := hg k (by omega)
    rw [fX4_stepOf_11, if_neg (by rw [p_lt (by omega) (by omega)]; omega), h1, if_neg (by rw [p_le (by omega) (by omega)]; omega), c_first hP (by omega) (fre_lt hL k), ob_s, if_pos g1, if_neg (n_neg (by omega)), p1, c_clrG (by omega), nI_add, oL_d, oL_d]
    rfl
  · show fX4_stepOf_11 h (m + 1) 97 (nI i) (nI (fre A n L (i + 1))) (nI (gst A n i (fre A n L i))) (nI (i + 1)) = _
    rw [fX4_stepOf_11, if_pos (by rw [p_lt (by omega) (by omega)]; omega)]
