/-! PURE: fails -/
theorem sJ_n {h : AH} {o k a b : Nat} {v : Int64} (hn : ¬ (a = o ∧ b = k)) : hJ (sJ h o k v) a b = hJ h a b := if_neg hn
theorem sJ_e {h : AH} {o k : Nat} {v : Int64} : hJ (sJ h o k v) o k = v := if_pos ⟨rfl, rfl⟩
theorem lg_z (x y : Int64) : (lg_cmp x y = 0) = (x = y) := by
  unfold lg_cmp
  by_cases h2 : y < x
  · have h3 : ¬ x = y := fun q => by subst q; exact Int64.lt_irrefl h2
    simp [h2, h3]
  · by_cases h3 : x = y
    · simp [h3]
    · simp [h2, h3]
theorem lN_z {a : Nat} (ha : a < 9223372036854775808) : (lN a = (0 : Int64)) = (a = 0) := by
  rw [show (0 : Int64) = lN 0 by decide]
  exact propext (pk_lEQ (by omega) (by omega))
theorem j_rem {a b : Nat} (ha : a < 9223372036854775808) (h0 : 0 < b) (hb : b < 9223372036854775808) : jremL (lN a) (lN b) = lN (a % b) := by
  unfold jremL
  exact pk_lRem (by omega) h0 (by omega)
theorem half_mod {a r : Nat} (h0 : 0 < r) (h1 : r < a) : 2 * (a % r) < a := by
  have h2 := Nat.mod_lt a h0
  have h3 := Nat.div_add_mod a r
  have h4 : 1 ≤ a / r := (Nat.one_le_div_iff h0).mpr (by omega)
  have h5 : r * 1 ≤ r * (a / r) := Nat.mul_le_mul_left r h4
  omega
theorem c_euclid {l1 l3 : Int64} {h : AH} : ∀ k a b m i, a < 2 ^ k → a < 9223372036854775808 → b < 9223372036854775808 → 2 * k + 2 ≤ m → i + 2 * k + 2 ≤ 100 → fX8_keepFraction_9 m 0 l1 l3 (lN a) (lN b) (nI i) h = fX8_keepFraction_44 0 l1 l3 (lN (Nat.gcd a b)) h := by
  have z : ∀ a b m i, a = 0 → a < 9223372036854775808 → i < 100 → fX8_keepFraction_9 (m + 1) 0 l1 l3 (lN a) (lN b) (nI i) h = fX8_keepFraction_44 0 l1 l3 (lN b) h := by
    intro a b m i h0 ha hi
    rw [fX8_keepFraction_9, if_neg (by rw [p100, p_le (by omega) (by omega)]; omega), if_pos (by rw [lg_z, lN_z ha]; exact h0)]
  have s : ∀ a b m i, a ≠ 0 → a < 9223372036854775808 → b < 9223372036854775808 → i < 100 → fX8_keepFraction_9 (m + 1) 0 l1 l3 (lN a) (lN b) (nI i) h = fX8_keepFraction_9 m 0 l1 l3 (lN (b % a)) (lN a) (nI (i + 1)) h := by
    intro a b m i h0 ha hb hi
    rw [fX8_keepFraction_9, if_neg (by rw [p100, p_le (by omega) (by omega)]; omega), if_neg (by rw [lg_z, lN_z ha]; exact h0), oG_d (by rw [lN_z ha]; exact h0), oL_d, oL_d, j_rem hb (by omega) ha, p1, nI_add]
  intro k
  induction k with
  | zero =>
    intro a b m i hk ha hb hm hi
    obtain ⟨m, rfl⟩ : ∃ q, m = q + 1 := ⟨m - 1, by omega⟩
    have h0 : a = 0 := by omega
    rw [z a b m i h0 ha (by omega), h0, Nat.gcd_zero_left]
  | succ k ih =>
    intro a b m i hk ha hb hm hi
    obtain ⟨m, rfl⟩ : ∃ q, m = q + 2 := ⟨m - 2, by omega⟩
    have h3 : 2 ^ (k + 1) = 2 * 2 ^ k := by rw [Nat.pow_succ, Nat.mul_comm]
    by_cases h0 : a = 0
    · rw [z a b (m + 1) i h0 ha (by omega), h0, Nat.gcd_zero_left]
    · have hr := Nat.mod_lt b (show 0 < a by omega)
      rw [s a b (m + 1) i h0 ha hb (by omega), Nat.gcd_rec]
      by_cases h1 : b % a = 0
      · rw [z _ _ m _ h1 (by omega) (by omega), h1, Nat.gcd_zero_left]
      · have h2 := half_mod (show 0 < b % a by omega) hr
        rw [s _ _ m _ h1 (by omega) ha (by omega), Nat.gcd_rec (b % a)]
        exact ih _ _ _ _ (by omega) (by omega) (by omega) (by omega) (by omega)
theorem m_euclid {l1 l3 : Int64} {h : AH} : ∀ k a b m, b < 2 ^ k → a < 9223372036854775808 → b < 9223372036854775808 → 2 * k + 2 ≤ m → fX9_fraction_6 m 262 l1 l3 (lN a) (lN b) h = fX9_fraction_31 262 l1 l3 (lN (Nat.gcd a b)) h := by
  have z : ∀ a b m, b = 0 → b < 9223372036854775808 → fX9_fraction_6 (m + 1) 262 l1 l3 (lN a) (lN b) h = fX9_fraction_31 262 l1 l3 (lN a) h := by
    intro a b m h0 ha
    rw [fX9_fraction_6, if_pos (by rw [lg_z, lN_z ha]; exact h0)]
  have s : ∀ a b m, b ≠ 0 → a < 9223372036854775808 → b < 9223372036854775808 → fX9_fraction_6 (m + 1) 262 l1 l3 (lN a) (lN b) h = fX9_fraction_6 m 262 l1 l3 (lN b) (lN (a % b)) h := by
    intro a b m h0 ha hb
    rw [fX9_fraction_6, if_neg (by rw [lg_z, lN_z hb]; exact h0), oG_d (by rw [lN_z hb]; exact h0), oL_d, j_rem ha (by omega) hb]
  intro k
  induction k with
  | zero =>
    intro a b m hk ha hb hm
    obtain ⟨m, rfl⟩ : ∃ q, m = q + 1 := ⟨m - 1, by omega⟩
    have h0 : b = 0 := by omega
    rw [z a b m h0 hb, h0, Nat.gcd_zero_right]
  | succ k ih =>
    intro a b m hk ha hb hm
    obtain ⟨m, rfl⟩ : ∃ q, m = q + 2 := ⟨m - 2, by omega⟩
    have h3 : 2 ^ (k + 1) = 2 * 2 ^ k := by rw [Nat.pow_succ, Nat.mul_comm]
    by_cases h0 : b = 0
    · rw [z a b (m + 1) h0 hb, h0, Nat.gcd_zero_right]
    · have hr := Nat.mod_lt a (show 0 < b by omega)
      rw [s a b (m + 1) h0 ha hb, Nat.gcd_comm a b, Nat.gcd_rec b a, Nat.gcd_comm (a % b) b]
      by_cases h1 : a % b = 0
      · rw [z _ _ m h1 (by omega), h1, Nat.gcd_zero_right]
      · have h2 := half_mod (show 0 < a % b by omega) hr
        rw [s _ _ m h1 hb (by omega), Nat.gcd_comm b, Nat.gcd_rec (a % b) b, Nat.gcd_comm _ (a % b)]
        exact ih _ _ _ (by omega) (by omega) (by omega) (by omega)
theorem c_fraction {a b : Nat} {h : AH} (ha : a < 2 ^ 30) (hb : b < 2 ^ 30) (h0 : 0 < b) : fX8_keepFraction 0 (lN a) (lN b) h = some (sJ (sJ h 0 8 (lN (a / Nat.gcd a b))) 0 9 (lN (b / Nat.gcd a b))) := by
  have hg := Nat.gcd_pos_of_pos_right a h0
  have hgl : Nat.gcd a b ≤ b := Nat.gcd_le_right a h0
  unfold fX8_keepFraction
  rw [p0, c_euclid 30 a b FU 0 ha (by omega) (by omega) (Nat.le_of_lt (FU_lt (by omega))) (by omega)]
  unfold fX8_keepFraction_44
  have hgt : ¬ lg_cmp (lN (Nat.gcd a b)) (0 : Int64) ≤ 0 := by
    unfold lg_cmp
    rw [if_pos (show lN (Nat.gcd a b) > (0 : Int64) by rw [show (0 : Int64) = lN 0 by decide]; exact (pk_lLT (by omega) (by omega)).mpr hg)]
    decide
  rw [if_neg hgt, oG_d (by rw [lN_z (by omega)]; omega), oL_d, oG_d (by rw [lN_z (by omega)]; omega), oL_d, pk_lDiv (by omega) hg (by omega), pk_lDiv (by omega) hg (by omega)]
theorem m_fraction {a b : Nat} {h : AH} (ha : a < 2 ^ 30) (hb : b < 2 ^ 30) (h0 : 0 < b) : fX9_fraction 262 (lN a) (lN b) h = some (sJ (sJ h 262 4 (lN (a / Nat.gcd a b))) 262 5 (lN (b / Nat.gcd a b))) := by
  have hg := Nat.gcd_pos_of_pos_right a h0
  have hgl : Nat.gcd a b ≤ b := Nat.gcd_le_right a h0
  unfold fX9_fraction
  rw [m_euclid 30 a b FU hb (by omega) (by omega) (Nat.le_of_lt (FU_lt (by omega)))]
  unfold fX9_fraction_31
  rw [oG_d (by rw [lN_z (by omega)]; omega), oL_d, oG_d (by rw [lN_z (by omega)]; omega), oL_d, pk_lDiv (by omega) hg (by omega), pk_lDiv (by omega) hg (by omega)]
/-! the odds -/
def pd (on set c : Nat) : Nat → Nat
  | 0 => 1
  | s + 1 => pd on set c s * (if on.testBit s = true then (if set.testBit s = true then 10 - c else c) else 1)
def pa (on : Nat) : Nat → Nat
  | 0 => 1
  | s + 1 => pa on s * (if on.testBit s = true then 10 else 1)
theorem pd_is : ∀ on, on < 32 → ∀ set, set < 32 → set &&& on = set → ∀ c, c < 11 → pd on set c 5 = (10 - c) ^ pc 6 set * c ^ (pc 6 on - pc 6 set) ∧ pd on set c 5 ≤ 100000 ∧ pc 6 set ≤ pc 6 on := by decide +kernel
theorem pa_is : ∀ on, on < 32 → pa on 5 = 10 ^ pc 6 on ∧ 0 < pa on 5 ∧ pa on 5 ≤ 100000 := by decide +kernel
theorem fl_sub : ∀ a, a < 32 → ∀ b, b < 32 → ((nI a &&& (nI b ^^^ (-1 : Int32)) = 0) ↔ (a &&& b = a)) := by decide +kernel
theorem pd_more {on set c n : Nat} (h : on < 2 ^ n) : ∀ d, pd on set c (n + d) = pd on set c n := by
  intro d
  induction d with
  | zero => rfl
  | succ d ih =>
    have hb : on.testBit (n + d) = false := Nat.testBit_lt_two_pow (Nat.lt_of_lt_of_le h (Nat.pow_le_pow_right (by decide) (by omega)))
    show pd on set c (n + d) * (if on.testBit (n + d) = true then (if set.testBit (n + d) = true then 10 - c else c) else 1) = _
    rw [hb, if_neg (by decide), Nat.mul_one, ih]
theorem pa_more {on n : Nat} (h : on < 2 ^ n) : ∀ d, pa on (n + d) = pa on n := by
  intro d
  induction d with
  | zero => rfl
  | succ d ih =>
    have hb : on.testBit (n + d) = false := Nat.testBit_lt_two_pow (Nat.lt_of_lt_of_le h (Nat.pow_le_pow_right (by decide) (by omega)))
    show pa on (n + d) * (if on.testBit (n + d) = true then 10 else 1) = _
    rw [hb, if_neg (by decide), Nat.mul_one, ih]
theorem c_power {b k : Nat} (hk : k < 1000) : fX8_power (lN b) (nI k) = some (lN (b ^ k)) := by
  unfold fX8_power
  rw [p0, show (1 : Int64) = lN (b ^ 0) by rw [Nat.pow_zero]; decide]
  refine run_loop (fun n (s : Int64 × Int32) => fX8_power_5 n (lN b) (nI k) s.1 s.2) (fun i => (lN (b ^ i), nI i)) k _ (fun n i hi => ?_) (fun n => ?_) FU (FU_lt (by omega))
  · show fX8_power_5 (n + 1) (lN b) (nI k) (lN (b ^ i)) (nI i) = fX8_power_5 n (lN b) (nI k) (lN (b ^ (i + 1))) (nI (i + 1))
    rw [fX8_power_5, if_neg (by rw [p_le (by omega) (by omega)]; omega), oL_d, oL_d, lN_mul, p1, nI_add, Nat.pow_succ]
  · show fX8_power_5 (n + 1) (lN b) (nI k) (lN (b ^ k)) (nI k) = _
    rw [fX8_power_5, if_pos (by rw [p_le (by omega) (by omega)]; exact Nat.le_refl _)]
theorem c_odds {on set c : Nat} (hon : on < 32) (hs1 : set < 32) (hsub : set &&& on = set) (hc : c < 11) : fX8_oddsOf (nI on) (nI set) (nI c) = some (lN (pd on set c 5)) := by
  obtain ⟨e1, -, e2⟩ := pd_is on hon set hs1 hsub c hc
  have h1 := pc_le 6 on
  unfold fX8_oddsOf
  rw [c_bits _ (by omega), ob_s, p10, p_sub (by omega), nI_l (by omega), c_power (by omega), ob_s, c_bits _ (by omega), ob_s, nI_l (by omega), p_sub e2, c_power (by omega), ob_s, lN_mul, e1]
/-- the sum of all ways -/
def flS (T : Nat → Int32) (cell c : Nat) : Nat → Nat
  | 0 => 0
  | b + 1 => if b &&& onT T = b then flS T cell c b + pd (onT T) b c 5 * pc 6 (who T cell b (tn T 13 % 12)) else flS T cell c b
theorem flS_le {T : Nat → Int32} {cell c : Nat} (hon : onT T < 32) (hc : c < 11) : ∀ n, n ≤ 32 → flS T cell c n ≤ 600000 * n := by
  intro n
  induction n with
  | zero => intro _; exact Nat.zero_le _
  | succ n ih =>
    intro hn
    have h1 := ih (by omega)
    unfold flS
    by_cases q : n &&& onT T = n
    · rw [if_pos q]
      have h2 := (pd_is _ hon n (by omega) q c hc).2.1
      have h3 := pc_le 6 (who T cell n (tn T 13 % 12))
      have h4 := Nat.mul_le_mul h2 h3
      omega
    · rw [if_neg q]; omega
theorem flS_more {T : Nat → Int32} {cell c n : Nat} (h : onT T < 2 ^ n) : ∀ d, flS T cell c (2 ^ n + d) = flS T cell c (2 ^ n) := by
  intro d
  induction d with
  | zero => rfl
  | succ d ih =>
    show flS T cell c (2 ^ n + d + 1) = _
    rw [flS, if_neg, ih]
    intro q
    have h1 : (2 ^ n + d) &&& onT T ≤ onT T := Nat.and_le_right
    omega
theorem c_fails41 {S : ST} {h : AH} {cell c : Nat} (hC : CR S h) (hW : WfS S) (hcell : cell < 30) (hc : c < 11) : ∃ h1, fX8_fails_41 FU 0 (nI cell) (nI c) (nI (onT (sT S))) (lN 0) (nI 0) h = some (1, sJ (sJ h1 0 8 (lN (flS (sT S) cell c 32 / Nat.gcd (flS (sT S) cell c 32) (pa (onT (sT S)) 5)))) 0 9 (lN (pa (onT (sT S)) 5 / Nat.gcd (flS (sT S) cell c 32) (pa (onT (sT S)) 5)))) ∧ EqQ h h1 := by
  have hT := hW.1
  have hon := onT_lt hT (by omega)
  have ht : tn (sT S) 13 % 12 < 12 := Nat.mod_lt _ (by omega)
  obtain ⟨N, hN⟩ : ∃ N : Nat, N = 32 := ⟨32, rfl⟩
  obtain ⟨pa1, pa2, pa3⟩ := pa_is _ hon
  rw [← hN]
  refine run_rel (fun n (s : Int64 × Int32 × AH) => fX8_fails_41 n 0 (nI cell) (nI c) (nI (onT (sT S))) s.1 s.2.1 s.2.2) (fun i s => s.1 = lN (flS (sT S) cell c i) ∧ s.2.1 = nI i ∧ EqQ h s.2.2) N (fun r => ∃ h1, r = some (1, sJ (sJ h1 0 8 (lN (flS (sT S) cell c N / Nat.gcd (flS (sT S) cell c N) (pa (onT (sT S)) 5)))) 0 9 (lN (pa (onT (sT S)) 5 / Nat.gcd (flS (sT S) cell c N) (pa (onT (sT S)) 5)))) ∧ EqQ h h1) ?_ ?_ (lN 0, nI 0, h) ⟨rfl, rfl, EqQ.rf⟩ FU (FU_lt (by omega))
  · rintro n i ⟨s1, s2, hh⟩ hi ⟨i1, i2, iq⟩
    simp only at i1 i2 iq
    subst i1; subst i2
    have hLa : LaR 2 (sT S) hh := hC.1.1.eqs (iq.eqs (by omega))
    have hw := who_lt hT (show 46 ≤ 304 by omega) (cell := cell) (set := i) (t := tn (sT S) 13 % 12)
    have p32 : (32 : Int32) = nI 32 := by decide
    have e0 : fX8_fails_41 (n + 1) 0 (nI cell) (nI c) (nI (onT (sT S))) (lN (flS (sT S) cell c i)) (nI i) hh = _ := fX8_fails_41.eq_2 ..
    rw [if_neg (by rw [p32, p_le (by omega) (by omega)]; omega)] at e0
    by_cases q : i &&& onT (sT S) = i
    · refine ⟨(lN (flS (sT S) cell c (i + 1)), nI (i + 1), gz hh (sT S) i (tn (sT S) 13 % 12)), ?_, rfl, rfl, iq.tr gz_eqq⟩
      show fX8_fails_41 (n + 1) 0 (nI cell) (nI c) (nI (onT (sT S))) (lN (flS (sT S) cell c i)) (nI i) hh = fX8_fails_41 n 0 (nI cell) (nI c) (nI (onT (sT S))) (lN (flS (sT S) cell c (i + 1))) (nI (i + 1)) _
      have h3 := pc_le 6 (who (sT S) cell i (tn (sT S) 13 % 12))
      rw [e0, if_pos ((fl_sub i (by omega) _ hon).mpr q), z00, z10, z04, p0, c_dayStep hT (by omega) hLa (by omega), ob_s, Nat.add_zero, c_gauge hT (show 46 ≤ 304 by omega) hLa (by omega) (by omega) ht, ob_s, c_wit hT (show 46 ≤ 304 by omega) (gz_LaR hLa (by omega)) gz_g ht hcell, ob_s, c_bits _ hw, ob_s, c_odds hon (by omega) q hc, ob_s, nI_l (by omega), oL_d, oL_d, lN_mul, lN_add, p1, nI_add, flS, if_pos q, Nat.mul_comm (pc 6 _)]
    · refine ⟨(lN (flS (sT S) cell c (i + 1)), nI (i + 1), hh), ?_, rfl, rfl, iq⟩
      show fX8_fails_41 (n + 1) 0 (nI cell) (nI c) (nI (onT (sT S))) (lN (flS (sT S) cell c i)) (nI i) hh = fX8_fails_41 n 0 (nI cell) (nI c) (nI (onT (sT S))) (lN (flS (sT S) cell c (i + 1))) (nI (i + 1)) hh
      rw [e0, if_neg (fun x => q ((fl_sub i (by omega) _ hon).mp x)), oL_d, p1, nI_add, flS, if_neg q]
  · rintro n ⟨s1, s2, hh⟩ ⟨i1, i2, iq⟩
    simp only at i1 i2 iq
    subst i1; subst i2
    have hfl := flS_le (T := sT S) (cell := cell) hon hc N (by omega)
    refine ⟨hh, ?_, iq⟩
    show fX8_fails_41 (n + 1) 0 (nI cell) (nI c) (nI (onT (sT S))) (lN (flS (sT S) cell c N)) (nI N) hh = _
    have e0 : fX8_fails_41 (n + 1) 0 (nI cell) (nI c) (nI (onT (sT S))) (lN (flS (sT S) cell c N)) (nI N) hh = _ := fX8_fails_41.eq_2 ..
    rw [if_pos (by rw [hN]; decide)] at e0
    rw [e0]
    unfold fX8_fails_126
    rw [c_bits _ (by omega), ob_s, show (10 : Int64) = lN 10 by decide, c_power (by have := pc_le 6 (onT (sT S)); omega), ob_s, ← pa1, c_fraction (by omega) (by omega) pa2, ob_s]
theorem m_fails112 {S : ST} {h : AH} {cell c set z i6 : Nat} {l4 : Int64} (hM : MR S h) (hW : WfS S) (hset : set < 32) (hc : c < 11) (k165 : Nat → Int32 → Int32 → Int32 → Int64 → Int64 → Int32 → Int64 → AH → Option (Int32 × AH)) : fX9_fails_112 k165 FU 262 (nI cell) (nI c) (nI (onT (sT S))) l4 (lN i6) (nI set) (lN z) (nI 0) h = k165 262 (nI cell) (nI c) (nI (onT (sT S))) l4 (lN i6) (nI set) (lN (z * pd (onT (sT S)) set c (tn (sT S) 0))) h := by
  have hT := hW.1
  have n0 := (wf_cnt hT).1.2
  have hon := onT_lt hT (by omega)
  have f0 : bI false = 0 := by decide
  have f1 : ¬ bI true = 0 := by decide
  have e0 : lN z = lN (z * pd (onT (sT S)) set c 0) := by rw [pd, Nat.mul_one]
  rw [e0]
  refine run_loop (fun n (s : Int64 × Int32) => fX9_fails_112 k165 n 262 (nI cell) (nI c) (nI (onT (sT S))) l4 (lN i6) (nI set) s.1 s.2 h) (fun i => (lN (z * pd (onT (sT S)) set c i), nI i)) (tn (sT S) 0) _ (fun n i hi => ?_) (fun n => ?_) FU (FU_lt (by omega))
  · show fX9_fails_112 k165 (n + 1) 262 (nI cell) (nI c) (nI (onT (sT S))) l4 (lN i6) (nI set) (lN (z * pd (onT (sT S)) set c i)) (nI i) h = fX9_fails_112 k165 n 262 (nI cell) (nI c) (nI (onT (sT S))) l4 (lN i6) (nI set) (lN (z * pd (onT (sT S)) set c (i + 1))) (nI (i + 1)) h
    rw [fX9_fails_112, m_many hM hW, ob_s, if_neg (by rw [p_le (by omega) (by omega)]; omega), m_has (by omega) (by omega), ob_s, m_has (by omega) (by omega), ob_s, pd, ← Nat.mul_assoc]
    unfold fX9_fails_156
    cases (onT (sT S)).testBit i with
    | false => rw [if_pos f0, oL_d, oL_d, show (1 : Int64) = lN 1 by decide, lN_mul, p1, nI_add, if_neg (by decide)]
    | true =>
      rw [if_neg f1, if_pos rfl]
      cases set.testBit i with
      | false => rw [if_pos f0, oL_d, oL_d, nI_l (by omega), lN_mul, p1, nI_add, if_neg (by decide)]
      | true => rw [if_neg f1, oL_d, oL_d, p10, p_sub (by omega), nI_l (by omega), lN_mul, p1, nI_add, if_pos rfl]
  · show fX9_fails_112 k165 (n + 1) 262 (nI cell) (nI c) (nI (onT (sT S))) l4 (lN i6) (nI set) (lN (z * pd (onT (sT S)) set c (tn (sT S) 0))) (nI (tn (sT S) 0)) h = _
    rw [fX9_fails_112, m_many hM hW, ob_s, if_pos (by rw [p_le (by omega) (by omega)]; exact Nat.le_refl _)]
theorem onT_pw {T : Nat → Int32} {m : Nat} (hT : WfU T m) (hm : 46 ≤ m) : onT T < 2 ^ tn T 0 := onS_lt hT hm _ (wf_0 hT hm).2
theorem m_fails82 {S : ST} {h : AH} {cell c : Nat} (hM : MR S h) (hW : WfS S) (hcell : cell < 30) (hc : c < 11) : fX9_fails_79 262 (nI cell) (nI c) (nI (onT (sT S))) (lN 0) (lN (pa (onT (sT S)) 5)) h = some (1, sJ (sJ h 262 4 (lN (flS (sT S) cell c 32 / Nat.gcd (flS (sT S) cell c 32) (pa (onT (sT S)) 5)))) 262 5 (lN (pa (onT (sT S)) 5 / Nat.gcd (flS (sT S) cell c 32) (pa (onT (sT S)) 5)))) := by
  have hT := hW.1
  have n0 := (wf_cnt hT).1.2
  have hon := onT_lt hT (by omega)
  have hpw := onT_pw hT (show 46 ≤ 304 by omega)
  have ht : tn (sT S) 13 % 12 < 12 := Nat.mod_lt _ (by omega)
  have h32 : 2 ^ tn (sT S) 0 ≤ 32 := Nat.pow_le_pow_right (n := 2) (by decide) n0
  obtain ⟨pa1, pa2, pa3⟩ := pa_is _ hon
  have hpd : ∀ set, pd (onT (sT S)) set c (tn (sT S) 0) = pd (onT (sT S)) set c 5 := by
    intro set
    have := pd_more (set := set) (c := c) hpw (5 - tn (sT S) 0)
    rw [show tn (sT S) 0 + (5 - tn (sT S) 0) = 5 by omega] at this
    exact this.symm
  have hfs : flS (sT S) cell c 32 = flS (sT S) cell c (2 ^ tn (sT S) 0) := by
    have := flS_more (cell := cell) (c := c) hpw (32 - 2 ^ tn (sT S) 0)
    rw [show 2 ^ tn (sT S) 0 + (32 - 2 ^ tn (sT S) 0) = 32 by omega] at this
    exact this
  have f1 : jshl (1 : Int32) (nI (tn (sT S) 0)) = nI (2 ^ tn (sT S) 0) := by rw [p1, p_shl (by omega), Nat.one_mul]
  unfold fX9_fails_79
  rw [p0, hfs]
  refine run_loop (fun n (s : Int64 × Int32) => fX9_fails_82 n 262 (nI cell) (nI c) (nI (onT (sT S))) s.1 (lN (pa (onT (sT S)) 5)) s.2 h) (fun i => (lN (flS (sT S) cell c i), nI i)) (2 ^ tn (sT S) 0) _ (fun n i hi => ?_) (fun n => ?_) FU (FU_lt (by omega))
  · show fX9_fails_82 (n + 1) 262 (nI cell) (nI c) (nI (onT (sT S))) (lN (flS (sT S) cell c i)) (lN (pa (onT (sT S)) 5)) (nI i) h = fX9_fails_82 n 262 (nI cell) (nI c) (nI (onT (sT S))) (lN (flS (sT S) cell c (i + 1))) (lN (pa (onT (sT S)) 5)) (nI (i + 1)) h
    have hw := who_lt hT (show 46 ≤ 304 by omega) (cell := cell) (set := i) (t := tn (sT S) 13 % 12)
    have h3 := pc_le 6 (who (sT S) cell i (tn (sT S) 13 % 12))
    rw [fX9_fails_82, m_many hM hW, ob_s, f1, if_neg (by rw [p_le (by omega) (by omega)]; omega)]
    unfold fX9_fails_107
    rw [p0, show (1 : Int64) = lN 1 by decide, show (0 : Int64) = lN 0 by decide, m_fails112 hM hW (by omega) hc, m_fails112 hM hW (by omega) hc, hpd, Nat.one_mul, Nat.zero_mul, m_stepNow hM hW, ob_s, ob_s, q20, m_who hT (show 46 ≤ 304 by omega) hM.1 (by omega) (show i < 2147483648 by omega) ht hcell, ob_s, ob_s, m_bits6 hw, ob_s, ob_s, nI_l (by omega), oL_d, oL_d, oL_d, oL_d, lN_mul, lN_add, lN_mul, lN_add, p1, nI_add, Nat.zero_mul, Nat.add_zero, flS]
    by_cases q : i &&& onT (sT S) = i
    · rw [if_pos (by rw [← p0]; exact (fl_sub i (by omega) _ hon).mpr q), if_pos q]
    · rw [if_neg (by rw [← p0]; exact fun x => q ((fl_sub i (by omega) _ hon).mp x)), if_neg q, Nat.add_zero]
  · show fX9_fails_82 (n + 1) 262 (nI cell) (nI c) (nI (onT (sT S))) (lN (flS (sT S) cell c (2 ^ tn (sT S) 0))) (lN (pa (onT (sT S)) 5)) (nI (2 ^ tn (sT S) 0)) h = _
    have hfl := flS_le (T := sT S) (cell := cell) hon hc (2 ^ tn (sT S) 0) (by omega)
    rw [fX9_fails_82, m_many hM hW, ob_s, f1, if_pos (by rw [p_le (by omega) (by omega)]; exact Nat.le_refl _)]
    unfold fX9_fails_197
    rw [m_fraction (by omega) (by omega) pa2, ob_s]
theorem op_fails : OP_fails RR := by
  rintro a1 a2 h ⟨S, hW, hC, hM⟩
  have hT := hW.1
  have n0 := (wf_cnt hT).1.2
  have hon := onT_lt hT (by omega)
  have hpw := onT_pw hT (show 46 ≤ 304 by omega)
  have hbad : GO S (fX8_fails_17 0 h) (fun h1 => fX9_fails_19 262 h1) := GO.bad hW hC hM (fun h1 q => by unfold fX8_fails_17; exact rf8 q) (fun h1 => rfl)
  refine GO.out (S := S) (f9 := fun h1 => fX9_fails 262 a1 a2 h1) ?_
  unfold fX8_fails fX9_fails
  refine GO.chk c_isCell (fun h1 hM1 => m_isCell) (fun _ => hbad) (fun b1 => ?_)
  refine GO.chk c_within (fun h1 hM1 => m010) (fun _ => hbad) (fun b2 => ?_)
  obtain ⟨cell, rfl, -, hcell⟩ := wi_nI (a := a1) (lo := 0) (hi := 29) (by omega) (by omega) b1
  obtain ⟨c, rfl, -, hc⟩ := wi_nI (a := a2) (lo := 0) (hi := 10) (by omega) (by omega) b2
  obtain ⟨g, r1, q1⟩ := c_fails41 hC hW (show cell < 30 by omega) (show c < 11 by omega)
  have hCg := hC.eqq hW q1
  refine GO.act (S' := txS S (lN (flS (sT S) cell c 32 / Nat.gcd (flS (sT S) cell c 32) (pa (onT (sT S)) 5))) (lN (pa (onT (sT S)) 5 / Nat.gcd (flS (sT S) cell c 32) (pa (onT (sT S)) 5))) (sB S) (sL S)) hM (hW.tx hW.2.2.1 hW.2.2.2.1) 1 ⟨sJ (sJ g 0 8 (lN (flS (sT S) cell c 32 / Nat.gcd (flS (sT S) cell c 32) (pa (onT (sT S)) 5)))) 0 9 (lN (pa (onT (sT S)) 5 / Nat.gcd (flS (sT S) cell c 32) (pa (onT (sT S)) 5))), ?_, ?_, ?_⟩ (fun h1 m1 => ⟨sJ (sJ h1 262 4 (lN (flS (sT S) cell c 32 / Nat.gcd (flS (sT S) cell c 32) (pa (onT (sT S)) 5)))) 262 5 (lN (pa (onT (sT S)) 5 / Nat.gcd (flS (sT S) cell c 32) (pa (onT (sT S)) 5))), ?_, ?_, ?_⟩)
  · rw [z00, z10, c_on hT (show 46 ≤ 304 by omega) hC.1.1, ob_s, show (0 : Int64) = lN 0 by decide, p0]
    exact r1
  · exact hCg.tx hW (fun o k q => ⟨rfl, by rw [sJ_n (by omega), sJ_n (by omega)], rfl⟩) (fun i hi => rfl) (by rw [sJ_n (by omega), sJ_e]) sJ_e hCg.2.2.2.2.2.2.2.2.1 hCg.2.2.2.2.2.2.2.2.2
  · exact fun o q2 q3 k => ⟨(q1 o k (by unfold kpt; omega)).1, by rw [sJ_n (by omega), sJ_n (by omega)]; exact (q1 o k (by unfold kpt; omega)).2.1, (q1 o k (by unfold kpt; omega)).2.2⟩
  · show (ob (fX9_isOn (PC 262 0) h1) fun v9 => fX9_fails_43 FU 262 (nI cell) (nI c) v9 (0 : Int64) (1 : Int64) (0 : Int32) h1) = _
    have hpa : pa (onT (sT S)) 5 = pa (onT (sT S)) (tn (sT S) 0) := by
      have := pa_more hpw (5 - tn (sT S) 0)
      rw [show tn (sT S) 0 + (5 - tn (sT S) 0) = 5 by omega] at this
      exact this
    rw [q20, m_on hT (show 46 ≤ 304 by omega) m1.1 (by omega), ob_s, show (1 : Int64) = lN (pa (onT (sT S)) 0) by rw [pa]; decide, show (0 : Int64) = lN 0 by decide, p0, ← m_fails82 m1 hW (show cell < 30 by omega) (show c < 11 by omega), hpa]
    have f0 : bI false = 0 := by decide
    have f1 : ¬ bI true = 0 := by decide
    refine run_loop (fun n (s : Int64 × Int32) => fX9_fails_43 n 262 (nI cell) (nI c) (nI (onT (sT S))) (lN 0) s.1 s.2 h1) (fun i => (lN (pa (onT (sT S)) i), nI i)) (tn (sT S) 0) _ (fun n i hi => ?_) (fun n => ?_) FU (FU_lt (by omega))
    · show fX9_fails_43 (n + 1) 262 (nI cell) (nI c) (nI (onT (sT S))) (lN 0) (lN (pa (onT (sT S)) i)) (nI i) h1 = fX9_fails_43 n 262 (nI cell) (nI c) (nI (onT (sT S))) (lN 0) (lN (pa (onT (sT S)) (i + 1))) (nI (i + 1)) h1
      rw [fX9_fails_43, m_many m1 hW, ob_s, if_neg (by rw [p_le (by omega) (by omega)]; omega), m_has (by omega) (by omega), ob_s, pa]
      unfold fX9_fails_70
      cases (onT (sT S)).testBit i with
      | false => rw [if_pos f0, oL_d, oL_d, show (1 : Int64) = lN 1 by decide, lN_mul, p1, nI_add, if_neg (by decide)]
      | true => rw [if_neg f1, oL_d, oL_d, show (10 : Int64) = lN 10 by decide, lN_mul, p1, nI_add, if_pos rfl]
    · show fX9_fails_43 (n + 1) 262 (nI cell) (nI c) (nI (onT (sT S))) (lN 0) (lN (pa (onT (sT S)) (tn (sT S) 0))) (nI (tn (sT S) 0)) h1 = _
      rw [fX9_fails_43, m_many m1 hW, ob_s, if_pos (by rw [p_le (by omega) (by omega)]; exact Nat.le_refl _)]
  · exact m1.tx (fun o k q => rfl) (by rw [sJ_n (by omega), sJ_e]) sJ_e m1.2.2.2.2.2.2.1 m1.2.2.2.2.2.2.2
  · exact fun o q2 q3 k => ⟨rfl, by rw [sJ_n (by omega), sJ_n (by omega)], rfl⟩
