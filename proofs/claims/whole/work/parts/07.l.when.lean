/-! PURE: the lowest bit; the open steps -/
theorem low_bits {x k : Nat} (hk : x.testBit k = true) (hj : ∀ j, j < k → x.testBit j = false) : ∀ i, (!x.testBit i && (x - 1).testBit i) = decide (i < k) := by
  have hm : x % 2 ^ (k + 1) = 2 ^ k := by
    refine Nat.eq_of_testBit_eq fun i => ?_
    rw [Nat.testBit_mod_two_pow, Nat.testBit_two_pow]
    by_cases h1 : i < k
    · rw [hj i h1, Bool.and_false, decide_eq_false (by omega)]
    · by_cases h2 : i = k
      · subst h2
        rw [hk, decide_eq_true (by omega), decide_eq_true rfl]
        rfl
      · rw [decide_eq_false (by omega), decide_eq_false (by omega), Bool.false_and]
  have hx : x = 2 ^ (k + 1) * (x / 2 ^ (k + 1)) + 2 ^ k := by
    have := Nat.div_add_mod x (2 ^ (k + 1))
    omega
  have hp : 0 < 2 ^ k := Nat.two_pow_pos k
  have hp2 : 2 ^ (k + 1) = 2 * 2 ^ k := by rw [Nat.pow_succ, Nat.mul_comm]
  generalize x / 2 ^ (k + 1) = y at hx
  have hx1 : x - 1 = 2 ^ (k + 1) * y + (2 ^ k - 1) := by omega
  intro i
  rw [hx1, Nat.testBit_two_pow_mul_add _ (by omega)]
  by_cases h1 : i < k
  · rw [if_pos (by omega), Nat.testBit_two_pow_sub_one, decide_eq_true h1, hj i h1]
    rfl
  · by_cases h2 : i = k
    · subst h2
      rw [hk, decide_eq_false h1]
      rfl
    · rw [if_neg (by omega), decide_eq_false h1]
      have : x.testBit i = y.testBit (i - (k + 1)) := by
        rw [hx, Nat.testBit_two_pow_mul_add _ (by omega), if_neg (by omega)]
      rw [this]
      cases y.testBit (i - (k + 1)) <;> rfl
theorem tz_v {x k : Nat} (hx : x < 2147483648) (hk : x.testBit k = true) (hj : ∀ j, j < k → x.testBit j = false) : (nI x ^^^ (-1 : Int32)) &&& (nI x - (1 : Int32)) = nI (2 ^ k - 1) := by
  have h0 : 0 < x := by
    rcases Nat.eq_zero_or_pos x with e | e
    · rw [e, Nat.zero_testBit] at hk
      exact absurd hk (by decide)
    · exact e
  rw [p1, p_sub (by omega)]
  apply Int32.toBitVec_inj.mp
  rw [Int32.toBitVec_and, Int32.toBitVec_xor, nI_bv, nI_bv, nI_bv, show (-nI 1).toBitVec = BitVec.allOnes 32 from rfl]
  refine BitVec.eq_of_getLsbD_eq fun i hi => ?_
  rw [BitVec.getLsbD_and, BitVec.getLsbD_xor, BitVec.getLsbD_ofNat, BitVec.getLsbD_ofNat, BitVec.getLsbD_ofNat, BitVec.getLsbD_allOnes, decide_eq_true hi, Nat.testBit_two_pow_sub_one, ← low_bits hk hj i]
  cases x.testBit i <;> cases (x - 1).testBit i <;> rfl
theorem tz_p : ∀ k, k < 31 → fJ6_numberOfTrailingZeros_0f7a4 (nI (2 ^ k)) = some (nI k) := by decide +kernel
theorem c_tz {x k : Nat} (hx : x < 2147483648) (hk : x.testBit k = true) (hj : ∀ j, j < k → x.testBit j = false) : fJ6_numberOfTrailingZeros_0f7a4 (nI x) = some (nI k) := by
  have hk31 : k < 31 := by
    refine Nat.lt_of_not_le fun q => ?_
    rw [Nat.testBit_lt_two_pow (Nat.lt_of_lt_of_le (show x < 2 ^ 31 by omega) (Nat.pow_le_pow_right (by decide) q))] at hk
    exact absurd hk (by decide)
  have hpk : 2 ^ k < 2147483648 := Nat.lt_of_le_of_lt (Nat.pow_le_pow_right (n := 2) (by decide) (show k ≤ 30 by omega)) (by decide)
  rw [← tz_p k hk31]
  unfold fJ6_numberOfTrailingZeros_0f7a4
  rw [tz_v hx hk hj, tz_v hpk (Nat.testBit_two_pow_self) (fun j q => Nat.testBit_two_pow_of_ne (by omega))]
def opn (T : Nat → Int32) (cell i : Nat) : Bool := decide (who T cell (onT T) ((tn T 13 + i) % 12) = 0)
def opS (T : Nat → Int32) (cell : Nat) : Nat → Nat
  | 0 => 0
  | i + 1 => if opn T cell i = true then opS T cell i ||| 2 ^ i else opS T cell i
theorem opS_lt {T : Nat → Int32} {cell : Nat} : ∀ n, opS T cell n < 2 ^ n := by
  intro n
  induction n with
  | zero => exact Nat.one_pos
  | succ n ih =>
    have h2 : 2 ^ (n + 1) = 2 * 2 ^ n := by rw [Nat.pow_succ, Nat.mul_comm]
    have h4 : 0 < 2 ^ n := Nat.two_pow_pos n
    unfold opS
    split
    · exact Nat.or_lt_two_pow (by omega) (by omega)
    · omega
theorem opS_bit {T : Nat → Int32} {cell : Nat} : ∀ n i, i < n → (opS T cell n).testBit i = opn T cell i := by
  intro n
  induction n with
  | zero => intro i hi; omega
  | succ n ih =>
    intro i hi
    have hlt := opS_lt (T := T) (cell := cell) n
    by_cases hin : i = n
    · subst hin
      unfold opS
      cases hb : opn T cell i with
      | true => rw [if_pos rfl, Nat.testBit_or, Nat.testBit_two_pow_self, Bool.or_true]
      | false => rw [if_neg (by decide), Nat.testBit_lt_two_pow hlt]
    · have h1 := ih i (by omega)
      unfold opS
      cases hb : opn T cell n with
      | true => rw [if_pos rfl, Nat.testBit_or, Nat.testBit_two_pow_of_ne (by omega), Bool.or_false, h1]
      | false => rw [if_neg (by decide), h1]
theorem c_open {T : Nat → Int32} {h : AH} {m cell : Nat} (hT : WfU T m) (hm : 46 ≤ m) (hR : LaR 2 T h) (hc : cell < 30) : ∃ h1, fX7_openSteps 92 2 (nI cell) h = some (nI (opS T cell 24), h1) ∧ EqQ h h1 := by
  have n13 := (wf_13 hT hm).2
  unfold fX7_openSteps
  refine run_rel (fun n (s : Int32 × Int32 × AH) => fX7_openSteps_5 n 92 2 (nI cell) s.1 s.2.1 s.2.2) (fun i s => s.1 = nI (opS T cell i) ∧ s.2.1 = nI i ∧ EqQ h s.2.2) 24 (fun r => ∃ h1, r = some (nI (opS T cell 24), h1) ∧ EqQ h h1) ?_ ?_ (0, 0, h) ⟨rfl, rfl, EqQ.rf⟩ FU (FU_lt (by omega))
  · rintro n i ⟨s1, s2, hh⟩ hi ⟨i1, i2, iq⟩
    simp only at i1 i2 iq
    subst i1; subst i2
    have hLa := hR.eqs (iq.eqs (by omega))
    have ht : (tn T 13 + i) % 12 < 12 := Nat.mod_lt _ (by omega)
    have hw := who_lt hT hm (cell := cell) (set := onT T) (t := (tn T 13 + i) % 12)
    have hol := opS_lt (T := T) (cell := cell) i
    show ∃ s', fX7_openSteps_5 (n + 1) 92 2 (nI cell) (nI (opS T cell i)) (nI i) hh = _ ∧ _
    rw [fX7_openSteps_5, if_neg (by rw [show (24 : Int32) = nI 24 by decide, p_le (by omega) (by omega)]; omega), c_dayStep hT hm hLa (by omega), ob_s, c_who hT hm hLa (by omega) ht hc, ob2_s]
    simp (disch := omega) only [p0, p1, p2, p3, p4, p5, p6, p7, p8, p9, p10, p11, p12, p14, p19, p23, p24, p25, p29, p30, p31, p35, p40, p46, p58, p60, p88, p99, p100, p112, p150, p9999, nI_add, nI_mul, ix_nI, p_sub, p_div, p_rem, p_shl, p_shr, p_and, p_or, inb_nI, p_eq, oL_d, Nat.one_mul]
    refine ⟨(nI (opS T cell (i + 1)), nI (i + 1), gz hh T (onT T) ((tn T 13 + i) % 12)), ?_, rfl, rfl, iq.tr gz_eqq⟩
    by_cases hz : who T cell (onT T) ((tn T 13 + i) % 12) = 0
    · rw [if_pos hz, opS, if_pos (show opn T cell i = true from decide_eq_true hz)]
    · rw [if_neg hz, opS, if_neg (show ¬ opn T cell i = true from fun q => hz (of_decide_eq_true q))]
  · rintro n ⟨s1, s2, hh⟩ ⟨i1, i2, iq⟩
    simp only at i1 i2 iq
    subst i1; subst i2
    refine ⟨hh, ?_, iq⟩
    show fX7_openSteps_5 (n + 1) 92 2 (nI cell) (nI (opS T cell 24)) (nI 24) hh = _
    rw [fX7_openSteps_5, if_pos (by decide)]
theorem m_unseenIn {S : ST} {h : AH} (hM : MR S h) (hW : WfS S) {cell i : Nat} (hc : cell < 30) (hi : i < 24) : fX9_isUnseenIn 262 (nI cell) (nI i) h = some (bI (opn (sT S) cell i)) := by
  have hT := hW.1
  have n13 := wf_13 hT (show 46 ≤ 304 by omega)
  have hon := onT_lt hT (by omega)
  have ht : (tn (sT S) 13 + i) % 12 < 12 := Nat.mod_lt _ (by omega)
  have hw := who_lt hT (show 46 ≤ 304 by omega) (cell := cell) (set := onT (sT S)) (t := (tn (sT S) 13 + i) % 12)
  have hr := hM.1.2.2
  have hp13 : (13 : Int32) = nI 13 := by decide
  unfold fX9_isUnseenIn
  simp (disch := omega) only [q20, m_on hT (show 46 ≤ 304 by omega) hM.1 (show 46 ≤ 304 by omega), ob_s, hp13, p0, p1, p2, p3, p4, p5, p6, p7, p8, p9, p10, p11, p12, p14, p19, p23, p24, p25, p29, p30, p31, p35, p40, p46, p58, p60, p88, p99, p100, p112, p150, p9999, nI_add, nI_mul, ix_nI, p_sub, p_div, p_rem, p_shl, p_shr, p_and, p_or, inb_nI, q20s, decide_eq_true, oG_t, hr, n13.1, m_who hT (show 46 ≤ 304 by omega) hM.1 (show 46 ≤ 304 by omega) (show onT (sT S) < 2147483648 by omega) ht hc, p_eq]
  unfold opn bI
  by_cases hz : who (sT S) cell (onT (sT S)) ((tn (sT S) 13 + i) % 12) = 0
  · rw [if_pos hz, decide_eq_true hz]; rfl
  · rw [if_neg hz, decide_eq_false hz]; rfl
theorem firstOf (p : Nat → Bool) : ∀ n, (∀ i, i < n → p i = false) ∨ ∃ k, k < n ∧ p k = true ∧ ∀ i, i < k → p i = false := by
  intro n
  induction n with
  | zero => exact Or.inl fun i hi => by omega
  | succ n ih =>
    rcases ih with h1 | ⟨k, h1, h2, h3⟩
    · cases hp : p n with
      | true => exact Or.inr ⟨n, by omega, hp, h1⟩
      | false =>
        refine Or.inl fun i hi => ?_
        by_cases e : i = n
        · rw [e]; exact hp
        · exact h1 i (by omega)
    · exact Or.inr ⟨k, by omega, h2, h3⟩
theorem op_when : OP_when RR := by
  rintro a1 h ⟨S, hW, hC, hM⟩
  have hT := hW.1
  refine GO.out (S := S) (f9 := fun h1 => fX9_when 262 a1 h1) ?_
  unfold fX8_when fX9_when
  simp only [z00, z10, z04]
  refine GO.chk c_isCell (fun h1 hM1 => m_isCell) (fun _ => GO.bad hW hC hM (fun h1 q => rf8 q) (fun h1 => rfl)) (fun b1 => ?_)
  obtain ⟨c, rfl, -, hc⟩ := wi_nI (a := a1) (lo := 0) (hi := 29) (by omega) (by omega) b1
  obtain ⟨hh, r1, q1⟩ := c_open hT (show 46 ≤ 304 by omega) hC.1.1 (show c < 30 by omega)
  have hlt := opS_lt (T := sT S) (cell := c) 24
  rw [r1, ob2_s]
  rcases firstOf (opn (sT S) c) 24 with hn | ⟨k, hk, hk1, hk2⟩
  · have h0 : opS (sT S) c 24 = 0 := by
      refine Nat.eq_of_testBit_eq fun i => ?_
      rw [Nat.zero_testBit]
      by_cases hi : i < 24
      · rw [opS_bit 24 i hi, hn i hi]
      · exact Nat.testBit_lt_two_pow (Nat.lt_of_lt_of_le hlt (Nat.pow_le_pow_right (by decide) (by omega)))
    refine GO.ask hW hC hM (-1) ⟨hh, by rw [h0]; rfl, q1⟩ (fun h1 hM1 => ⟨h1, ?_, hM1, Eqs.rf⟩)
    refine run_loop (fun n (s : Int32) => fX9_when_16 n 262 (nI c) s h1) (fun i => nI i) 24 _ (fun n i hi => ?_) (fun n => ?_) FU (FU_lt (by omega))
    · show fX9_when_16 (n + 1) 262 (nI c) (nI i) h1 = fX9_when_16 n 262 (nI c) (nI (i + 1)) h1
      rw [fX9_when_16]
      simp (disch := omega) only [p0, p1, p2, p3, p4, p5, p6, p7, p8, p9, p10, p11, p12, p14, p19, p23, p24, p25, p29, p30, p31, p35, p40, p46, p58, p60, p88, p99, p100, p112, p150, p9999, nI_add, nI_mul, ix_nI, p_sub, p_div, p_rem, p_shl, p_shr, p_and, p_or, inb_nI, p_le, if_neg, m_unseenIn hM1 hW (show c < 30 by omega) hi, hn i hi, ob_s, oL_d]
      rfl
    · show fX9_when_16 (n + 1) 262 (nI c) (nI 24) h1 = _
      rw [fX9_when_16, if_pos (by decide)]
  · have hb : (opS (sT S) c 24).testBit k = true := by rw [opS_bit 24 k hk, hk1]
    have h0 : 0 < opS (sT S) c 24 := by
      rcases Nat.eq_zero_or_pos (opS (sT S) c 24) with e | e
      · rw [e, Nat.zero_testBit] at hb
        exact absurd hb (by decide)
      · exact e
    refine GO.ask hW hC hM (nI k) ⟨hh, ?_, q1⟩ (fun h1 hM1 => ⟨h1, ?_, hM1, Eqs.rf⟩)
    · rw [c_tz (by omega) hb (fun j hj => by rw [opS_bit 24 j (by omega), hk2 j hj]), ob_s, if_neg (by rw [p0, p_eq (by omega) (by omega)]; omega)]
    refine run_loop (fun n (s : Int32) => fX9_when_16 n 262 (nI c) s h1) (fun i => nI i) k _ (fun n i hi => ?_) (fun n => ?_) FU (FU_lt (by omega))
    · show fX9_when_16 (n + 1) 262 (nI c) (nI i) h1 = fX9_when_16 n 262 (nI c) (nI (i + 1)) h1
      rw [fX9_when_16]
      simp (disch := omega) only [p0, p1, p2, p3, p4, p5, p6, p7, p8, p9, p10, p11, p12, p14, p19, p23, p24, p25, p29, p30, p31, p35, p40, p46, p58, p60, p88, p99, p100, p112, p150, p9999, nI_add, nI_mul, ix_nI, p_sub, p_div, p_rem, p_shl, p_shr, p_and, p_or, inb_nI, p_le, if_neg, m_unseenIn hM1 hW (show c < 30 by omega) (show i < 24 by omega), hk2 i hi, ob_s, oL_d]
      rfl
    · show fX9_when_16 (n + 1) 262 (nI c) (nI k) h1 = _
      rw [fX9_when_16]
      simp (disch := omega) only [p0, p1, p2, p3, p4, p5, p6, p7, p8, p9, p10, p11, p12, p14, p19, p23, p24, p25, p29, p30, p31, p35, p40, p46, p58, p60, p88, p99, p100, p112, p150, p9999, nI_add, nI_mul, ix_nI, p_sub, p_div, p_rem, p_shl, p_shr, p_and, p_or, inb_nI, p_le, if_neg, m_unseenIn hM1 hW (show c < 30 by omega) hk, hk1, ob_s, oL_d]
      rfl
