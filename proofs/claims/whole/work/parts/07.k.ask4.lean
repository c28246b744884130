/-! PURE: the calls that only ask (4) -/
def unS (T : Nat → Int32) (set t : Nat) : Nat → Nat
  | 0 => 0
  | c + 1 => if who T c set t = 0 then unS T set t c ||| 2 ^ c else unS T set t c
theorem op_unseen : OP_unseen RR := by
  rintro a1 h ⟨S, hW, hC, hM⟩
  have hLa : LaR 2 (sT S) h := hC.1.1
  have hT := hW.1
  have hon := onT_lt hT (by omega)
  refine GO.out (S := S) (f9 := fun h1 => fX9_unseen 262 a1 h1) ?_
  unfold fX8_unseen fX9_unseen
  simp only [z00, z10, z04]
  refine GO.chk c_isDayStep (fun h1 hM1 => m_isStep) (fun _ => GO.bad hW hC hM (fun h1 q => rf8 q) (fun h1 => rfl)) (fun b1 => ?_)
  obtain ⟨t, rfl, -, ht⟩ := wi_nI (a := a1) (lo := 0) (hi := 11) (by omega) (by omega) b1
  refine GO.ask hW hC hM (nI (unS (sT S) (onT (sT S)) t 30)) ⟨gz h (sT S) (onT (sT S)) t, ?_, gz_eqq⟩ (fun h1 hM1 => ⟨h1, ?_, hM1, Eqs.rf⟩)
  · rw [c_on hT (show 46 ≤ 304 by omega) hLa, ob_s, c_gauge hT (show 46 ≤ 304 by omega) hLa (by omega) (by omega) (by omega), ob_s]
    refine run_loop (fun n (s : Int32 × Int32) => fX8_unseen_43 n 0 s.1 s.2 (gz h (sT S) (onT (sT S)) t)) (fun i => (nI (unS (sT S) (onT (sT S)) t i), nI i)) 30 _ ?_ ?_ FU (FU_lt (by omega))
    · intro n i hi
      show fX8_unseen_43 (n + 1) 0 (nI (unS (sT S) (onT (sT S)) t i)) (nI i) _ = fX8_unseen_43 n 0 (nI (unS (sT S) (onT (sT S)) t (i + 1))) (nI (i + 1)) _
      have hw := who_lt hT (show 46 ≤ 304 by omega) (cell := i) (set := onT (sT S)) (t := t)
      rw [fX8_unseen_43]
      simp (disch := omega) only [p0, p1, p2, p3, p4, p5, p6, p7, p8, p9, p10, p11, p12, p14, p19, p23, p24, p25, p29, p30, p31, p35, p40, p46, p58, p60, p88, p99, p100, p112, p150, p9999, nI_add, nI_mul, ix_nI, p_sub, p_div, p_rem, p_shl, p_shr, p_and, p_or, inb_nI, p_le, if_neg, z00, z10, z04, c_wit hT (show 46 ≤ 304 by omega) (gz_LaR hLa (show 2 + 7 < 93 by omega)) gz_g (show t < 12 by omega) hi, ob_s, p_eq, oL_d, Nat.one_mul, unS]
      split <;> rfl
    · intro n
      show fX8_unseen_43 (n + 1) 0 (nI (unS (sT S) (onT (sT S)) t 30)) (nI 30) _ = _
      rw [fX8_unseen_43, if_pos (by decide)]
  · refine run_loop (fun n (s : Int32 × Int32) => fX9_unseen_18 n 262 (nI t) s.1 s.2 h1) (fun i => (nI (unS (sT S) (onT (sT S)) t i), nI i)) 30 _ ?_ ?_ FU (FU_lt (by omega))
    · intro n i hi
      show fX9_unseen_18 (n + 1) 262 (nI t) (nI (unS (sT S) (onT (sT S)) t i)) (nI i) h1 = fX9_unseen_18 n 262 (nI t) (nI (unS (sT S) (onT (sT S)) t (i + 1))) (nI (i + 1)) h1
      have hw := who_lt hT (show 46 ≤ 304 by omega) (cell := i) (set := onT (sT S)) (t := t)
      rw [fX9_unseen_18]
      unfold fX9_unseen_51
      simp (disch := omega) only [p0, p1, p2, p3, p4, p5, p6, p7, p8, p9, p10, p11, p12, p14, p19, p23, p24, p25, p29, p30, p31, p35, p40, p46, p58, p60, p88, p99, p100, p112, p150, p9999, nI_add, nI_mul, ix_nI, p_sub, p_div, p_rem, p_shl, p_shr, p_and, p_or, inb_nI, p_le, if_neg, q20, m_on hT (show 46 ≤ 304 by omega) hM1.1 (show 46 ≤ 304 by omega), ob_s, m_who hT (show 46 ≤ 304 by omega) hM1.1 (show 46 ≤ 304 by omega) (show onT (sT S) < 2147483648 by omega) (show t < 12 by omega) hi, p_eq, oL_d, Nat.one_mul, Nat.or_zero, unS]
      split <;> rfl
    · intro n
      show fX9_unseen_18 (n + 1) 262 (nI t) (nI (unS (sT S) (onT (sT S)) t 30)) (nI 30) h1 = _
      rw [fX9_unseen_18, if_pos (by decide)]
/-- the least set that leaves a cell unseen: the set, how many are on -/
def enS (T : Nat → Int32) (c t : Nat) : Nat → Int32 × Nat
  | 0 => (-1, 6)
  | i + 1 => if pc 6 i < (enS T c t i).2 ∧ who T c i t = 0 then (nI i, pc 6 i) else enS T c t i
theorem pc6_5 : ∀ i, i < 32 → pc 6 i < 6 := by decide +kernel
theorem enS_is (T : Nat → Int32) (c t : Nat) : ∀ n, ((enS T c t n).1 = -1 ∧ (enS T c t n).2 = 6) ∨ ∃ b, b < n ∧ (enS T c t n).1 = nI b ∧ (enS T c t n).2 = pc 6 b := by
  intro n
  induction n with
  | zero => exact Or.inl ⟨rfl, rfl⟩
  | succ n ih =>
    by_cases hq : pc 6 n < (enS T c t n).2 ∧ who T c n t = 0
    · right
      refine ⟨n, by omega, ?_, ?_⟩
      · rw [enS, if_pos hq]
      · rw [enS, if_pos hq]
    · have e : enS T c t (n + 1) = enS T c t n := if_neg hq
      rw [e]
      rcases ih with h1 | ⟨b, h1, h2⟩
      · exact Or.inl h1
      · exact Or.inr ⟨b, by omega, h2⟩
theorem op_enough : OP_enough RR := by
  rintro a1 h ⟨S, hW, hC, hM⟩
  have hT := hW.1
  have n0 := (wf_cnt hT).1
  refine GO.out (S := S) (f9 := fun h1 => fX9_enough 262 a1 h1) ?_
  unfold fX8_enough fX9_enough
  simp only [z00, z10]
  refine GO.chk c_isCell (fun h1 hM1 => m_isCell) (fun _ => GO.bad hW hC hM (fun h1 q => rf8 q) (fun h1 => rfl)) (fun b1 => ?_)
  obtain ⟨c, rfl, -, hc⟩ := wi_nI (a := a1) (lo := 0) (hi := 29) (by omega) (by omega) b1
  have ht : tn (sT S) 13 % 12 < 12 := Nat.mod_lt _ (by omega)
  have hpw : 2 ^ tn (sT S) 0 ≤ 32 := Nat.pow_le_pow_right (n := 2) (by decide) n0.2
  refine GO.ask hW hC hM (enS (sT S) c (tn (sT S) 13 % 12) (2 ^ tn (sT S) 0)).1 ?_ (fun h1 hM1 => ⟨h1, ?_, hM1, Eqs.rf⟩)
  · rw [show (0 : Int32) = nI 0 by decide, c_dayStep hT (by omega) hC.1.1 (by omega), ob_s, Nat.add_zero]
    refine run_rel (fun n (s : Int32 × Int32 × Int32 × AH) => fX8_enough_35 n 0 (nI c) s.1 s.2.1 (nI (tn (sT S) 13 % 12)) s.2.2.1 s.2.2.2) (fun i s => s.1 = (enS (sT S) c (tn (sT S) 13 % 12) i).1 ∧ s.2.1 = nI (enS (sT S) c (tn (sT S) 13 % 12) i).2 ∧ s.2.2.1 = nI i ∧ EqQ h s.2.2.2) (2 ^ tn (sT S) 0) (fun r => ∃ h1, r = some ((enS (sT S) c (tn (sT S) 13 % 12) (2 ^ tn (sT S) 0)).1, h1) ∧ EqQ h h1) ?_ ?_ (-1, nI 6, nI 0, h) ⟨rfl, rfl, rfl, EqQ.rf⟩ FU (FU_lt (by omega))
    · rintro n i ⟨s1, s2, s3, hh⟩ hi ⟨i1, i2, i3, iq⟩
      simp only at i1 i2 i3 iq
      subst i1; subst i2; subst i3
      have hLa : LaR 2 (sT S) hh := hC.1.1.eqs (iq.eqs (by omega))
      have hb2 : (enS (sT S) c (tn (sT S) 13 % 12) i).2 ≤ 6 := by
        rcases enS_is (sT S) c (tn (sT S) 13 % 12) i with ⟨-, e⟩ | ⟨b, -, -, e⟩
        · omega
        · rw [e]; exact pc_le 6 b
      have hw := who_lt hT (show 46 ≤ 304 by omega) (cell := c) (set := i) (t := tn (sT S) 13 % 12)
      have hp := pc6_5 i (by omega)
      have f2 := hLa.2.2.2.1
      show ∃ s', fX8_enough_35 (n + 1) 0 (nI c) (enS (sT S) c (tn (sT S) 13 % 12) i).1 (nI (enS (sT S) c (tn (sT S) 13 % 12) i).2) (nI (tn (sT S) 13 % 12)) (nI i) hh = _ ∧ _
      rw [fX8_enough_35]
      simp (disch := omega) only [z00, z10, z04, f2, n0.1, p0, p1, p2, p3, p4, p5, p6, p7, p8, p9, p10, p11, p12, p14, p19, p23, p24, p25, p29, p30, p31, p35, p40, p46, p58, p60, p88, p99, p100, p112, p150, p9999, nI_add, nI_mul, ix_nI, p_sub, p_div, p_rem, p_shl, p_shr, p_and, p_or, inb_nI, p_le, p_lt, if_neg, c_bits, ob_s, Nat.one_mul]
      by_cases hq : pc 6 i < (enS (sT S) c (tn (sT S) 13 % 12) i).2
      · rw [if_pos hq, c_gauge hT (show 46 ≤ 304 by omega) hLa (by omega) (by omega) ht, ob_s, c_wit hT (show 46 ≤ 304 by omega) (gz_LaR hLa (by omega)) gz_g ht (show c < 30 by omega), ob_s]
        simp (disch := omega) only [p_eq, ob_s, oL_d]
        by_cases hz : who (sT S) c i (tn (sT S) 13 % 12) = 0
        · have e : enS (sT S) c (tn (sT S) 13 % 12) (i + 1) = (nI i, pc 6 i) := if_pos ⟨hq, hz⟩
          rw [if_pos hz]
          exact ⟨(nI i, nI (pc 6 i), nI (i + 1), _), rfl, by rw [e], by rw [e], rfl, iq.tr gz_eqq⟩
        · have e : enS (sT S) c (tn (sT S) 13 % 12) (i + 1) = enS (sT S) c (tn (sT S) 13 % 12) i := if_neg (fun q => hz q.2)
          rw [if_neg hz]
          exact ⟨((enS (sT S) c (tn (sT S) 13 % 12) i).1, nI (enS (sT S) c (tn (sT S) 13 % 12) i).2, nI (i + 1), _), rfl, by rw [e], by rw [e], rfl, iq.tr gz_eqq⟩
      · have e : enS (sT S) c (tn (sT S) 13 % 12) (i + 1) = enS (sT S) c (tn (sT S) 13 % 12) i := if_neg (fun q => hq q.1)
        rw [if_neg hq]
        exact ⟨((enS (sT S) c (tn (sT S) 13 % 12) i).1, nI (enS (sT S) c (tn (sT S) 13 % 12) i).2, nI (i + 1), hh), rfl, by rw [e], by rw [e], rfl, iq⟩
    · rintro n ⟨s1, s2, s3, hh⟩ ⟨i1, i2, i3, iq⟩
      simp only at i1 i2 i3 iq
      subst i1; subst i2; subst i3
      have hLa : LaR 2 (sT S) hh := hC.1.1.eqs (iq.eqs (by omega))
      have f2 := hLa.2.2.2.1
      refine ⟨hh, ?_, iq⟩
      show fX8_enough_35 (n + 1) 0 (nI c) (enS (sT S) c (tn (sT S) 13 % 12) _).1 (nI (enS (sT S) c (tn (sT S) 13 % 12) _).2) (nI (tn (sT S) 13 % 12)) (nI _) hh = _
      rw [fX8_enough_35]
      simp (disch := omega) only [z00, z10, f2, n0.1, p0, p1, p2, p3, p4, p5, p6, p7, p8, p9, p10, p11, p12, p14, p19, p23, p24, p25, p29, p30, p31, p35, p40, p46, p58, p60, p88, p99, p100, p112, p150, p9999, nI_add, nI_mul, ix_nI, p_sub, p_div, p_rem, p_shl, p_shr, p_and, p_or, inb_nI, p_le, Nat.one_mul, Nat.le_refl, if_true]
  · refine run_loop (fun n (s : Int32 × Int32) => fX9_enough_18 n 262 (nI c) s.1 s.2 h1) (fun i => ((enS (sT S) c (tn (sT S) 13 % 12) i).1, nI i)) (2 ^ tn (sT S) 0) _ ?_ ?_ FU (FU_lt (by omega))
    · intro n i hi
      have hw := who_lt hT (show 46 ≤ 304 by omega) (cell := c) (set := i) (t := tn (sT S) 13 % 12)
      have hp := pc6_5 i (by omega)
      show fX9_enough_18 (n + 1) 262 (nI c) (enS (sT S) c (tn (sT S) 13 % 12) i).1 (nI i) h1 = fX9_enough_18 n 262 (nI c) (enS (sT S) c (tn (sT S) 13 % 12) (i + 1)).1 (nI (i + 1)) h1
      have h49 : ∀ B : Int32, fX9_enough_49 (fX9_enough_18 n) 262 (nI c) B (nI i) (1 : Int32) h1 = fX9_enough_18 n 262 (nI c) (if who (sT S) c i (tn (sT S) 13 % 12) = 0 then nI i else B) (nI (i + 1)) h1 := by
        intro B
        unfold fX9_enough_49 fX9_enough_76 fX9_enough_77
        rw [if_neg (by decide), m_stepNow hM1 hW, ob_s, q20, m_who hT (show 46 ≤ 304 by omega) hM1.1 (by omega) (by omega) ht (by omega), ob_s]
        simp (disch := omega) only [p0, p1, p2, p3, p4, p5, p6, p7, p8, p9, p10, p11, p12, p14, p19, p23, p24, p25, p29, p30, p31, p35, p40, p46, p58, p60, p88, p99, p100, p112, p150, p9999, nI_add, nI_mul, ix_nI, p_sub, p_div, p_rem, p_shl, p_shr, p_and, p_or, inb_nI, p_eq, oL_d]
        split <;> rfl
      have h49' : ∀ B : Int32, fX9_enough_49 (fX9_enough_18 n) 262 (nI c) B (nI i) (0 : Int32) h1 = fX9_enough_18 n 262 (nI c) B (nI (i + 1)) h1 := by
        intro B
        unfold fX9_enough_49 fX9_enough_76 fX9_enough_77
        rw [if_pos rfl]
        simp (disch := omega) only [p0, p1, p2, p3, p4, p5, p6, p7, p8, p9, p10, p11, p12, p14, p19, p23, p24, p25, p29, p30, p31, p35, p40, p46, p58, p60, p88, p99, p100, p112, p150, p9999, nI_add, nI_mul, ix_nI, p_sub, p_div, p_rem, p_shl, p_shr, p_and, p_or, inb_nI, oL_d]
      rw [fX9_enough_18, m_many hM1 hW, ob_s]
      unfold fX9_enough_44
      rcases enS_is (sT S) c (tn (sT S) 13 % 12) i with ⟨e1, e2⟩ | ⟨b, hb, e1, e2⟩
      · have e : (enS (sT S) c (tn (sT S) 13 % 12) (i + 1)).1 = if who (sT S) c i (tn (sT S) 13 % 12) = 0 then nI i else -1 := by
          by_cases hz : who (sT S) c i (tn (sT S) 13 % 12) = 0
          · rw [if_pos hz, enS, if_pos ⟨by omega, hz⟩]
          · rw [if_neg hz, enS, if_neg (fun q => hz q.2), e1]
        rw [e, e1, h49]
        simp (disch := omega) only [p0, p1, p2, p3, p4, p5, p6, p7, p8, p9, p10, p11, p12, p14, p19, p23, p24, p25, p29, p30, p31, p35, p40, p46, p58, p60, p88, p99, p100, p112, p150, p9999, nI_add, nI_mul, ix_nI, p_sub, p_div, p_rem, p_shl, p_shr, p_and, p_or, inb_nI, p_le, if_neg, Nat.one_mul, if_true]
      · rw [e1]
        have hbn : ¬ nI b = (-1 : Int32) := by
          intro q
          have := congrArg Int32.toInt q
          rw [nI_toInt (by omega)] at this
          simp at this
        have hbn2 : ¬ nI b = -nI 1 := by rw [← p1]; exact hbn
        have hpb := pc_le 6 b
        rw [h49, h49']
        simp (disch := omega) only [p0, p1, p2, p3, p4, p5, p6, p7, p8, p9, p10, p11, p12, p14, p19, p23, p24, p25, p29, p30, p31, p35, p40, p46, p58, p60, p88, p99, p100, p112, p150, p9999, nI_add, nI_mul, ix_nI, p_sub, p_div, p_rem, p_shl, p_shr, p_and, p_or, inb_nI, p_le, if_neg hbn2, if_neg, Nat.one_mul, m_bits6, ob_s]
        by_cases hq : pc 6 b ≤ pc 6 i
        · have e : (enS (sT S) c (tn (sT S) 13 % 12) (i + 1)).1 = nI b := by rw [enS, if_neg (fun q => by omega), e1]
          rw [if_pos hq, e]
        · have e : (enS (sT S) c (tn (sT S) 13 % 12) (i + 1)).1 = if who (sT S) c i (tn (sT S) 13 % 12) = 0 then nI i else nI b := by
            by_cases hz : who (sT S) c i (tn (sT S) 13 % 12) = 0
            · rw [if_pos hz, enS, if_pos ⟨by omega, hz⟩]
            · rw [if_neg hz, enS, if_neg (fun q => hz q.2), e1]
          rw [if_neg hq, e]
    · intro n
      show fX9_enough_18 (n + 1) 262 (nI c) (enS (sT S) c (tn (sT S) 13 % 12) (2 ^ tn (sT S) 0)).1 (nI (2 ^ tn (sT S) 0)) h1 = _
      rw [fX9_enough_18, m_many hM1 hW, ob_s]
      simp (disch := omega) only [p0, p1, p2, p3, p4, p5, p6, p7, p8, p9, p10, p11, p12, p14, p19, p23, p24, p25, p29, p30, p31, p35, p40, p46, p58, p60, p88, p99, p100, p112, p150, p9999, nI_add, nI_mul, ix_nI, p_sub, p_div, p_rem, p_shl, p_shr, p_and, p_or, inb_nI, p_le, Nat.one_mul, Nat.le_refl, if_true]
