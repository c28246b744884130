/-! PURE: type, clear, part, status, count -/
def txS (S : ST) (A E : Int64) (B : Nat → Int32) (L : Nat) : ST := (S.1, S.2.1, S.2.2.1, S.2.2.2.1, A, E, B, L)
theorem CR.tx {S : ST} {h h' : AH} {A E : Int64} {B : Nat → Int32} {L : Nat} (hW : WfS S) (a : CR S h) (he : ∀ o k, (1 ≤ o ∧ o < 84) ∨ 99 < o → hI h' o k = hI h o k ∧ hJ h' o k = hJ h o k ∧ hQ h' o k = hQ h o k) (h0 : ∀ i, i < 3 → hI h' 0 (10 + i) = hI h 0 (10 + i)) (hA : hJ h' 0 8 = A) (hE : hJ h' 0 9 = E) (hB : ∀ k, k < L → hI h' 95 k = B k) (hL : hI h' 94 3 = nI L) : CR (txS S A E B L) h' := by
  obtain ⟨a1, a2, a3, ⟨a4, a5, a6⟩, a7, a8, a9, a10, a11, a12⟩ := a
  have f5 := (wf_cnt hW.1).2.2.2.2.2.1.2
  have hee : ∀ lo hi, ((1 ≤ lo ∧ hi < 84) ∨ 99 < lo) → Eqs lo hi h h' := fun lo hi q o q1 q2 k => he o k (by omega)
  refine ⟨a1.eqs a4 f5 (hee _ _ (by omega)), fun i hi hf => ?_, fun i hi => ?_, ⟨a4.eqs fun j _ => (he _ j (by omega)).2.2, a5.eqs fun j _ => (he _ j (by omega)).2.2, a6.eqs fun j _ => (he _ j (by omega)).2.2⟩, fun i hi => ?_, fun i hi => ?_, hA, hE, hB, hL⟩
  · have f6 := (wf_cnt (hW.2.1 i hi hf)).2.2.2.2.2.1.2
    rcases kcn_eq i with e | e
    · exact (a2 i hi hf).eqs (by rw [e]; exact a5) f6 (hee _ _ (by omega))
    · exact (a2 i hi hf).eqs (by rw [e]; exact a6) f6 (hee _ _ (by omega))
  · rw [(he 83 i (by omega)).1]; exact a3 i hi
  · rw [(he 82 i (by omega)).2.2]; exact a7 i hi
  · rw [h0 i hi]; exact a8 i hi
theorem MR.tx {S : ST} {h h' : AH} {A E : Int64} {B : Nat → Int32} {L : Nat} (a : MR S h) (he : ∀ o k, 263 ≤ o ∧ o ≤ 266 → hI h' o k = hI h o k) (hA : hJ h' 262 4 = A) (hE : hJ h' 262 5 = E) (hB : ∀ k, k < L → hI h' 272 k = B k) (hL : hI h' 262 12 = nI L) : MR (txS S A E B L) h' := by
  obtain ⟨⟨b1, b2, a1⟩, ⟨c1, c2, a2⟩, a3, a4, a5, a6, a7, a8⟩ := a
  refine ⟨⟨b1, b2, fun k hk => ?_⟩, ⟨c1, c2, fun k hk => ?_⟩, fun i hi => ?_, fun i hi => ?_, hA, hE, hB, hL⟩
  · rw [he _ _ (by omega)]; exact a1 k hk
  · rw [he _ _ (by omega)]; exact a2 k hk
  · rw [he _ _ (by omega)]; exact a3 i hi
  · rw [he _ _ (by omega)]; exact a4 i hi
theorem z05 : PC 0 5 = 94 := rfl
theorem z940 : PC 94 0 = 95 := rfl
theorem z95s : SZ 95 = 150 := rfl
theorem q211 : PC 262 11 = 272 := rfl
theorem q211s : SZ 272 = 150 := rfl
theorem WfS.tx {S : ST} {A E : Int64} {B : Nat → Int32} {L : Nat} (hW : WfS S) (hL : L ≤ 150) (hB : ∀ k, k < L → ∃ n, B k = nI n ∧ n < 128) : WfS (txS S A E B L) := ⟨hW.1, hW.2.1, hL, hB, hW.2.2.2.2⟩
theorem op_type : OP_type RR := by
  rintro a1 h ⟨S, hW, hC, hM⟩
  refine GO.out (S := S) (f9 := fun h1 => fX9_type 262 a1 h1) ?_
  unfold fX8_type fX9_type
  simp only [z05]
  refine GO.chk c_within (fun h1 hM1 => m0127) (fun _ => GO.bad hW hC hM (fun h1 q => rf8 q) (fun h1 => rfl)) (fun b1 => ?_)
  obtain ⟨x, rfl, -, hx⟩ := wi_nI (a := a1) (lo := 0) (hi := 127) (by omega) (by omega) b1
  have hL := hW.2.2.1
  have eL : hI h 94 3 = nI (sL S) := hC.2.2.2.2.2.2.2.2.2
  show GO S (if hI h 94 3 < (150 : Int32) then _ else _) _
  by_cases e : sL S < 150
  · rw [if_pos (by rw [eL, p150, p_lt (by omega) (by omega)]; exact e)]
    have hB' : ∀ k, k < sL S + 1 → (k = sL S ∧ up1 (sB S) (sL S) (nI x) k = nI x) ∨ (k < sL S ∧ up1 (sB S) (sL S) (nI x) k = sB S k) := by
      intro k hk
      by_cases q : k = sL S
      · exact Or.inl ⟨q, by rw [q]; exact up1_e⟩
      · exact Or.inr ⟨by omega, up1_n q⟩
    refine GO.act (S' := txS S (sA S) (sE S) (up1 (sB S) (sL S) (nI x)) (sL S + 1)) hM (hW.tx (by omega) (fun k hk => ?_)) (nI (sL S + 1)) ⟨sI (sI h 95 (sL S) (nI x)) 94 3 (nI (sL S + 1)), ?_, ?_, (Eqs.sI (by omega)).tr (Eqs.sI (by omega))⟩ (fun h1 m1 => ⟨sI (sI h1 272 (sL S) (nI x)) 262 12 (nI (sL S + 1)), ?_, ?_, (Eqs.sI (by omega)).tr (Eqs.sI (by omega))⟩)
    · rcases hB' k hk with ⟨q, e1⟩ | ⟨q, e1⟩
      · exact ⟨x, e1, by omega⟩
      · rw [e1]; exact hW.2.2.2.1 k q
    · unfold fX5_append
      simp (disch := omega) only [z940, z95s, eL, p0, p1, p2, p3, p4, p5, p6, p7, p8, p9, p10, p11, p12, p14, p19, p23, p24, p25, p29, p30, p31, p35, p40, p46, p58, p60, p88, p99, p100, p112, p150, p9999, nI_add, nI_mul, ix_nI, p_sub, p_div, p_rem, p_shl, p_shr, p_and, p_or, inb_nI, p_le, if_neg, decide_eq_true, oG_t, oL_d, sI_o, ob_s, sI_e]
    · refine hC.tx hW (fun o k q => ⟨by rw [sI_o (by omega), sI_o (by omega)], rfl, rfl⟩) (fun i hi => by rw [sI_o (by omega), sI_o (by omega)]) hC.2.2.2.2.2.2.1 hC.2.2.2.2.2.2.2.1 (fun k hk => ?_) sI_e
      rw [sI_o (by omega)]
      rcases hB' k hk with ⟨q, e1⟩ | ⟨q, e1⟩
      · rw [e1, q, sI_e]
      · rw [e1, sI_n (by omega)]; exact hC.2.2.2.2.2.2.2.2.1 k q
    · have mL := m1.2.2.2.2.2.2.2
      show (if hI h1 262 12 = (150 : Int32) then _ else _) = _
      rw [mL, if_neg (by rw [p150, p_eq (by omega) (by omega)]; omega)]
      simp (disch := omega) only [q211, q211s, p0, p1, p2, p3, p4, p5, p6, p7, p8, p9, p10, p11, p12, p14, p19, p23, p24, p25, p29, p30, p31, p35, p40, p46, p58, p60, p88, p99, p100, p112, p150, p9999, nI_add, nI_mul, ix_nI, p_sub, p_div, p_rem, p_shl, p_shr, p_and, p_or, inb_nI, decide_eq_true, oG_t, oL_d, sI_o, mL, sI_e]
    · refine m1.tx (fun o k q => by rw [sI_o (by omega), sI_o (by omega)]) m1.2.2.2.2.1 m1.2.2.2.2.2.1 (fun k hk => ?_) sI_e
      rw [sI_o (by omega)]
      rcases hB' k hk with ⟨q, e1⟩ | ⟨q, e1⟩
      · rw [e1, q, sI_e]
      · rw [e1, sI_n (by omega)]; exact m1.2.2.2.2.2.2.1 k q
  · rw [if_neg (by rw [eL, p150, p_lt (by omega) (by omega)]; exact e)]
    refine GO.full hW hC hM (fun h1 q => rf84 q) (fun h1 => rfl) |>.cng rfl (fun h1 m1 => ?_)
    have mL := m1.2.2.2.2.2.2.2
    show (if hI h1 262 12 = (150 : Int32) then _ else _) = _
    rw [mL, show sL S = 150 by omega, if_pos (by decide)]
    rfl
theorem op_clear : OP_clear RR := by
  rintro h ⟨S, hW, hC, hM⟩
  have eL : hI h 94 3 = nI (sL S) := hC.2.2.2.2.2.2.2.2.2
  refine GO.out (S := S) (f9 := fun h1 => fX9_clear 262 h1) ?_
  refine GO.act (S' := txS S (sA S) (sE S) (sB S) 0) hM (hW.tx (by omega) (fun k hk => by omega)) (nI (sL S)) ⟨sI h 94 3 (nI 0), ?_, ?_, Eqs.sI (by omega)⟩ (fun h1 m1 => ⟨sI h1 262 12 (nI 0), ?_, ?_, Eqs.sI (by omega)⟩)
  · unfold fX8_clear
    rw [z05, eL]
    rfl
  · exact hC.tx hW (fun o k q => ⟨by rw [sI_o (by omega)], rfl, rfl⟩) (fun i hi => by rw [sI_o (by omega)]) hC.2.2.2.2.2.2.1 hC.2.2.2.2.2.2.2.1 (fun k hk => by omega) sI_e
  · have mL := m1.2.2.2.2.2.2.2
    show fX9_clear 262 h1 = _
    unfold fX9_clear
    rw [mL]
    rfl
  · exact m1.tx (fun o k q => by rw [sI_o (by omega)]) m1.2.2.2.2.1 m1.2.2.2.2.2.1 (fun k hk => by omega) sI_e
theorem op_part : OP_part RR := by
  rintro a1 h ⟨S, hW, hC, hM⟩
  refine GO.out (S := S) (f9 := fun h1 => fX9_part 262 a1 h1) ?_
  have e8 : fX8_part 0 a1 h = if a1 = 0 then some (sA S, h) else if a1 = 1 then some (sE S, h) else ob2 (fX8_refuse 0 (-2) h) fun v5 h4 => some (v5.toInt64, h4) := by
    unfold fX8_part
    rw [c_within, ob_s, chk, hC.2.2.2.2.2.2.1, hC.2.2.2.2.2.2.2.1]
    cases b : wi a1 0 1 with
    | false =>
      have h1 : ¬ a1 = 0 := fun q => by rw [q] at b; exact absurd b (by decide)
      have h2 : ¬ a1 = 1 := fun q => by rw [q] at b; exact absurd b (by decide)
      simp only [if_neg h1, if_neg h2, cond_false]
    | true =>
      obtain ⟨x, rfl, -, hx⟩ := wi_nI (a := a1) (lo := 0) (hi := 1) (by omega) (by omega) b
      rcases (show x = 0 ∨ x = 1 by omega) with rfl | rfl <;> rfl
  by_cases h0 : a1 = 0
  · refine GO.ask hW hC hM (sA S) ⟨h, by rw [e8, if_pos h0], EqQ.rf⟩ (fun h1 m1 => ⟨h1, ?_, m1, Eqs.rf⟩)
    show fX9_part 262 a1 h1 = _
    unfold fX9_part
    rw [if_pos h0, m1.2.2.2.2.1]
  · by_cases h1' : a1 = 1
    · refine GO.ask hW hC hM (sE S) ⟨h, by rw [e8, if_neg h0, if_pos h1'], EqQ.rf⟩ (fun h1 m1 => ⟨h1, ?_, m1, Eqs.rf⟩)
      show fX9_part 262 a1 h1 = _
      unfold fX9_part
      rw [if_neg h0, if_pos h1', m1.2.2.2.2.2.1]
    · refine GO.bad (v := (-2 : Int32).toInt64) hW hC hM (fun h1 q => by rw [e8, if_neg h0, if_neg h1', q]; rfl) (fun h1 => ?_)
      show fX9_part 262 a1 h1 = _
      unfold fX9_part
      rw [if_neg h0, if_neg h1', m_bad]
      rfl
theorem op_status : OP_status RR := by
  rintro a1 h ⟨S, hW, hC, hM⟩
  refine GO.out (S := S) (f9 := fun h1 => fX9_status 262 a1 h1) ?_
  have hX := hC.2.2.2.2.2.1
  have q23 : PC 262 3 = 266 := rfl
  have q23s : SZ 266 = 3 := rfl
  cases b : wi a1 0 2 with
  | false =>
    have h0 : ¬ a1 = 0 := fun q => by rw [q] at b; exact absurd b (by decide)
    have h1 : ¬ a1 = 1 := fun q => by rw [q] at b; exact absurd b (by decide)
    have h2 : ¬ a1 = 2 := fun q => by rw [q] at b; exact absurd b (by decide)
    refine GO.bad (v := (-1 : Int32)) hW hC hM (fun h1' q => ?_) (fun h1' => ?_)
    · unfold fX8_status
      rw [if_neg h0, if_neg h1, if_neg h2, q]; rfl
    · show fX9_status 262 a1 h1' = _
      unfold fX9_status
      rw [m02, b, ob_s, if_pos (show bI false = 0 by decide), m_bad]
      rfl
  | true =>
    obtain ⟨x, rfl, -, hx⟩ := wi_nI (a := a1) (lo := 0) (hi := 2) (by omega) (by omega) b
    refine GO.ask hW hC hM (sX S x) ⟨h, ?_, EqQ.rf⟩ (fun h1 m1 => ⟨h1, ?_, m1, Eqs.rf⟩)
    · unfold fX8_status
      rw [← hX x (by omega)]
      rcases (show x = 0 ∨ x = 1 ∨ x = 2 by omega) with rfl | rfl | rfl <;> rfl
    · have mX := m1.2.2.2.1 x (by omega)
      show fX9_status 262 (nI x) h1 = _
      unfold fX9_status
      rw [m02, b, ob_s, if_neg (show ¬ bI true = 0 by decide)]
      simp (disch := omega) only [q23, q23s, p0, p1, p2, p3, p4, p5, p6, p7, p8, p9, p10, p11, p12, p14, p19, p23, p24, p25, p29, p30, p31, p35, p40, p46, p58, p60, p88, p99, p100, p112, p150, p9999, nI_add, nI_mul, ix_nI, p_sub, p_div, p_rem, p_shl, p_shr, p_and, p_or, inb_nI, decide_eq_true, oG_t, mX]
/-- what count tells -/
def knS (T : Nat → Int32) : Nat → Int32
  | 0 => 0
  | w + 1 => knS T w + T (6 + w)
def cntT (S : ST) (x : Nat) : Int32 := if x = 0 then sT S 0 else if x = 1 then sT S 1 else if x = 2 then sT S 13 else if x = 3 then sT S 12 else if x = 4 then nI (pc 6 (onT (sT S))) else if x = 5 then knS (sT S) (tn (sT S) 1) else if x = 6 then sT S 2 else if x = 7 then sT S 3 else if x = 8 then sT S 4 else if x = 9 then sT S 5 else nI (sL S)
theorem c_known {la : Nat} {T : Nat → Int32} {h : AH} {m : Nat} (hT : WfU T m) (hm : 46 ≤ m) (hR : LaR la T h) : fX2_knownTogether la h = some (knS T (tn T 1)) := by
  have n1 := wf_1 hT hm
  obtain ⟨hk, -, -, -, a3, -, hws⟩ := hR
  have zk := sz_X2_10 hk
  unfold fX2_knownTogether
  refine run_loop (fun n (s : Int32 × Int32) => fX2_knownTogether_4 h n la s.1 s.2) (fun i => (knS T i, nI i)) (tn T 1) _ (fun n i hi => ?_) (fun n => ?_) FU (FU_lt (by omega))
  · show fX2_knownTogether_4 h (n + 1) la (knS T i) (nI i) = fX2_knownTogether_4 h n la (knS T (i + 1)) (nI (i + 1))
    obtain ⟨-, -, f3⟩ := hws i hi
    rw [fX2_knownTogether_4, a3, n1.1, if_neg (by rw [p_le (by omega) (by omega)]; omega), knS]
    simp (disch := omega) only [zk, p0, p1, p2, p3, p4, p5, p6, p7, p8, p9, p10, p11, p12, p14, p19, p23, p24, p25, p29, p30, p31, p35, p40, p46, p58, p60, p88, p99, p100, p112, p150, p9999, nI_add, nI_mul, ix_nI, p_sub, p_div, p_rem, p_shl, p_shr, p_and, p_or, inb_nI, decide_eq_true, oG_t, oL_d, f3]
  · show fX2_knownTogether_4 h (n + 1) la (knS T (tn T 1)) (nI (tn T 1)) = _
    rw [fX2_knownTogether_4, a3, n1.1, if_pos (by rw [p_le (by omega) (by omega)]; exact Nat.le_refl _)]
theorem m_known {S : ST} {h : AH} (hM : MR S h) (hW : WfS S) : fX9_allKnow 262 h = some (knS (sT S) (tn (sT S) 1)) := by
  have n1 := (wf_cnt hW.1).2.1
  have hr := hM.1.2.2
  unfold fX9_allKnow
  refine run_loop (fun n (s : Int32 × Int32) => fX9_allKnow_4 h n 262 s.1 s.2) (fun i => (knS (sT S) i, nI i)) (tn (sT S) 1) _ (fun n i hi => ?_) (fun n => ?_) FU (FU_lt (by omega))
  · show fX9_allKnow_4 h (n + 1) 262 (knS (sT S) i) (nI i) = fX9_allKnow_4 h n 262 (knS (sT S) (i + 1)) (nI (i + 1))
    rw [fX9_allKnow_4, m_manyW hM hW, ob_s, if_neg (by rw [p_le (by omega) (by omega)]; omega), knS]
    simp (disch := omega) only [q20, q20s, p0, p1, p2, p3, p4, p5, p6, p7, p8, p9, p10, p11, p12, p14, p19, p23, p24, p25, p29, p30, p31, p35, p40, p46, p58, p60, p88, p99, p100, p112, p150, p9999, nI_add, nI_mul, ix_nI, p_sub, p_div, p_rem, p_shl, p_shr, p_and, p_or, inb_nI, decide_eq_true, oG_t, oL_d, hr]
  · show fX9_allKnow_4 h (n + 1) 262 (knS (sT S) (tn (sT S) 1)) (nI (tn (sT S) 1)) = _
    rw [fX9_allKnow_4, m_manyW hM hW, ob_s, if_pos (by rw [p_le (by omega) (by omega)]; exact Nat.le_refl _)]
theorem c_tally {S : ST} {h : AH} (hC : CR S h) (hW : WfS S) {x : Nat} (hx : x < 11) : fX8_tally 0 (nI x) h = some (cntT S x) := by
  have hT := hW.1
  have hon := onT_lt hT (by omega)
  have hLa := hC.1.1
  have eL : hI h 94 3 = nI (sL S) := hC.2.2.2.2.2.2.2.2.2
  have hk := c_known hT (show 46 ≤ 304 by omega) hLa
  have ho := c_on hT (show 46 ≤ 304 by omega) hLa
  have hb := c_bits _ (show onT (sT S) < 64 by omega)
  have h5 := hC.1.2.1
  have hs0 := (hC.1.shR 0 (by omega)).1
  have hs1 := (hC.1.shR 1 (by omega)).1
  have hs2 := (hC.1.shR 2 (by omega)).1
  obtain ⟨-, f0, f1, f2, f3, -, -⟩ := hLa
  unfold fX8_tally
  rw [z00, z10, z11, z12, z13, z14, z05]
  rcases (show x = 0 ∨ x = 1 ∨ x = 2 ∨ x = 3 ∨ x = 4 ∨ x = 5 ∨ x = 6 ∨ x = 7 ∨ x = 8 ∨ x = 9 ∨ x = 10 by omega) with rfl | rfl | rfl | rfl | rfl | rfl | rfl | rfl | rfl | rfl | rfl
  · rw [if_pos (by decide)]; exact congrArg some f2
  · rw [if_neg (by decide), if_pos (by decide)]; exact congrArg some f3
  · rw [if_neg (by decide), if_neg (by decide), if_pos (by decide)]; exact congrArg some f0
  · rw [if_neg (by decide), if_neg (by decide), if_neg (by decide), if_pos (by decide)]; exact congrArg some f1
  · rw [if_neg (by decide), if_neg (by decide), if_neg (by decide), if_neg (by decide), if_pos (by decide), ho, ob_s, hb, ob_s]; rfl
  · rw [if_neg (by decide), if_neg (by decide), if_neg (by decide), if_neg (by decide), if_neg (by decide), if_pos (by decide), hk, ob_s]; rfl
  · rw [if_neg (by decide), if_neg (by decide), if_neg (by decide), if_neg (by decide), if_neg (by decide), if_neg (by decide), if_pos (by decide)]; exact congrArg some hs0
  · rw [if_neg (by decide), if_neg (by decide), if_neg (by decide), if_neg (by decide), if_neg (by decide), if_neg (by decide), if_neg (by decide), if_pos (by decide)]; exact congrArg some hs1
  · rw [if_neg (by decide), if_neg (by decide), if_neg (by decide), if_neg (by decide), if_neg (by decide), if_neg (by decide), if_neg (by decide), if_neg (by decide), if_pos (by decide)]; exact congrArg some hs2
  · rw [if_neg (by decide), if_neg (by decide), if_neg (by decide), if_neg (by decide), if_neg (by decide), if_neg (by decide), if_neg (by decide), if_neg (by decide), if_neg (by decide), if_pos (by decide)]; exact congrArg some h5
  · rw [if_neg (by decide), if_neg (by decide), if_neg (by decide), if_neg (by decide), if_neg (by decide), if_neg (by decide), if_neg (by decide), if_neg (by decide), if_neg (by decide), if_neg (by decide)]; exact congrArg some eL
theorem m_counted {S : ST} {h : AH} (hM : MR S h) (hW : WfS S) {x : Nat} (hx : x < 11) : fX9_counted 262 (nI x) h = some (cntT S x) := by
  have hT := hW.1
  have hon := onT_lt hT (by omega)
  have hr := hM.1.2.2
  have mL := hM.2.2.2.2.2.2.2
  have hk := m_known hM hW
  have w := wf_cnt hT
  have ho := m_on hT (show 46 ≤ 304 by omega) hM.1 (by omega)
  have hb := m_bits6 (show onT (sT S) < 64 by omega)
  have ini : ∀ k, k < 304 → (oG (inb (nI k) (SZ (PC 262 0))) (some (hI h (PC 262 0) (ix (nI k))))) = some (sT S k) := fun k hk => m_rd hM hk
  unfold fX9_counted
  rcases (show x = 0 ∨ x = 1 ∨ x = 2 ∨ x = 3 ∨ x = 4 ∨ x = 5 ∨ x = 6 ∨ x = 7 ∨ x = 8 ∨ x = 9 ∨ x = 10 by omega) with rfl | rfl | rfl | rfl | rfl | rfl | rfl | rfl | rfl | rfl | rfl
  · rw [if_pos (by decide), m_many hM hW, ob_s, ← w.1.1]; rfl
  · rw [if_neg (by decide), if_pos (by decide), m_manyW hM hW, ob_s, ← w.2.1.1]; rfl
  · rw [if_neg (by decide), if_neg (by decide), if_pos (by decide)]; exact ini 13 (by omega)
  · rw [if_neg (by decide), if_neg (by decide), if_neg (by decide), if_pos (by decide)]; exact ini 12 (by omega)
  · rw [if_neg (by decide), if_neg (by decide), if_neg (by decide), if_neg (by decide), if_pos (by decide), q20, ho, ob_s, hb, ob_s]; rfl
  · rw [if_neg (by decide), if_neg (by decide), if_neg (by decide), if_neg (by decide), if_neg (by decide), if_pos (by decide), hk, ob_s]; rfl
  · rw [if_neg (by decide), if_neg (by decide), if_neg (by decide), if_neg (by decide), if_neg (by decide), if_neg (by decide), if_pos (by decide)]; exact ini 2 (by omega)
  · rw [if_neg (by decide), if_neg (by decide), if_neg (by decide), if_neg (by decide), if_neg (by decide), if_neg (by decide), if_neg (by decide), if_pos (by decide)]; exact ini 3 (by omega)
  · rw [if_neg (by decide), if_neg (by decide), if_neg (by decide), if_neg (by decide), if_neg (by decide), if_neg (by decide), if_neg (by decide), if_neg (by decide), if_pos (by decide)]; exact ini 4 (by omega)
  · rw [if_neg (by decide), if_neg (by decide), if_neg (by decide), if_neg (by decide), if_neg (by decide), if_neg (by decide), if_neg (by decide), if_neg (by decide), if_neg (by decide), if_pos (by decide)]; exact ini 5 (by omega)
  · rw [if_neg (by decide), if_neg (by decide), if_neg (by decide), if_neg (by decide), if_neg (by decide), if_neg (by decide), if_neg (by decide), if_neg (by decide), if_neg (by decide), if_neg (by decide), if_pos (by decide)]; exact congrArg some mL
theorem op_count : OP_count RR := by
  rintro a1 h ⟨S, hW, hC, hM⟩
  refine GO.out (S := S) (f9 := fun h1 => fX9_count 262 a1 h1) ?_
  unfold fX8_count fX9_count
  refine GO.chk c_within (fun h1 hM1 => m010) (fun _ => GO.bad hW hC hM (fun h1 q => rf8 q) (fun h1 => rfl)) (fun b1 => ?_)
  obtain ⟨x, rfl, -, hx⟩ := wi_nI (a := a1) (lo := 0) (hi := 10) (by omega) (by omega) b1
  refine GO.ask hW hC hM (cntT S x) ⟨h, by rw [c_tally hC hW (by omega), ob_s], EqQ.rf⟩ (fun h1 m1 => ⟨h1, ?_, m1, Eqs.rf⟩)
  show ob (fX9_counted 262 (nI x) h1) _ = _
  rw [m_counted m1 hW (by omega), ob_s]
