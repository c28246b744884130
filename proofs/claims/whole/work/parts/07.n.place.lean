/-! PURE: the place -/
def keepM (o k : Nat) : Prop := (262 < o ∧ o ≤ 266) ∨ o = 272 ∨ (o = 262 ∧ (k = 4 ∨ k = 5 ∨ k = 12))
def EqM (h h' : AH) : Prop := ∀ o k, keepM o k → hI h' o k = hI h o k ∧ hJ h' o k = hJ h o k
theorem EqM.rf {h : AH} : EqM h h := fun _ _ _ => ⟨rfl, rfl⟩
theorem EqM.tr {h h' h'' : AH} (a : EqM h h') (b : EqM h' h'') : EqM h h'' := fun o k q => ⟨(b o k q).1.trans (a o k q).1, (b o k q).2.trans (a o k q).2⟩
theorem EqM.sI {h : AH} {o k : Nat} {v : Int32} (hn : ¬ keepM o k) : EqM h (sI h o k v) := fun a b q => ⟨sI_n (fun e => hn (by rw [e.1, e.2] at q; exact q)), rfl⟩
theorem EqM.row {h : AH} {o n : Nat} {f : Nat → Int32} (hn : ∀ k, ¬ keepM o k) : EqM h (rowS h o f n) := fun a b q => ⟨rowS_n (fun e => hn b (by rw [e] at q; exact q)), rfl⟩
theorem MR.eqm {S : ST} {h h' : AH} (a : MR S h) (he : EqM h h') : MR S h' := by
  obtain ⟨⟨b1, b2, a1⟩, ⟨c1, c2, a2⟩, a3, a4, a5, a6, a7, a8⟩ := a
  refine ⟨⟨b1, b2, fun k hk => ?_⟩, ⟨c1, c2, fun k hk => ?_⟩, fun i hi => ?_, fun i hi => ?_, ?_, ?_, fun k hk => ?_, ?_⟩
  · rw [(he 263 k (by unfold keepM; omega)).1]; exact a1 k hk
  · rw [(he 264 k (by unfold keepM; omega)).1]; exact a2 k hk
  · rw [(he 265 i (by unfold keepM; omega)).1]; exact a3 i hi
  · rw [(he 266 i (by unfold keepM; omega)).1]; exact a4 i hi
  · rw [(he 262 4 (by unfold keepM; omega)).2]; exact a5
  · rw [(he 262 5 (by unfold keepM; omega)).2]; exact a6
  · rw [(he 272 k (by unfold keepM; omega)).1]; exact a7 k hk
  · rw [(he 262 12 (by unfold keepM; omega)).1]; exact a8
theorem q26 : PC 262 6 = 267 := rfl
theorem q26s : SZ 267 = 46 := rfl
theorem m_layHand {S : ST} {h : AH} (hM : MR S h) : fX9_layHand 262 h = some (rowS h 267 (sT S) 46) := by
  have hr := hM.1.2.2
  unfold fX9_layHand
  suffices hl : fX9_layHand_2 FU 262 (nI 0) (rowS h 267 (sT S) 0) = some (rowS h 267 (sT S) 46) by
    rw [rowS_0] at hl
    exact hl
  refine run_loop (fun n (x : Int32 × AH) => fX9_layHand_2 n 262 x.1 x.2) (fun i => (nI i, rowS h 267 (sT S) i)) 46 _ ?_ ?_ FU (FU_lt (by omega))
  · intro n i hi
    show fX9_layHand_2 (n + 1) 262 (nI i) (rowS h 267 (sT S) i) = fX9_layHand_2 n 262 (nI (i + 1)) (rowS h 267 (sT S) (i + 1))
    have e : hI (rowS h 267 (sT S) i) 263 i = sT S i := by rw [rowS_n (by omega), hr i (by omega)]
    rw [fX9_layHand_2]
    simp (disch := omega) only [p0, p1, p2, p3, p4, p5, p6, p7, p8, p9, p10, p11, p12, p14, p19, p23, p24, p25, p29, p30, p31, p35, p40, p46, p58, p60, p88, p99, p100, p112, p150, p9999, nI_add, nI_mul, ix_nI, p_sub, p_div, p_rem, p_shl, p_shr, p_and, p_or, inb_nI, p_le, if_neg, q20, q20s, q26, q26s, decide_eq_true, oG_t, e, oL_d, rowS_s]
  · intro n
    show fX9_layHand_2 (n + 1) 262 (nI 46) _ = _
    rw [fX9_layHand_2, if_pos (by decide)]
def seen1 (T : Nat → Int32) (s cell c : Nat) : Nat := pc 6 (who (wth T s c) cell (onT (wth T s c)) (tn T 13 % 12))
def bpS (T : Nat → Int32) (s cell m0 : Nat) : Nat → Int32 × Nat
  | 0 => (-1, m0)
  | i + 1 => if (bpS T s cell m0 i).2 ≤ seen1 T s cell i then bpS T s cell m0 i else (nI i, seen1 T s cell i)
theorem bpS_same (T : Nat → Int32) (s cell : Nat) : ∀ i, bpS T s cell 7 (i + 1) = bpS T s cell 1000000 (i + 1) := by
  intro i
  induction i with
  | zero =>
    have h6 : seen1 T s cell 0 ≤ 6 := pc_le 6 _
    have e : ∀ m0, 6 < m0 → bpS T s cell m0 (0 + 1) = (nI 0, seen1 T s cell 0) := fun m0 hm => if_neg (fun q => absurd (Nat.le_trans (show m0 ≤ seen1 T s cell 0 from q) (pc_le 6 _)) (by omega))
    rw [e 7 (by omega), e 1000000 (by omega)]
  | succ i ih => rw [bpS, ih, ← bpS]
theorem bpS_le (T : Nat → Int32) (s cell m0 : Nat) : ∀ i, (bpS T s cell m0 i).2 ≤ max m0 6 := by
  intro i
  induction i with
  | zero => show m0 ≤ _; omega
  | succ i ih =>
    have h6 : seen1 T s cell i ≤ 6 := pc_le 6 _
    rw [bpS]
    split
    · exact ih
    · show seen1 T s cell i ≤ _; omega
theorem op_place : OP_place RR := by
  rintro a1 a2 a3 h ⟨S, hW, hC, hM⟩
  have hT := hW.1
  have n0 := (wf_cnt hT).1
  have hLa : LaR 2 (sT S) h := hC.1.1
  have hbad : GO S (fX8_place_30 0 h) (fun h1 => fX9_place_25 262 h1) := GO.bad hW hC hM (fun h1 q => by unfold fX8_place_30; exact rf8 q) (fun h1 => rfl)
  refine GO.out (S := S) (f9 := fun h1 => fX9_place 262 a1 a2 a3 h1) ?_
  unfold fX8_place fX9_place
  simp only [z00, z10]
  refine GO.chk (c_hasShow hT (show 46 ≤ 304 by omega) hLa) (fun h1 hM1 => m_isShow hM1 hW) (fun _ => hbad) (fun b1 => ?_)
  refine GO.chk c_isCell (fun h1 hM1 => m_isCell) (fun _ => hbad) (fun b2 => ?_)
  refine GO.chk c_within (fun h1 hM1 => m01) (fun _ => hbad) (fun b3 => ?_)
  obtain ⟨s, rfl, hs1⟩ := hs_nI (by omega) b1
  obtain ⟨cell, rfl, -, hc⟩ := wi_nI (a := a2) (lo := 0) (hi := 29) (by omega) (by omega) b2
  refine GO.ask hW hC hM (if a3 = 0 then (bpS (sT S) s cell 7 30).1 else nI (bpS (sT S) s cell 7 30).2) ?_ (fun h1 hM1 => ?_)
  · refine run_rel (fun n (x : Int32 × Int32 × Int32 × AH) => fX8_place_47 n 0 (nI s) (nI cell) a3 x.1 x.2.1 x.2.2.1 x.2.2.2) (fun i x => x.1 = (bpS (sT S) s cell 7 i).1 ∧ x.2.1 = nI (bpS (sT S) s cell 7 i).2 ∧ x.2.2.1 = nI i ∧ EqQ h x.2.2.2) 30 (fun r => ∃ h1, r = some (if a3 = 0 then (bpS (sT S) s cell 7 30).1 else nI (bpS (sT S) s cell 7 30).2, h1) ∧ EqQ h h1) ?_ ?_ (-1, nI 7, nI 0, h) ⟨rfl, rfl, rfl, EqQ.rf⟩ FU (FU_lt (by omega))
    · rintro n i ⟨s1, s2, s3, hh⟩ hi ⟨i1, i2, i3, iq⟩
      simp only at i1 i2 i3 iq
      subst i1; subst i2; subst i3
      obtain ⟨h2, r2, q2⟩ := c_withAt hT (show 46 ≤ 304 by omega) (hLa.eqs (iq.eqs (by omega))) hs1 hi (show cell < 30 by omega)
      have hw := who_lt (wth_wf hT (s := s) (c := i) (by omega) hi) (show 46 ≤ 304 by omega) (cell := cell) (set := onT (wth (sT S) s i)) (t := tn (sT S) 13 % 12)
      have hbl := bpS_le (sT S) s cell 7 i
      have h6 : seen1 (sT S) s cell i ≤ 6 := pc_le 6 _
      show ∃ s', fX8_place_47 (n + 1) 0 (nI s) (nI cell) a3 (bpS (sT S) s cell 7 i).1 (nI (bpS (sT S) s cell 7 i).2) (nI i) hh = _ ∧ _
      rw [fX8_place_47, if_neg (by rw [show (30 : Int32) = nI 30 by decide, p_le (by omega) (by omega)]; omega), z00, z10, z04, r2, ob2_s, c_bits _ hw, ob_s, show pc 6 (who (wth (sT S) s i) cell (onT (wth (sT S) s i)) (tn (sT S) 13 % 12)) = seen1 (sT S) s cell i from rfl]
      simp (disch := omega) only [p0, p1, p2, p3, p4, p5, p6, p7, p8, p9, p10, p11, p12, p14, p19, p23, p24, p25, p29, p30, p31, p35, p40, p46, p58, p60, p88, p99, p100, p112, p150, p9999, nI_add, nI_mul, ix_nI, p_sub, p_div, p_rem, p_shl, p_shr, p_and, p_or, inb_nI, p_le, oL_d]
      by_cases hq : (bpS (sT S) s cell 7 i).2 ≤ seen1 (sT S) s cell i
      · rw [if_pos hq]
        exact ⟨((bpS (sT S) s cell 7 i).1, nI (bpS (sT S) s cell 7 i).2, nI (i + 1), h2), rfl, by rw [bpS, if_pos hq], by rw [bpS, if_pos hq], rfl, iq.tr q2⟩
      · rw [if_neg hq]
        exact ⟨(nI i, nI (seen1 (sT S) s cell i), nI (i + 1), h2), rfl, by rw [bpS, if_neg hq], by rw [bpS, if_neg hq], rfl, iq.tr q2⟩
    · rintro n ⟨s1, s2, s3, hh⟩ ⟨i1, i2, i3, iq⟩
      simp only at i1 i2 i3 iq
      refine ⟨hh, ?_, iq⟩
      show fX8_place_47 (n + 1) 0 (nI s) (nI cell) a3 s1 s2 s3 hh = _
      rw [i1, i2, i3, fX8_place_47, if_pos (by decide)]
      unfold fX8_place_98
      split <;> rfl
  · show ∃ h2, (ob (fX9_layHand 262 h1) _) = _ ∧ _
    rw [m_layHand hM1, ob_s, bpS_same (sT S) s cell 29, p1]
    simp (disch := omega) only [q26, q26s, p0, p1, p2, p3, p4, p5, p6, p7, p8, p9, p10, p11, p12, p14, p19, p23, p24, p25, p29, p30, p31, p35, p40, p46, p58, p60, p88, p99, p100, p112, p150, p9999, nI_add, nI_mul, ix_nI, p_sub, p_div, p_rem, p_shl, p_shr, p_and, p_or, inb_nI, decide_eq_true, oG_t, oL_d]
    have hMk : ∀ k, ¬ keepM 267 k := fun k => by unfold keepM; omega
    refine run_rel (fun n (x : Int32 × Int32 × Int32 × AH) => fX9_place_56 n 262 (nI s) (nI cell) a3 x.1 x.2.1 x.2.2.1 x.2.2.2) (fun i x => x.1 = (bpS (sT S) s cell 1000000 i).1 ∧ x.2.1 = nI (bpS (sT S) s cell 1000000 i).2 ∧ x.2.2.1 = nI i ∧ MR S x.2.2.2 ∧ Eqs 0 261 h1 x.2.2.2 ∧ ∀ k, k < 46 → k ≠ 14 + s → hI x.2.2.2 267 k = up1 (sT S) (25 + s) 1 k) 30 (fun r => ∃ h2, r = some (if a3 = 0 then (bpS (sT S) s cell 1000000 30).1 else nI (bpS (sT S) s cell 1000000 30).2, h2) ∧ MR S h2 ∧ Eqs 0 261 h1 h2) ?_ ?_ (-1, (1000000 : Int32), nI 0, sI (rowS h1 267 (sT S) 46) 267 (25 + s) (nI 1)) ⟨rfl, rfl, rfl, (hM1.eqm (EqM.row hMk)).eqm (EqM.sI (hMk _)), (Eqs.row (by omega)).tr (Eqs.sI (by omega)), ?_⟩ FU (FU_lt (by omega))
    · rintro n i ⟨s1, s2, s3, hh⟩ hi ⟨i1, i2, i3, iM, iE, iH⟩
      simp only at i1 i2 i3 iM iE iH
      subst i1; subst i2; subst i3
      have hWi := wth_wf hT (s := s) (c := i) (by omega) hi
      have hbl := bpS_le (sT S) s cell 1000000 i
      have h6 : seen1 (sT S) s cell i ≤ 6 := pc_le 6 _
      have ht : tn (sT S) 13 % 12 < 12 := Nat.mod_lt _ (by omega)
      have iM2 : MR S (sI hh 267 (14 + s) (nI i)) := iM.eqm (EqM.sI (hMk _))
      have iE2 : Eqs 0 261 h1 (sI hh 267 (14 + s) (nI i)) := iE.tr (Eqs.sI (by omega))
      have hA : ArR 267 46 (wth (sT S) s i) (sI hh 267 (14 + s) (nI i)) := by
        refine ⟨rfl, rfl, fun k hk => ?_⟩
        unfold wth
        by_cases e : k = 14 + s
        · rw [e, sI_e, up1_e]
        · rw [sI_n (fun q => e q.2), up1_n e, iH k hk e]
      have hH2 : ∀ k, k < 46 → k ≠ 14 + s → hI (sI hh 267 (14 + s) (nI i)) 267 k = up1 (sT S) (25 + s) 1 k := fun k hk e => by rw [sI_n (fun q => e q.2), iH k hk e]
      have hw := who_lt hWi (show 46 ≤ 304 by omega) (cell := cell) (set := onT (wth (sT S) s i)) (t := tn (sT S) 13 % 12)
      have hon := onT_lt hWi (by omega)
      have hWi' := hWi.le (show 46 ≤ 304 by omega)
      show ∃ s', fX9_place_56 (n + 1) 262 (nI s) (nI cell) a3 (bpS (sT S) s cell 1000000 i).1 (nI (bpS (sT S) s cell 1000000 i).2) (nI i) hh = _ ∧ _
      rw [fX9_place_56, if_neg (by rw [show (30 : Int32) = nI 30 by decide, p_le (by omega) (by omega)]; omega)]
      unfold fX9_place_112 fX9_place_128
      simp (disch := omega) only [q26, q26s, p0, p1, p2, p3, p4, p5, p6, p7, p8, p9, p10, p11, p12, p14, p19, p23, p24, p25, p29, p30, p31, p35, p40, p46, p58, p60, p88, p99, p100, p112, p150, p9999, nI_add, nI_mul, ix_nI, p_sub, p_div, p_rem, p_shl, p_shr, p_and, p_or, inb_nI, decide_eq_true, oG_t, oL_d]
      rw [m_on hWi' (by omega) hA (by omega), ob_s, m_stepNow iM2 hW, ob_s, m_who hWi' (by omega) hA (by omega) (by omega) ht (by omega), ob_s, m_bits6 hw, ob_s, show pc 6 (who (wth (sT S) s i) cell (onT (wth (sT S) s i)) (tn (sT S) 13 % 12)) = seen1 (sT S) s cell i from rfl]
      simp (disch := omega) only [p_le]
      by_cases hq : (bpS (sT S) s cell 1000000 i).2 ≤ seen1 (sT S) s cell i
      · rw [if_pos hq, if_pos hq]
        exact ⟨((bpS (sT S) s cell 1000000 i).1, nI (bpS (sT S) s cell 1000000 i).2, nI (i + 1), _), rfl, by rw [bpS, if_pos hq], by rw [bpS, if_pos hq], rfl, iM2, iE2, hH2⟩
      · rw [if_neg hq, if_neg hq]
        exact ⟨(nI i, nI (seen1 (sT S) s cell i), nI (i + 1), _), rfl, by rw [bpS, if_neg hq], by rw [bpS, if_neg hq], rfl, iM2, iE2, hH2⟩
    · rintro n ⟨s1, s2, s3, hh⟩ ⟨i1, i2, i3, iM, iE, iH⟩
      simp only at i1 i2 i3 iM iE iH
      refine ⟨hh, ?_, iM, iE⟩
      show fX9_place_56 (n + 1) 262 (nI s) (nI cell) a3 s1 s2 s3 hh = _
      rw [i1, i2, i3, fX9_place_56, if_pos (by decide)]
      unfold fX9_place_136
      split <;> rfl
    · intro k hk hks
      show hI (sI (rowS h1 267 (sT S) 46) 267 (25 + s) (nI 1)) 267 k = _
      by_cases e : k = 25 + s
      · rw [e, sI_e, up1_e]; rfl
      · rw [sI_n (fun q => e q.2), rowS_i hk, up1_n e]
