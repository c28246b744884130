/-! PURE: saw, note, mark, forget -/
theorem z12 : PC 1 2 = 76 := rfl
theorem z13 : PC 1 3 = 78 := rfl
theorem z14 : PC 1 4 = 80 := rfl
theorem rf84 {h h1 : AH} (q : fX8_refuse 0 (-4) h = some (-4, h1)) : (ob2 (fX8_refuse 0 (-4) h) fun v5 h4 => some (v5, h4)) = some (-4, h1) := by rw [q]; rfl
theorem hb_saw : ∀ n, n < 6 → HB (46 + 2 * n + 0) = 11 ∧ HB (46 + 2 * n + 1) = 63 := by decide +kernel
theorem hb_note : ∀ n, n < 6 → HB (58 + 5 * n + 0) = 4 ∧ HB (58 + 5 * n + 1) = 9 ∧ HB (58 + 5 * n + 2) = 9 ∧ HB (58 + 5 * n + 3) = 11 ∧ HB (58 + 5 * n + 4) = 40 := by decide +kernel
theorem hb_mark : ∀ n, n < 6 → HB (88 + 4 * n + 0) = 5 ∧ HB (88 + 4 * n + 1) = 9 ∧ HB (88 + 4 * n + 2) = 40 ∧ HB (88 + 4 * n + 3) = 1 := by decide +kernel
theorem go_fin {S : ST} {h : AH} {i : Nat} {v : Nat → Int32} {a1 a2 a3 a4 a5 : Int32} {f9 : AH → Option (Int32 × AH)} (hW : WfS S) (hC : CR S h) (hM : MR S h) (hi : i < 3) (hv : ∀ k, k < wd i → v k = av a1 a2 a3 a4 a5 k) (hwf : tn (sT S) (2 + i) < 6 → ∀ k, k < wd i → ∃ x, v k = nI x ∧ x ≤ HB (bs i + wd i * tn (sT S) (2 + i) + k) ∧ x < 2147483648) (e9 : tn (sT S) (2 + i) < 6 → ∀ h1, MR S h1 → ∃ h2, f9 h1 = some (nI (tn (sT S) (2 + i) + 1), h2) ∧ (∀ k, k < 304 → hI h2 263 k = adT (sT S) i v k) ∧ EqN h1 h2 ∧ Eqs 0 261 h1 h2) (e6 : tn (sT S) (2 + i) = 6 → ∀ h1, MR S h1 → f9 h1 = some (-4, sI h1 266 2 (hI h1 266 2 + 1))) : GO S (if hI h (76 + 2 * i) 1 < (6 : Int32) then ob2 (fX6_add (76 + 2 * i) a1 a2 a3 a4 a5 h) fun v h => some (v, h) else ob2 (fX8_refuse 0 (-4) h) fun v h => some (v, h)) f9 := by
  have c := wf_cnt hW.1
  have hcn : sT S (2 + i) = nI (tn (sT S) (2 + i)) ∧ tn (sT S) (2 + i) ≤ 6 := by
    rcases (show i = 0 ∨ i = 1 ∨ i = 2 by omega) with rfl | rfl | rfl
    · exact c.2.2.1
    · exact c.2.2.2.1
    · exact c.2.2.2.2.1
  have hn1 : hI h (76 + 2 * i) 1 = nI (tn (sT S) (2 + i)) := by
    have := (hC.1.shR i hi).1
    rw [show 1 + 75 + 2 * i = 76 + 2 * i by omega, hcn.1] at this
    exact this
  by_cases hq : tn (sT S) (2 + i) < 6
  · rw [if_pos (by rw [hn1, p6, p_lt (by omega) (by omega)]; exact hq)]
    exact go_add hW hC hM hi hq hv (hwf hq) (e9 hq)
  · rw [if_neg (by rw [hn1, p6, p_lt (by omega) (by omega)]; exact hq)]
    exact (GO.full (v := (-4 : Int32)) (f8 := ob2 (fX8_refuse 0 (-4) h) fun v h => some (v, h)) (f9 := fun h1 => some (-4, sI h1 266 2 (hI h1 266 2 + 1))) hW hC hM (fun h1 q => rf84 q) (fun h1 => rfl)).cng rfl (e6 (by omega))
theorem op_note : OP_note RR := by
  rintro a1 a2 a3 a4 a5 h ⟨S, hW, hC, hM⟩
  have hT := hW.1
  have c := wf_cnt hT
  have hLa : LaR 2 (sT S) h := hC.1.1
  have hbad : GO S (fX8_note_44 0 h) (fun h1 => fX9_note_48 262 h1) := GO.bad hW hC hM (fun h1 q => by unfold fX8_note_44; exact rf8 q) (fun h1 => rfl)
  refine GO.out (S := S) (f9 := fun h1 => fX9_note 262 a1 a2 a3 a4 a5 h1) ?_
  unfold fX8_note fX9_note
  simp only [z00, z10, z13]
  refine GO.chk (c_hasShow hT (show 46 ≤ 304 by omega) hLa) (fun h1 hM1 => m_isShow hM1 hW) (fun _ => hbad) (fun b1 => ?_)
  refine GO.chk c_isLoud (fun h1 hM1 => m19) (fun _ => hbad) (fun b2 => ?_)
  refine GO.chk c_isFar (fun h1 hM1 => m_isFar) (fun _ => hbad) (fun b3 => ?_)
  refine GO.chk c_isDayStep (fun h1 hM1 => m_isStep) (fun _ => hbad) (fun b4 => ?_)
  refine GO.chk c_isPull (fun h1 hM1 => m040) (fun _ => hbad) (fun b5 => ?_)
  obtain ⟨x1, rfl, e1⟩ := hs_nI (by omega) b1
  obtain ⟨x2, rfl, -, e2⟩ := wi_nI (a := a2) (lo := 1) (hi := 9) (by omega) (by omega) b2
  obtain ⟨x3, rfl, -, e3⟩ := wi_nI (a := a3) (lo := 0) (hi := 9) (by omega) (by omega) b3
  obtain ⟨x4, rfl, -, e4⟩ := wi_nI (a := a4) (lo := 0) (hi := 11) (by omega) (by omega) b4
  obtain ⟨x5, rfl, -, e5⟩ := wi_nI (a := a5) (lo := 0) (hi := 40) (by omega) (by omega) b5
  have hn6 := c.2.2.2.1.2
  refine go_fin (i := 1) (v := av (nI x1) (nI x2) (nI x3) (nI x4) (nI x5)) hW hC hM (by omega) (fun k hk => rfl) (fun hq k hk => ?_) (fun hq h1 hM1 => ?_) (fun hq h1 hM1 => ?_)
  · have hq3 : tn (sT S) 3 < 6 := hq
    obtain ⟨k1, k2, k3, k4, k5⟩ := hb_note _ hq3
    show ∃ x, _ ∧ x ≤ HB (58 + 5 * tn (sT S) 3 + k) ∧ _
    have hk5 : k < 5 := hk
    rcases (show k = 0 ∨ k = 1 ∨ k = 2 ∨ k = 3 ∨ k = 4 by omega) with rfl | rfl | rfl | rfl | rfl
    · exact ⟨x1, rfl, by omega, by omega⟩
    · exact ⟨x2, rfl, by omega, by omega⟩
    · exact ⟨x3, rfl, by omega, by omega⟩
    · exact ⟨x4, rfl, by omega, by omega⟩
    · exact ⟨x5, rfl, by omega, by omega⟩
  · have hr := hM1.1.2.2 3 (by omega)
    have hq3 : tn (sT S) 3 < 6 := hq
    have e9 := c.2.2.2.1.1
    have hv : ∀ k, k < 5 → adT (sT S) 1 (av (nI x1) (nI x2) (nI x3) (nI x4) (nI x5)) (58 + 5 * tn (sT S) 3 + k) = (av (nI x1) (nI x2) (nI x3) (nI x4) (nI x5)) k := fun k hk => adT_v (T := sT S) (i := 1) (by omega) hk
    have hnn : ∀ a, a ≠ 3 → ¬ (58 + 5 * tn (sT S) 3 ≤ a ∧ a < 58 + 5 * tn (sT S) 3 + 5) → adT (sT S) 1 (av (nI x1) (nI x2) (nI x3) (nI x4) (nI x5)) a = sT S a := fun a q1 q2 => adT_n (i := 1) q1 q2
    have hcc : adT (sT S) 1 (av (nI x1) (nI x2) (nI x3) (nI x4) (nI x5)) 3 = nI (tn (sT S) 3 + 1) := adT_c (i := 1)
    have hr2 := hM1.1.2.2
    show ∃ h2, _ = some (nI (tn (sT S) 3 + 1), h2) ∧ _
    simp (disch := omega) only [q20, q20s, p0, p1, p2, p3, p4, p5, p6, p7, p8, p9, p10, p11, p12, p14, p19, p23, p24, p25, p29, p30, p31, p35, p40, p46, p58, p60, p88, p99, p100, p112, p150, p9999, nI_add, nI_mul, ix_nI, p_sub, p_div, p_rem, p_shl, p_shr, p_and, p_or, inb_nI, decide_eq_true, oG_t, oL_d, hr, e9, p_eq, sI_n, sI_e, if_neg]
    refine ⟨_, rfl, fun k hk => ?_, EqN.rf.tr EqN.sI |>.tr EqN.sI |>.tr EqN.sI |>.tr EqN.sI |>.tr EqN.sI |>.tr EqN.sI, (Eqs.sI (by omega)).tr (Eqs.sI (by omega)) |>.tr (Eqs.sI (by omega)) |>.tr (Eqs.sI (by omega)) |>.tr (Eqs.sI (by omega)) |>.tr (Eqs.sI (by omega))⟩
    by_cases q1 : k = 3
    · subst q1
      rw [sI_e]
      exact hcc.symm
    · rw [sI_n (by omega)]
      by_cases q2 : 58 + 5 * tn (sT S) 3 ≤ k ∧ k < 58 + 5 * tn (sT S) 3 + 5
      · obtain ⟨r, rfl⟩ : ∃ r, k = 58 + 5 * tn (sT S) 3 + r := ⟨k - (58 + 5 * tn (sT S) 3), by omega⟩
        have hr5 : r < 5 := by omega
        rw [hv r hr5]
        rcases (show r = 0 ∨ r = 1 ∨ r = 2 ∨ r = 3 ∨ r = 4 by omega) with rfl | rfl | rfl | rfl | rfl <;> simp (disch := omega) only [Nat.add_zero, sI_n, sI_e] <;> rfl
      · rw [sI_n (by omega), sI_n (by omega), sI_n (by omega), sI_n (by omega), sI_n (by omega), hr2 k hk]
        exact (hnn k q1 q2).symm
  · have hr := hM1.1.2.2 3 (by omega)
    have hq3 : tn (sT S) 3 = 6 := hq
    have e9 := c.2.2.2.1.1
    rw [hq3] at e9
    show oG (inb (3 : Int32) (SZ (PC 262 0))) _ = _
    simp (disch := omega) only [q20, q20s, p0, p1, p2, p3, p4, p5, p6, p7, p8, p9, p10, p11, p12, p14, p19, p23, p24, p25, p29, p30, p31, p35, p40, p46, p58, p60, p88, p99, p100, p112, p150, p9999, nI_add, nI_mul, ix_nI, p_sub, p_div, p_rem, p_shl, p_shr, p_and, p_or, inb_nI, decide_eq_true, oG_t, hr, e9, if_true]
    rfl
theorem op_mark : OP_mark RR := by
  rintro a1 a2 a3 a4 h ⟨S, hW, hC, hM⟩
  have hT := hW.1
  have c := wf_cnt hT
  have hLa : LaR 2 (sT S) h := hC.1.1
  have hbad : GO S (fX8_mark_38 0 h) (fun h1 => fX9_mark_38 262 h1) := GO.bad hW hC hM (fun h1 q => by unfold fX8_mark_38; exact rf8 q) (fun h1 => rfl)
  refine GO.out (S := S) (f9 := fun h1 => fX9_mark 262 a1 a2 a3 a4 h1) ?_
  unfold fX8_mark fX9_mark
  simp only [z00, z10, z14]
  refine GO.chk (c_hasWatcher hT (show 46 ≤ 304 by omega) hLa) (fun h1 hM1 => m_isWatcher hM1 hW) (fun _ => hbad) (fun b1 => ?_)
  refine GO.chk c_isFar (fun h1 hM1 => m_isFar) (fun _ => hbad) (fun b2 => ?_)
  refine GO.chk c_isPull (fun h1 hM1 => m040) (fun _ => hbad) (fun b3 => ?_)
  refine GO.chk c_within (fun h1 hM1 => m01) (fun _ => hbad) (fun b4 => ?_)
  obtain ⟨x1, rfl, e1⟩ := hs_nI (by omega) b1
  obtain ⟨x2, rfl, -, e2⟩ := wi_nI (a := a2) (lo := 0) (hi := 9) (by omega) (by omega) b2
  obtain ⟨x3, rfl, -, e3⟩ := wi_nI (a := a3) (lo := 0) (hi := 40) (by omega) (by omega) b3
  obtain ⟨x4, rfl, -, e4⟩ := wi_nI (a := a4) (lo := 0) (hi := 1) (by omega) (by omega) b4
  have hn6 := c.2.2.2.2.1.2
  refine go_fin (i := 2) (v := av (nI x1) (nI x2) (nI x3) (nI x4) (nI 0)) hW hC hM (by omega) (fun k hk => rfl) (fun hq k hk => ?_) (fun hq h1 hM1 => ?_) (fun hq h1 hM1 => ?_)
  · have hq3 : tn (sT S) 4 < 6 := hq
    obtain ⟨k1, k2, k3, k4⟩ := hb_mark _ hq3
    show ∃ x, _ ∧ x ≤ HB (88 + 4 * tn (sT S) 4 + k) ∧ _
    have hk5 : k < 4 := hk
    rcases (show k = 0 ∨ k = 1 ∨ k = 2 ∨ k = 3 by omega) with rfl | rfl | rfl | rfl
    · exact ⟨x1, rfl, by omega, by omega⟩
    · exact ⟨x2, rfl, by omega, by omega⟩
    · exact ⟨x3, rfl, by omega, by omega⟩
    · exact ⟨x4, rfl, by omega, by omega⟩
  · have hr := hM1.1.2.2 4 (by omega)
    have hq3 : tn (sT S) 4 < 6 := hq
    have e9 := c.2.2.2.2.1.1
    have hv : ∀ k, k < 4 → adT (sT S) 2 (av (nI x1) (nI x2) (nI x3) (nI x4) (nI 0)) (88 + 4 * tn (sT S) 4 + k) = (av (nI x1) (nI x2) (nI x3) (nI x4) (nI 0)) k := fun k hk => adT_v (T := sT S) (i := 2) (by omega) hk
    have hnn : ∀ a, a ≠ 4 → ¬ (88 + 4 * tn (sT S) 4 ≤ a ∧ a < 88 + 4 * tn (sT S) 4 + 4) → adT (sT S) 2 (av (nI x1) (nI x2) (nI x3) (nI x4) (nI 0)) a = sT S a := fun a q1 q2 => adT_n (i := 2) q1 q2
    have hcc : adT (sT S) 2 (av (nI x1) (nI x2) (nI x3) (nI x4) (nI 0)) 4 = nI (tn (sT S) 4 + 1) := adT_c (i := 2)
    have hr2 := hM1.1.2.2
    show ∃ h2, _ = some (nI (tn (sT S) 4 + 1), h2) ∧ _
    simp (disch := omega) only [q20, q20s, p0, p1, p2, p3, p4, p5, p6, p7, p8, p9, p10, p11, p12, p14, p19, p23, p24, p25, p29, p30, p31, p35, p40, p46, p58, p60, p88, p99, p100, p112, p150, p9999, nI_add, nI_mul, ix_nI, p_sub, p_div, p_rem, p_shl, p_shr, p_and, p_or, inb_nI, decide_eq_true, oG_t, oL_d, hr, e9, p_eq, sI_n, sI_e, if_neg]
    refine ⟨_, rfl, fun k hk => ?_, EqN.rf.tr EqN.sI |>.tr EqN.sI |>.tr EqN.sI |>.tr EqN.sI |>.tr EqN.sI, (Eqs.sI (by omega)).tr (Eqs.sI (by omega)) |>.tr (Eqs.sI (by omega)) |>.tr (Eqs.sI (by omega)) |>.tr (Eqs.sI (by omega))⟩
    by_cases q1 : k = 4
    · subst q1
      rw [sI_e]
      exact hcc.symm
    · rw [sI_n (by omega)]
      by_cases q2 : 88 + 4 * tn (sT S) 4 ≤ k ∧ k < 88 + 4 * tn (sT S) 4 + 4
      · obtain ⟨r, rfl⟩ : ∃ r, k = 88 + 4 * tn (sT S) 4 + r := ⟨k - (88 + 4 * tn (sT S) 4), by omega⟩
        have hr5 : r < 4 := by omega
        rw [hv r hr5]
        rcases (show r = 0 ∨ r = 1 ∨ r = 2 ∨ r = 3 by omega) with rfl | rfl | rfl | rfl <;> simp (disch := omega) only [Nat.add_zero, sI_n, sI_e] <;> rfl
      · rw [sI_n (by omega), sI_n (by omega), sI_n (by omega), sI_n (by omega), hr2 k hk]
        exact (hnn k q1 q2).symm
  · have hr := hM1.1.2.2 4 (by omega)
    have hq3 : tn (sT S) 4 = 6 := hq
    have e9 := c.2.2.2.2.1.1
    rw [hq3] at e9
    show oG (inb (4 : Int32) (SZ (PC 262 0))) _ = _
    simp (disch := omega) only [q20, q20s, p0, p1, p2, p3, p4, p5, p6, p7, p8, p9, p10, p11, p12, p14, p19, p23, p24, p25, p29, p30, p31, p35, p40, p46, p58, p60, p88, p99, p100, p112, p150, p9999, nI_add, nI_mul, ix_nI, p_sub, p_div, p_rem, p_shl, p_shr, p_and, p_or, inb_nI, decide_eq_true, oG_t, hr, e9, if_true]
    rfl
theorem pw_1 : ∀ n, n ≤ 6 → jshl (nI 1) (nI n) - nI 1 = nI (2 ^ n - 1) ∧ 2 ^ n - 1 < 64 := by decide +kernel
theorem op_saw : OP_saw RR := by
  rintro a1 a2 h ⟨S, hW, hC, hM⟩
  have hT := hW.1
  have c := wf_cnt hT
  have hLa : LaR 2 (sT S) h := hC.1.1
  have hbad : GO S (fX8_saw_29 0 h) (fun h1 => fX9_saw_25 262 h1) := GO.bad hW hC hM (fun h1 q => by unfold fX8_saw_29; exact rf8 q) (fun h1 => rfl)
  refine GO.out (S := S) (f9 := fun h1 => fX9_saw 262 a1 a2 h1) ?_
  unfold fX8_saw fX9_saw
  simp only [z00, z10, z12]
  refine GO.chk c_isDayStep (fun h1 hM1 => m_isStep) (fun _ => hbad) (fun b1 => ?_)
  obtain ⟨hpw, hpl⟩ := pw_1 _ c.2.1.2
  have hX : jshl (1 : Int32) (hI h 2 3) - (1 : Int32) = nI (2 ^ tn (sT S) 1 - 1) := by rw [hLa.2.2.2.2.1, c.2.1.1, p1]; exact hpw
  refine GO.cng (g8 := ob (fX8_within a2 0 (nI (2 ^ tn (sT S) 1 - 1))) _) (g9 := fun h1 => ob (fX9_in a2.toInt64 (0 : Int64) ((nI (2 ^ tn (sT S) 1 - 1)).toInt64)) fun v9 => if v9 = 0 then fX9_saw_25 262 h1 else _) ?_ (by rw [hX]) (fun h1 hM1 => by show ob (fX9_manyWatchers 262 h1) _ = _; rw [m_manyW hM1 hW, ob_s, p1, hpw])
  refine GO.chk c_within (fun h1 hM1 => m_in (lo := 0)) (fun _ => hbad) (fun b2 => ?_)
  obtain ⟨x1, rfl, -, e1⟩ := wi_nI (a := a1) (lo := 0) (hi := 11) (by omega) (by omega) b1
  obtain ⟨x2, rfl, -, e2⟩ := wi_nI (a := a2) (lo := 0) (by omega) (by omega) b2
  have hn6 := c.2.2.1.2
  refine go_fin (i := 0) (v := av (nI x1) (nI x2) (nI 0) (nI 0) (nI 0)) hW hC hM (by omega) (fun k hk => rfl) (fun hq k hk => ?_) (fun hq h1 hM1 => ?_) (fun hq h1 hM1 => ?_)
  · have hq3 : tn (sT S) 2 < 6 := hq
    obtain ⟨k1, k2⟩ := hb_saw _ hq3
    show ∃ x, _ ∧ x ≤ HB (46 + 2 * tn (sT S) 2 + k) ∧ _
    have hk5 : k < 2 := hk
    rcases (show k = 0 ∨ k = 1 by omega) with rfl | rfl
    · exact ⟨x1, rfl, by omega, by omega⟩
    · exact ⟨x2, rfl, by omega, by omega⟩
  · have hr := hM1.1.2.2 2 (by omega)
    have hq3 : tn (sT S) 2 < 6 := hq
    have e9 := c.2.2.1.1
    have hv : ∀ k, k < 2 → adT (sT S) 0 (av (nI x1) (nI x2) (nI 0) (nI 0) (nI 0)) (46 + 2 * tn (sT S) 2 + k) = (av (nI x1) (nI x2) (nI 0) (nI 0) (nI 0)) k := fun k hk => adT_v (T := sT S) (i := 0) (by omega) hk
    have hnn : ∀ a, a ≠ 2 → ¬ (46 + 2 * tn (sT S) 2 ≤ a ∧ a < 46 + 2 * tn (sT S) 2 + 2) → adT (sT S) 0 (av (nI x1) (nI x2) (nI 0) (nI 0) (nI 0)) a = sT S a := fun a q1 q2 => adT_n (i := 0) q1 q2
    have hcc : adT (sT S) 0 (av (nI x1) (nI x2) (nI 0) (nI 0) (nI 0)) 2 = nI (tn (sT S) 2 + 1) := adT_c (i := 0)
    have hr2 := hM1.1.2.2
    show ∃ h2, _ = some (nI (tn (sT S) 2 + 1), h2) ∧ _
    simp (disch := omega) only [q20, q20s, p0, p1, p2, p3, p4, p5, p6, p7, p8, p9, p10, p11, p12, p14, p19, p23, p24, p25, p29, p30, p31, p35, p40, p46, p58, p60, p88, p99, p100, p112, p150, p9999, nI_add, nI_mul, ix_nI, p_sub, p_div, p_rem, p_shl, p_shr, p_and, p_or, inb_nI, decide_eq_true, oG_t, oL_d, hr, e9, p_eq, sI_n, sI_e, if_neg]
    refine ⟨_, rfl, fun k hk => ?_, EqN.rf.tr EqN.sI |>.tr EqN.sI |>.tr EqN.sI, (Eqs.sI (by omega)).tr (Eqs.sI (by omega)) |>.tr (Eqs.sI (by omega))⟩
    by_cases q1 : k = 2
    · subst q1
      rw [sI_e]
      exact hcc.symm
    · rw [sI_n (by omega)]
      by_cases q2 : 46 + 2 * tn (sT S) 2 ≤ k ∧ k < 46 + 2 * tn (sT S) 2 + 2
      · obtain ⟨r, rfl⟩ : ∃ r, k = 46 + 2 * tn (sT S) 2 + r := ⟨k - (46 + 2 * tn (sT S) 2), by omega⟩
        have hr5 : r < 2 := by omega
        rw [hv r hr5]
        rcases (show r = 0 ∨ r = 1 by omega) with rfl | rfl <;> simp (disch := omega) only [Nat.add_zero, sI_n, sI_e] <;> rfl
      · rw [sI_n (by omega), sI_n (by omega), hr2 k hk]
        exact (hnn k q1 q2).symm
  · have hr := hM1.1.2.2 2 (by omega)
    have hq3 : tn (sT S) 2 = 6 := hq
    have e9 := c.2.2.1.1
    rw [hq3] at e9
    show oG (inb (2 : Int32) (SZ (PC 262 0))) _ = _
    simp (disch := omega) only [q20, q20s, p0, p1, p2, p3, p4, p5, p6, p7, p8, p9, p10, p11, p12, p14, p19, p23, p24, p25, p29, p30, p31, p35, p40, p46, p58, p60, p88, p99, p100, p112, p150, p9999, nI_add, nI_mul, ix_nI, p_sub, p_div, p_rem, p_shl, p_shr, p_and, p_or, inb_nI, decide_eq_true, oG_t, hr, e9, if_true]
    rfl
