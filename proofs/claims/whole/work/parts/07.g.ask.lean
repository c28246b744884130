/-! PURE: the calls that only ask (1) -/
theorem m05 {a : Int32} : fX9_in a.toInt64 (0 : Int64) (5 : Int64) = some (bI (wi a 0 5)) := m_in (lo := 0) (hi := 5)
theorem m19 {a : Int32} : fX9_in a.toInt64 (1 : Int64) (9 : Int64) = some (bI (wi a 1 9)) := m_in (lo := 1) (hi := 9)
theorem m01 {a : Int32} : fX9_in a.toInt64 (0 : Int64) (1 : Int64) = some (bI (wi a 0 1)) := m_in (lo := 0) (hi := 1)
theorem m02 {a : Int32} : fX9_in a.toInt64 (0 : Int64) (2 : Int64) = some (bI (wi a 0 2)) := m_in (lo := 0) (hi := 2)
theorem m03 {a : Int32} : fX9_in a.toInt64 (0 : Int64) (3 : Int64) = some (bI (wi a 0 3)) := m_in (lo := 0) (hi := 3)
theorem m010 {a : Int32} : fX9_in a.toInt64 (0 : Int64) (10 : Int64) = some (bI (wi a 0 10)) := m_in (lo := 0) (hi := 10)
theorem m040 {a : Int32} : fX9_in a.toInt64 (0 : Int64) (40 : Int64) = some (bI (wi a 0 40)) := m_in (lo := 0) (hi := 40)
theorem m199 {a : Int32} : fX9_in a.toInt64 (1 : Int64) (99 : Int64) = some (bI (wi a 1 99)) := m_in (lo := 1) (hi := 99)
theorem m0127 {a : Int32} : fX9_in a.toInt64 (0 : Int64) (127 : Int64) = some (bI (wi a 0 127)) := m_in (lo := 0) (hi := 127)
theorem m060 {a : Int32} : fX9_in a.toInt64 (0 : Int64) (60 : Int64) = some (bI (wi a 0 60)) := m_in (lo := 0) (hi := 60)
theorem m0999 {a : Int32} : fX9_in a.toInt64 (0 : Int64) (999999 : Int64) = some (bI (wi a 0 999999)) := m_in (lo := 0) (hi := 999999)
theorem op_of : OP_of RR := by
  rintro a1 a2 h ⟨S, hW, hC, hM⟩
  have hLa : LaR 2 (sT S) h := hC.1.1
  have hT := hW.1
  have h5 := (wf_cnt hT).1.2
  have e8 : fX8_of 0 a1 a2 h = cond (hs (tn (sT S) 0) a1) (cond (wi a2 0 3) (ob (fX2_showPart 2 a1 a2 h) fun v9 => some (v9, h)) (fX8_of_23 0 h)) (fX8_of_23 0 h) := by
    unfold fX8_of
    simp only [z00, z10, c_hasShow (a := a1) hT (show 46 ≤ 304 by omega) hLa, ob_s, c_within, chk]
  have e9 : ∀ h1, MR S h1 → fX9_of 262 a1 a2 h1 = cond (hs (tn (sT S) 0) a1) (cond (wi a2 0 3) (if a2 = (0 : Int32) then oG (inb ((30 : Int32) + a1) (SZ (PC 262 0))) (some ((hI h1 (PC 262 0) (ix ((30 : Int32) + a1))), h1)) else if a2 = (1 : Int32) then oG (inb ((14 : Int32) + a1) (SZ (PC 262 0))) (some ((hI h1 (PC 262 0) (ix ((14 : Int32) + a1))), h1)) else if a2 = (2 : Int32) then oG (inb ((35 : Int32) + a1) (SZ (PC 262 0))) (some ((hI h1 (PC 262 0) (ix ((35 : Int32) + a1))), h1)) else oG (inb ((25 : Int32) + a1) (SZ (PC 262 0))) (some ((hI h1 (PC 262 0) (ix ((25 : Int32) + a1))), h1))) (fX9_of_20 262 h1)) (fX9_of_20 262 h1) := by
    intro h1 hM1
    unfold fX9_of
    simp only [m_isShow hM1 hW, ob_s, m03, chk]
  have r8 : ∀ h1, fX8_refuse 0 (-2) h = some (-2, h1) → fX8_of_23 0 h = some (-2, h1) := fun h1 q => by unfold fX8_of_23; rw [q]; rfl
  have r9 : ∀ h1, fX9_of_20 262 h1 = some (-2, sI h1 266 0 (hI h1 266 0 + 1)) := fun h1 => rfl
  cases b1 : hs (tn (sT S) 0) a1 with
  | false => exact rr_bad (f9 := fun h1 => fX9_of 262 a1 a2 h1) hW hC hM (fun h1 q => by rw [e8, b1]; exact r8 h1 q) (fun h1 hM1 => by show fX9_of 262 a1 a2 h1 = _; rw [e9 h1 hM1, b1]; exact r9 h1)
  | true =>
    cases b2 : wi a2 0 3 with
    | false => exact rr_bad (f9 := fun h1 => fX9_of 262 a1 a2 h1) hW hC hM (fun h1 q => by rw [e8, b1, b2]; exact r8 h1 q) (fun h1 hM1 => by show fX9_of 262 a1 a2 h1 = _; rw [e9 h1 hM1, b1, b2]; exact r9 h1)
    | true =>
      obtain ⟨s, rfl, hs1⟩ := hs_nI (by omega) b1
      obtain ⟨w, rfl, -, hw⟩ := wi_nI (a := a2) (lo := 0) (hi := 3) (by omega) (by omega) b2
      have hkk := hLa.1
      obtain ⟨f1, f2, f3, f4⟩ := hLa.2.2.2.2.2.1 s hs1
      refine rr_ask (f9 := fun h1 => fX9_of 262 (nI s) (nI w) h1) (v := sT S ((if w = 0 then 30 else if w = 1 then 14 else if w = 2 then 35 else 25) + s)) hW hC hM ⟨h, ?_, EqQ.rf⟩ (fun h1 hM1 => ⟨h1, ?_, hM1, Eqs.rf⟩)
      · rw [e8, b1, b2]
        show ob (fX2_showPart 2 (nI s) (nI w) h) _ = _
        unfold fX2_showPart
        simp (disch := omega) only [p0, p1, p2, p3, p4, p5, p6, p7, p8, p9, p10, p11, p12, p14, p19, p23, p24, p25, p29, p30, p31, p35, p40, p46, p58, p60, p88, p99, p100, p112, p150, p9999, nI_add, nI_mul, ix_nI, p_sub, p_div, p_rem, p_shl, p_shr, p_and, p_or, inb_nI, p_eq, sz_X2_4 hkk, sz_X2_5 hkk, sz_X2_6 hkk, sz_X2_7 hkk, decide_eq_true, oG_t, f1, f2, f3, f4]
        rcases (show w = 0 ∨ w = 1 ∨ w = 2 ∨ w = 3 by omega) with rfl | rfl | rfl | rfl <;> rfl
      · show fX9_of 262 (nI s) (nI w) h1 = _
        rw [e9 h1 hM1, b1, b2]
        have hr := hM1.1.2.2
        simp (disch := omega) only [p0, p1, p2, p3, p4, p5, p6, p7, p8, p9, p10, p11, p12, p14, p19, p23, p24, p25, p29, p30, p31, p35, p40, p46, p58, p60, p88, p99, p100, p112, p150, p9999, nI_add, nI_mul, ix_nI, p_sub, p_div, p_rem, p_shl, p_shr, p_and, p_or, inb_nI, p_eq, q20, q20s, decide_eq_true, oG_t, hr, cond]
        rcases (show w = 0 ∨ w = 1 ∨ w = 2 ∨ w = 3 by omega) with rfl | rfl | rfl | rfl <;> rfl
theorem op_about : OP_about RR := by
  rintro a1 a2 h ⟨S, hW, hC, hM⟩
  have hLa : LaR 2 (sT S) h := hC.1.1
  have hT := hW.1
  have h5 := (wf_cnt hT).2.1.2
  have e8 : fX8_about 0 a1 a2 h = cond (hs (tn (sT S) 1) a1) (cond (wi a2 0 2) (ob (fX2_watcherPart 2 a1 a2 h) fun v9 => some (v9, h)) (fX8_about_23 0 h)) (fX8_about_23 0 h) := by
    unfold fX8_about
    simp only [z00, z10, c_hasWatcher (a := a1) hT (show 46 ≤ 304 by omega) hLa, ob_s, c_within, chk]
  have e9 : ∀ h1, MR S h1 → fX9_about 262 a1 a2 h1 = cond (hs (tn (sT S) 1) a1) (cond (wi a2 0 2) (if a2 = 0 then fX9_about_52 a1 (PC 262 0) (40 : Int32) h1 else if a2 = (1 : Int32) then fX9_about_52 a1 (PC 262 0) (19 : Int32) h1 else fX9_about_52 a1 (PC 262 0) (6 : Int32) h1) (fX9_about_20 262 h1)) (fX9_about_20 262 h1) := by
    intro h1 hM1
    unfold fX9_about
    simp only [m_isWatcher hM1 hW, ob_s, m02, chk]
  have r8 : ∀ h1, fX8_refuse 0 (-2) h = some (-2, h1) → fX8_about_23 0 h = some (-2, h1) := fun h1 q => by unfold fX8_about_23; rw [q]; rfl
  have r9 : ∀ h1, fX9_about_20 262 h1 = some (-2, sI h1 266 0 (hI h1 266 0 + 1)) := fun h1 => rfl
  cases b1 : hs (tn (sT S) 1) a1 with
  | false => exact rr_bad (f9 := fun h1 => fX9_about 262 a1 a2 h1) hW hC hM (fun h1 q => by rw [e8, b1]; exact r8 h1 q) (fun h1 hM1 => by show fX9_about 262 a1 a2 h1 = _; rw [e9 h1 hM1, b1]; exact r9 h1)
  | true =>
    cases b2 : wi a2 0 2 with
    | false => exact rr_bad (f9 := fun h1 => fX9_about 262 a1 a2 h1) hW hC hM (fun h1 q => by rw [e8, b1, b2]; exact r8 h1 q) (fun h1 hM1 => by show fX9_about 262 a1 a2 h1 = _; rw [e9 h1 hM1, b1, b2]; exact r9 h1)
    | true =>
      obtain ⟨s, rfl, hs1⟩ := hs_nI (by omega) b1
      obtain ⟨w, rfl, -, hw⟩ := wi_nI (a := a2) (lo := 0) (hi := 2) (by omega) (by omega) b2
      have hkk := hLa.1
      obtain ⟨f1, f2, f3⟩ := hLa.2.2.2.2.2.2 s hs1
      refine rr_ask (f9 := fun h1 => fX9_about 262 (nI s) (nI w) h1) (v := sT S ((if w = 0 then 40 else if w = 1 then 19 else 6) + s)) hW hC hM ⟨h, ?_, EqQ.rf⟩ (fun h1 hM1 => ⟨h1, ?_, hM1, Eqs.rf⟩)
      · rw [e8, b1, b2]
        show ob (fX2_watcherPart 2 (nI s) (nI w) h) _ = _
        unfold fX2_watcherPart
        simp (disch := omega) only [p0, p1, p2, p3, p4, p5, p6, p7, p8, p9, p10, p11, p12, p14, p19, p23, p24, p25, p29, p30, p31, p35, p40, p46, p58, p60, p88, p99, p100, p112, p150, p9999, nI_add, nI_mul, ix_nI, p_sub, p_div, p_rem, p_shl, p_shr, p_and, p_or, inb_nI, p_eq, sz_X2_8 hkk, sz_X2_9 hkk, sz_X2_10 hkk, decide_eq_true, oG_t, f1, f2, f3]
        rcases (show w = 0 ∨ w = 1 ∨ w = 2 by omega) with rfl | rfl | rfl <;> rfl
      · show fX9_about 262 (nI s) (nI w) h1 = _
        rw [e9 h1 hM1, b1, b2]
        have hr := hM1.1.2.2
        unfold fX9_about_52
        simp (disch := omega) only [p0, p1, p2, p3, p4, p5, p6, p7, p8, p9, p10, p11, p12, p14, p19, p23, p24, p25, p29, p30, p31, p35, p40, p46, p58, p60, p88, p99, p100, p112, p150, p9999, nI_add, nI_mul, ix_nI, p_sub, p_div, p_rem, p_shl, p_shr, p_and, p_or, inb_nI, p_eq, q20, q20s, decide_eq_true, oG_t, hr, cond]
        rcases (show w = 0 ∨ w = 1 ∨ w = 2 by omega) with rfl | rfl | rfl <;> rfl
theorem m_day (hn : Nat) {T : Nat → Int32} : (tn T 13 + 0) % 12 = tn T 13 % 12 := rfl
theorem op_pull : OP_pull RR := by
  rintro a1 a2 h ⟨S, hW, hC, hM⟩
  have hLa : LaR 2 (sT S) h := hC.1.1
  have hT := hW.1
  have h5 := (wf_cnt hT).1.2
  have h6 := (wf_cnt hT).2.1.2
  have e8 : fX8_pull 0 a1 a2 h = cond (hs (tn (sT S) 0) a1) (cond (hs (tn (sT S) 1) a2) (oG (inb a2 (SZ (PC 2 9))) (ob (fX2_dayStep 2 (0 : Int32) h) fun v9 => ob (fX2_pullAt 2 a1 (hI h (PC 2 9) (ix a2)) v9 h) fun v11 => some (v11, h))) (fX8_pull_28 0 h)) (fX8_pull_28 0 h) := by
    unfold fX8_pull
    simp only [z00, z10, c_hasShow (a := a1) hT (show 46 ≤ 304 by omega) hLa, c_hasWatcher (a := a2) hT (show 46 ≤ 304 by omega) hLa, ob_s, chk]
  have e9 : ∀ h1, MR S h1 → fX9_pull 262 a1 a2 h1 = cond (hs (tn (sT S) 0) a1) (cond (hs (tn (sT S) 1) a2) (oG (inb ((19 : Int32) + a2) (SZ (PC 262 0))) (ob (fX9_stepNow 262 h1) fun v9 => ob (fX9_pullAt (PC 262 0) a1 (hI h1 (PC 262 0) (ix ((19 : Int32) + a2))) v9 h1) fun v11 => some (v11, h1))) (fX9_pull_40 262 h1)) (fX9_pull_40 262 h1) := by
    intro h1 hM1
    unfold fX9_pull
    simp only [m_isShow hM1 hW, m_isWatcher hM1 hW, ob_s, chk]
  have r8 : ∀ h1, fX8_refuse 0 (-2) h = some (-2, h1) → fX8_pull_28 0 h = some (-2, h1) := fun h1 q => by unfold fX8_pull_28; rw [q]; rfl
  have r9 : ∀ h1, fX9_pull_40 262 h1 = some (-2, sI h1 266 0 (hI h1 266 0 + 1)) := fun h1 => rfl
  cases b1 : hs (tn (sT S) 0) a1 with
  | false => exact rr_bad (f9 := fun h1 => fX9_pull 262 a1 a2 h1) hW hC hM (fun h1 q => by rw [e8, b1]; exact r8 h1 q) (fun h1 hM1 => by show fX9_pull 262 a1 a2 h1 = _; rw [e9 h1 hM1, b1]; exact r9 h1)
  | true =>
    cases b2 : hs (tn (sT S) 1) a2 with
    | false => exact rr_bad (f9 := fun h1 => fX9_pull 262 a1 a2 h1) hW hC hM (fun h1 q => by rw [e8, b1, b2]; exact r8 h1 q) (fun h1 hM1 => by show fX9_pull 262 a1 a2 h1 = _; rw [e9 h1 hM1, b1, b2]; exact r9 h1)
    | true =>
      obtain ⟨s, rfl, hs1⟩ := hs_nI (by omega) b1
      obtain ⟨w, rfl, hw1⟩ := hs_nI (by omega) b2
      have hkk := hLa.1
      obtain ⟨f1, f2, f3, f4⟩ := hLa.2.2.2.2.2.1 s hs1
      obtain ⟨g1, g2, g3⟩ := hLa.2.2.2.2.2.2 w hw1
      obtain ⟨⟨a1, b1'⟩, -, ⟨a3, b3⟩, ⟨a4, b4⟩⟩ := wf_s hT (by omega) (show s < 5 by omega)
      obtain ⟨⟨c1, d1⟩, -⟩ := wf_w hT (by omega) (show w < 6 by omega)
      have ht : tn (sT S) 13 % 12 < 12 := Nat.mod_lt _ (by omega)
      have hd := dist_le _ b1' _ d1
      refine rr_ask (f9 := fun h1 => fX9_pull 262 (nI s) (nI w) h1) (v := nI (pl (tn (sT S) (30 + s)) (tn (sT S) (35 + s)) (dist (tn (sT S) (14 + s)) (tn (sT S) (19 + w))) (tn (sT S) 13 % 12))) hW hC hM ⟨h, ?_, EqQ.rf⟩ (fun h1 hM1 => ⟨h1, ?_, hM1, Eqs.rf⟩)
      · rw [e8, b1, b2, show (0 : Int32) = nI 0 by decide, c_dayStep hT (by omega) hLa (by omega)]
        unfold fX2_pullAt
        simp (disch := omega) only [p0, p1, p2, p3, p4, p5, p6, p7, p8, p9, p10, p11, p12, p14, p19, p23, p24, p25, p29, p30, p31, p35, p40, p46, p58, p60, p88, p99, p100, p112, p150, p9999, nI_add, nI_mul, ix_nI, p_sub, p_div, p_rem, p_shl, p_shr, p_and, p_or, inb_nI, sz_X2_4 hkk, sz_X2_5 hkk, sz_X2_6 hkk, sz_X2_9 hkk, decide_eq_true, oG_t, f1, f2, f3, g2, a1, a3, a4, c1, c_far _ b1' _ d1, ob_s, Nat.add_zero, c_pull _ b3 _ b4 _ hd _ ht, cond]
      · show fX9_pull 262 (nI s) (nI w) h1 = _
        rw [e9 h1 hM1, b1, b2]
        have hr := hM1.1.2.2
        simp (disch := omega) only [p0, p1, p2, p3, p4, p5, p6, p7, p8, p9, p10, p11, p12, p14, p19, p23, p24, p25, p29, p30, p31, p35, p40, p46, p58, p60, p88, p99, p100, p112, p150, p9999, nI_add, nI_mul, ix_nI, p_sub, p_div, p_rem, p_shl, p_shr, p_and, p_or, inb_nI, q20, q20s, decide_eq_true, oG_t, hr, c1, m_stepNow hM1 hW, ob_s, m_pullAt hT (show 46 ≤ 304 by omega) hM1.1 (show 46 ≤ 304 by omega) (show s < 5 by omega) d1 ht, cond]
