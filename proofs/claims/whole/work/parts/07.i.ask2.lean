/-! PURE: the calls that only ask (2) -/
theorem op_drawn : OP_drawn RR := by
  rintro a1 a2 h ⟨S, hW, hC, hM⟩
  have hLa : LaR 2 (sT S) h := hC.1.1
  have hT := hW.1
  have n1 := (wf_cnt hT).2.1.2
  have n0 := (wf_cnt hT).1.2
  have hbad : GO S (fX8_drawn_23 0 h) (fun h1 => fX9_drawn_18 262 h1) := GO.bad hW hC hM (fun h1 q => by unfold fX8_drawn_23; exact rf8 q) (fun h1 => rfl)
  refine GO.out (S := S) (f9 := fun h1 => fX9_drawn 262 a1 a2 h1) ?_
  unfold fX8_drawn fX9_drawn
  simp only [z00, z10]
  refine GO.chk (c_hasWatcher hT (show 46 ≤ 304 by omega) hLa) (fun h1 hM1 => m_isWatcher hM1 hW) (fun _ => hbad) (fun b1 => ?_)
  refine GO.chk c_within (fun h1 hM1 => m01) (fun _ => hbad) (fun b2 => ?_)
  obtain ⟨w, rfl, hw⟩ := hs_nI (by omega) b1
  obtain ⟨x, rfl, -, hx⟩ := wi_nI (a := a2) (lo := 0) (hi := 1) (by omega) (by omega) b2
  have hkk := hLa.1
  obtain ⟨g1, g2, -⟩ := hLa.2.2.2.2.2.2 w hw
  obtain ⟨⟨c1, d1⟩, ⟨c2, d2⟩⟩ := wf_w hT (by omega) (show w < 6 by omega)
  have ht : tn (sT S) 13 % 12 < 12 := Nat.mod_lt _ (by omega)
  have hon := onT_lt hT (by omega)
  have hgl := gpl_le hT (by omega) (set := onT (sT S)) d1 ht
  refine GO.ask hW hC hM (if x = 0 then bst (sT S) (onT (sT S)) (tn (sT S) (19 + w)) (tn (sT S) 13 % 12) (tn (sT S) 0) else nI (dr (tn (sT S) (40 + w)) (gpl (sT S) (onT (sT S)) (tn (sT S) (19 + w)) (tn (sT S) 13 % 12)))) ⟨h, ?_, EqQ.rf⟩ (fun h1 hM1 => ⟨h1, ?_, hM1, Eqs.rf⟩)
  · rw [c_on hT (by omega) hLa, ob_s, show (0 : Int32) = nI 0 by decide, c_dayStep hT (by omega) hLa (by omega)]
    simp (disch := omega) only [p0, p1, p2, p3, p4, p5, p6, p7, p8, p9, p10, p11, p12, p14, p19, p23, p24, p25, p29, p30, p31, p35, p40, p46, p58, p60, p88, p99, p100, p112, p150, p9999, nI_add, nI_mul, ix_nI, p_sub, p_div, p_rem, p_shl, p_shr, p_and, p_or, inb_nI, sz_X2_8 hkk, sz_X2_9 hkk, decide_eq_true, oG_t, oL_d, g1, g2, c1, c2, Nat.add_zero, ob_s, p_eq, c_strong hT (show 46 ≤ 304 by omega) hLa (show onT (sT S) < 2147483648 by omega) d1 ht, c_gpl hT (show 46 ≤ 304 by omega) hLa (show onT (sT S) < 2147483648 by omega) d1 ht, c_drawn _ d2 _ (show gpl (sT S) (onT (sT S)) (tn (sT S) (19 + w)) (tn (sT S) 13 % 12) < 41 by omega)]
    by_cases e : x = 0
    · rw [if_pos e, if_pos e]
    · rw [if_neg e, if_neg e]
  · have hr := hM1.1.2.2
    show ob (fX9_isOn (PC 262 0) h1) _ = _
    rw [q20, m_on hT (show 46 ≤ 304 by omega) hM1.1 (by omega), ob_s, m_stepNow hM1 hW]
    simp (disch := omega) only [p0, p1, p2, p3, p4, p5, p6, p7, p8, p9, p10, p11, p12, p14, p19, p23, p24, p25, p29, p30, p31, p35, p40, p46, p58, p60, p88, p99, p100, p112, p150, p9999, nI_add, nI_mul, ix_nI, p_sub, p_div, p_rem, p_shl, p_shr, p_and, p_or, inb_nI, q20s, decide_eq_true, oG_t, hr, c1, c2, ob_s, p_eq, m_gpl hT (show 46 ≤ 304 by omega) hM1.1 (show 46 ≤ 304 by omega) (show onT (sT S) < 2147483648 by omega) d1 ht, m_drawn _ d2 _ (show gpl (sT S) (onT (sT S)) (tn (sT S) (19 + w)) (tn (sT S) 13 % 12) < 41 by omega)]
    by_cases e : x = 1
    · rw [if_pos e, if_neg (by omega)]
    · rw [if_neg e, if_pos (by omega)]
      have hb := bst_is (sT S) (onT (sT S)) (tn (sT S) (19 + w)) (tn (sT S) 13 % 12) (tn (sT S) 0)
      have hgp : gpl (sT S) (onT (sT S)) (tn (sT S) (19 + w)) (tn (sT S) 13 % 12) = gp (sT S) (onT (sT S)) (tn (sT S) (19 + w)) (tn (sT S) 13 % 12) (tn (sT S) 0) := rfl
      rw [hgp] at hgl ⊢
      generalize bst (sT S) (onT (sT S)) (tn (sT S) (19 + w)) (tn (sT S) 13 % 12) (tn (sT S) 0) = B at hb ⊢
      generalize gp (sT S) (onT (sT S)) (tn (sT S) (19 + w)) (tn (sT S) 13 % 12) (tn (sT S) 0) = G at hgl hb ⊢
      rcases hb with ⟨hG, hB⟩ | ⟨k, hk, hB, hcp, hG, hj⟩
      · subst hG; subst hB
        refine run_loop (fun n (s : Int32) => fX9_drawn_75 n 262 (nI w) (nI 0) s h1) (fun i => nI i) 0 _ (fun n i hi => by omega) ?_ FU (FU_lt (by omega))
        intro n
        show fX9_drawn_75 (n + 1) 262 (nI w) (nI 0) (nI 0) h1 = _
        rw [fX9_drawn_75, m_many hM1 hW, ob_s]
        simp (disch := omega) only [p0, p1, p2, p3, p4, p5, p6, p7, p8, p9, p10, p11, p12, p14, p19, p23, p24, p25, p29, p30, p31, p35, p40, p46, p58, p60, p88, p99, p100, p112, p150, p9999, nI_add, nI_mul, ix_nI, p_sub, p_div, p_rem, p_shl, p_shr, p_and, p_or, inb_nI, p_le, Nat.le_refl, if_true, ite_self]
      · subst hB
        have hcpe : ∀ i, i < tn (sT S) 0 → cp (sT S) (onT (sT S)) (tn (sT S) (19 + w)) (tn (sT S) 13 % 12) i = if tn (sT S) (25 + i) = 1 then pl (tn (sT S) (30 + i)) (tn (sT S) (35 + i)) (dist (tn (sT S) (14 + i)) (tn (sT S) (19 + w))) (tn (sT S) 13 % 12) else 0 := by
          intro i hi
          unfold cp
          rw [onT_bit hT (by omega) hi]
          by_cases e : tn (sT S) (25 + i) = 1
          · rw [if_pos (decide_eq_true e), if_pos e]
          · rw [if_neg (by rw [decide_eq_false e]; decide), if_neg e]
        refine run_loop (fun n (s : Int32) => fX9_drawn_75 n 262 (nI w) (nI G) s h1) (fun i => nI i) k _ (fun n i hi => ?_) ?_ FU (FU_lt (by omega))
        · show fX9_drawn_75 (n + 1) 262 (nI w) (nI G) (nI i) h1 = fX9_drawn_75 n 262 (nI w) (nI G) (nI (i + 1)) h1
          obtain ⟨⟨a1, b1⟩, ⟨a2, b2⟩, ⟨a3, b3⟩, ⟨a4, b4⟩⟩ := wf_s hT (by omega) (show i < 5 by omega)
          have g9 := pl_le _ b3 _ b4 _ (dist_le _ b1 _ d1) _ ht
          rw [fX9_drawn_75, m_many hM1 hW, ob_s]
          have hji := hj i hi
          rw [hcpe i (by omega)] at hji
          simp (disch := omega) only [p0, p1, p2, p3, p4, p5, p6, p7, p8, p9, p10, p11, p12, p14, p19, p23, p24, p25, p29, p30, p31, p35, p40, p46, p58, p60, p88, p99, p100, p112, p150, p9999, nI_add, nI_mul, ix_nI, p_sub, p_div, p_rem, p_shl, p_shr, p_and, p_or, inb_nI, p_le, p_eq, q20, q20s, decide_eq_true, oG_t, oL_d, hr, a2, m_pullop hM1 hW (show i < tn (sT S) 0 by omega) hw, ob2_s, if_neg]
          by_cases e : tn (sT S) (25 + i) = 1
          · rw [if_pos e] at hji
            rw [if_pos e, if_neg (by omega)]
          · rw [if_neg e]
        · intro n
          show fX9_drawn_75 (n + 1) 262 (nI w) (nI G) (nI k) h1 = _
          obtain ⟨⟨a1, b1⟩, ⟨a2, b2⟩, ⟨a3, b3⟩, ⟨a4, b4⟩⟩ := wf_s hT (by omega) (show k < 5 by omega)
          have g9 := pl_le _ b3 _ b4 _ (dist_le _ b1 _ d1) _ ht
          rw [fX9_drawn_75, m_many hM1 hW, ob_s]
          rw [hcpe k (by omega)] at hcp
          simp (disch := omega) only [p0, p1, p2, p3, p4, p5, p6, p7, p8, p9, p10, p11, p12, p14, p19, p23, p24, p25, p29, p30, p31, p35, p40, p46, p58, p60, p88, p99, p100, p112, p150, p9999, nI_add, nI_mul, ix_nI, p_sub, p_div, p_rem, p_shl, p_shr, p_and, p_or, inb_nI, p_le, p_eq, q20, q20s, decide_eq_true, oG_t, oL_d, hr, a2, m_pullop hM1 hW (show k < tn (sT S) 0 by omega) hw, ob2_s, if_neg]
          by_cases e : tn (sT S) (25 + k) = 1
          · rw [if_pos e] at hcp
            rw [if_pos e, if_pos hcp]
          · rw [if_neg e] at hcp
            omega
