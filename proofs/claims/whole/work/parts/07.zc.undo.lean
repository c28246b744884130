/-! PURE: undo -/
def undoT (T : Nat → Int32) : Nat → Int32 := fun k => if k = 5 then nI (tn T 5 - 1) else TP T (tn T 5 - 1) k
section UT
variable {T : Nat → Int32}
theorem undoT_5 : undoT T 5 = nI (tn T 5 - 1) := if_pos rfl
theorem undoT_n {k : Nat} (h1 : k ≠ 5) (h2 : k < 6 ∨ 30 ≤ k) : undoT T k = T k := by
  unfold undoT TP
  rw [if_neg h1, if_neg (by omega)]
theorem undoT_i {i : Nat} (hi : i < 24) : undoT T (6 + i) = T (112 + 24 * (tn T 5 - 1) + i) := by
  unfold undoT TP
  rw [if_neg (by omega), if_pos (by omega)]
  congr 1
  omega
theorem undoT_wf (hT : WfU T 304) (h0 : tn T 5 ≠ 0) : WfU (undoT T) 304 := by
  have n5 := (wf_cnt hT).2.2.2.2.2.1
  intro k hk hb
  by_cases e5 : k = 5
  · subst e5
    unfold tn
    rw [undoT_5, ix_nI (by omega)]
    exact ⟨rfl, by show _ ≤ 8; omega⟩
  · by_cases e : k < 6 ∨ 30 ≤ k
    · have q := undoT_n (T := T) e5 e
      unfold tn
      rw [q]
      exact hT k hk hb
    · have q := undoT_i (T := T) (show k - 6 < 24 by omega)
      have hb2 := hb_past0 (k - 6) (by omega) (tn T 5 - 1) (by omega)
      rw [show 6 + (k - 6) = k by omega] at q hb2
      unfold tn
      rw [q, ← hb2]
      rw [← hb2] at hb
      exact hT _ (by omega) hb
end UT
theorem op_undo : OP_undo RR := by
  rintro h ⟨S, hW, hC, hM⟩
  have hT := hW.1
  have w := wf_cnt hT
  have n5 := w.2.2.2.2.2.1
  have hq := hC.2.2.2.1.1
  have h5 : hI h 10 1 = nI (tn (sT S) 5) := hC.1.2.1.trans n5.1
  have z100 : PC 10 0 = 11 := rfl
  have z11s : SZ 11 = 8 := rfl
  have n8 : Int32.ofNat 8 = nI 8 := rfl
  refine GO.out (S := S) (f9 := fun h1 => fX9_undo 262 h1) ?_
  have e9 : ∀ h1, MR S h1 → fX9_undo 262 h1 = if tn (sT S) 5 = 0 then some (-3, sI h1 266 1 (hI h1 266 1 + 1)) else fX9_undo_26 FU 262 (nI 0) (sI h1 263 5 (nI (tn (sT S) 5 - 1))) := by
    intro h1 m1
    have r5 := (m1.1.2.2 5 (by omega)).trans n5.1
    unfold fX9_undo
    simp (disch := omega) only [q20, q20s, p0, p1, p2, p3, p4, p5, p6, p7, p8, p9, p10, p11, p12, p14, p19, p23, p24, p25, p29, p30, p31, p35, p40, p46, p58, p60, p88, p99, p100, p112, p150, p9999, nI_add, nI_mul, ix_nI, p_sub, p_div, p_rem, p_shl, p_shr, p_and, p_or, inb_nI, p_eq, oG_d, oG_T, decide_true, oL_D, ob_S, ob2_S, r5]
    by_cases e : tn (sT S) 5 = 0
    · rw [if_pos e, if_pos e]; rfl
    · rw [if_neg e, if_neg e]
  by_cases e : tn (sT S) 5 = 0
  · refine (GO.no (v := (-3 : Int32)) (f8 := fX8_undo 0 h) (f9 := fun h1 => some (-3, sI h1 266 1 (hI h1 266 1 + 1))) hW hC hM (fun h1 q => ?_) (fun h1 => rfl)).cng rfl (fun h1 m1 => by show fX9_undo 262 h1 = _; rw [e9 h1 m1, if_pos e])
    unfold fX8_undo
    rw [z00, z11, h5, e, if_pos (by decide), q]
    rfl
  · obtain ⟨i, hi, hD⟩ := hq.1 (tn (sT S) 5 - 1) (by omega)
    have hkd : KD (1 + 11 + 8 * i) = 1 := (kd_past 1 (Or.inl rfl)).2.2.2.2.2.1 i hi
    have hl : LaR (1 + 11 + 8 * i) (TP (sT S) (tn (sT S) 5 - 1)) (sI h 10 1 (nI (tn (sT S) 5 - 1))) := by
      have := hC.1.2.2.1 (tn (sT S) 5 - 1) (by omega)
      rw [hD] at this
      exact this.eqs (Eqs.sI (by omega))
    have t0 : tn (TP (sT S) (tn (sT S) 5 - 1)) 0 = tn (sT S) 0 := tnTP0
    have t1 : tn (TP (sT S) (tn (sT S) 5 - 1)) 1 = tn (sT S) 1 := tnTP1
    obtain ⟨g, r1, l1, E1⟩ := c_copy (d := 2) (s := 1 + 11 + 8 * i) rfl hl (by rw [t0]; exact w.1) (by rw [t1]; exact w.2.1) (by omega)
    have l2 : LaR 2 (undoT (sT S)) g := l1.agr (by rw [t0]; exact w.1.2) (by rw [t1]; exact w.2.1.2) (fun k hk hk2 => by unfold undoT; rw [if_neg (by omega)])
    have hD' : hQ h 11 (tn (sT S) 5 - 1) = 1 + 11 + 8 * i := hD
    have hne : ¬ nI (tn (sT S) 5) ≤ nI 0 := by rw [p_le (by omega) (by omega)]; omega
    have hne2 : ¬ nI (tn (sT S) 5) = nI 0 := by rw [p_eq (by omega) (by omega)]; omega
    have hne3 : ¬ nI 8 < nI (tn (sT S) 5) := by rw [p_lt (by omega) (by omega)]; omega
    have hs10 : ∀ v, hI (sI h 10 1 v) 10 1 = v := fun v => sI_e
    have hsQ : ∀ v a b, hQ (sI h 10 1 v) a b = hQ h a b := fun v a b => rfl
    refine GO.act hM (hW.wT (undoT_wf hT e)) (undoT (sT S) 13) ⟨g, ?_, hC.cou hW ?_ (hq.eqs fun j _ => E1.2.2 _ _) ?_, ?_⟩ (fun g1 m1 => ?_)
    · unfold fX8_undo fX3_popInto
      rw [z00, z11, z10, h5, z100, z11s, n8, p0, if_neg hne2, if_neg hne, if_neg hne3]
      simp (disch := omega) only [p0, p1, p2, p3, p4, p5, p6, p7, p8, p9, p10, p11, p12, p14, p19, p23, p24, p25, p29, p30, p31, p35, p40, p46, p58, p60, p88, p99, p100, p112, p150, p9999, nI_add, nI_mul, ix_nI, p_sub, p_div, p_rem, p_shl, p_shr, p_and, p_or, inb_nI, decide_eq_true, decide_true, oG_t, oL_d, hD', hkd, hs10, hsQ, r1, ob_s]
      rw [l2.2.1]
    · refine hC.1.la w.2.2.1.2 w.2.2.2.1.2 w.2.2.2.2.1.2 ((Eqs.sI (by omega)).tr (E1.eqs (by omega) (by omega))) (fun k hk => undoT_n (by omega) (by omega)) l2 ?_ (fun j hj => ?_)
      · rw [E1.1 _ _ (by omega) (by omega)]
        exact sI_e.trans undoT_5.symm
      · unfold tn at hj
        rw [undoT_5, ix_nI (by omega)] at hj
        rw [E1.2.2, hsQ]
        obtain ⟨i', hi', hD2⟩ := hq.1 j (by omega)
        have h1 := hC.1.2.2.1 j (by omega)
        rw [hD2] at h1 ⊢
        refine ((h1.eqs (Eqs.sI (by omega))).eqs (E1.eqs (by omega) (by omega))).agr (by rw [tnTP0]; exact w.1.2) (by rw [tnTP1]; exact w.2.1.2) (fun k hk hk2 => ?_)
        unfold TP
        by_cases q : 6 ≤ k ∧ k < 30
        · rw [if_pos q, if_pos q, undoT_n (by omega) (by omega)]
        · rw [if_neg q, if_neg q, undoT_n (by omega) (by omega)]
    · intro o k q r
      exact ⟨(E1.1 o k (by omega) (by omega)).trans (sI_o (by omega)), E1.2.1 o k, E1.2.2 o k⟩
    · exact (Eqs.sI (by omega)).tr (E1.eqs (by omega) (by omega))
    · show ∃ h2, fX9_undo 262 g1 = _ ∧ _
      rw [e9 g1 m1, if_neg e]
      have hB := m1.1.2.2
      refine run_cnt2 (fun n (c0 : Int32) (x : AH) => fX9_undo_26 n 262 c0 x) (fun i x => EqO 263 263 263 g1 x ∧ ∀ k, k < 304 → hI x 263 k = if k = 5 then nI (tn (sT S) 5 - 1) else if 6 ≤ k ∧ k < 6 + i then sT S (112 + 24 * (tn (sT S) 5 - 1) + (k - 6)) else sT S k) 24 _ _ ?_ ?_ (sI g1 263 5 (nI (tn (sT S) 5 - 1))) ⟨EqO.sI (by omega), fun k hk => ?_⟩ FU (FU_lt (by omega))
      · rintro n i hh hi ⟨iE, iB⟩
        have e5 : hI hh 263 5 = nI (tn (sT S) 5 - 1) := by rw [iB 5 (by omega), if_pos rfl]
        have e6 : hI hh 263 (112 + 24 * (tn (sT S) 5 - 1) + i) = sT S (112 + 24 * (tn (sT S) 5 - 1) + i) := by rw [iB _ (by omega), if_neg (by omega), if_neg (by omega)]
        show ∃ s' : AH, fX9_undo_26 (n + 1) 262 (nI i) hh = fX9_undo_26 n 262 (nI (i + 1)) s' ∧ _
        rw [fX9_undo_26]
        simp (disch := omega) only [q20, q20s, p0, p1, p2, p3, p4, p5, p6, p7, p8, p9, p10, p11, p12, p14, p19, p23, p24, p25, p29, p30, p31, p35, p40, p46, p58, p60, p88, p99, p100, p112, p150, p9999, nI_add, nI_mul, ix_nI, p_sub, p_div, p_rem, p_shl, p_shr, p_and, p_or, inb_nI, p_le, if_neg, decide_eq_true, oG_t, oL_d, e5, e6]
        refine ⟨_, rfl, iE.tr (EqO.sI (by omega)), fun k hk => ?_⟩
        by_cases q : k = 6 + i
        · subst q
          rw [sI_e, if_neg (by omega), if_pos (by omega), show 6 + i - 6 = i by omega]
        · rw [sI_n (by omega), iB k hk]
          by_cases q5 : k = 5
          · rw [if_pos q5, if_pos q5]
          · rw [if_neg q5, if_neg q5]
            by_cases q6 : 6 ≤ k ∧ k < 6 + i
            · rw [if_pos q6, if_pos (by omega)]
            · rw [if_neg q6, if_neg (by omega)]
      · rintro n hh ⟨iE, iB⟩
        have hfin : ∀ k, k < 304 → hI hh 263 k = undoT (sT S) k := by
          intro k hk
          rw [iB k hk]
          unfold undoT TP
          by_cases q5 : k = 5
          · simp only [if_pos q5]
          · simp only [if_neg q5]
        have e13 := hfin 13 (by omega)
        have p13 : (13 : Int32) = nI 13 := by decide
        refine ⟨hh, ?_, m1.row hfin iE.eqn, iE.eqs (by omega) (by omega)⟩
        show fX9_undo_26 (n + 1) 262 (nI 24) hh = _
        rw [fX9_undo_26, if_pos (by decide)]
        unfold fX9_undo_66
        simp (disch := omega) only [q20, q20s, p13, p0, p1, p2, p3, p4, p5, p6, p7, p8, p9, p10, p11, p12, p14, p19, p23, p24, p25, p29, p30, p31, p35, p40, p46, p58, p60, p88, p99, p100, p112, p150, p9999, nI_add, nI_mul, ix_nI, p_sub, p_div, p_rem, p_shl, p_shr, p_and, p_or, inb_nI, decide_eq_true, oG_t, e13]
      · by_cases q5 : k = 5
        · subst q5; rw [sI_e, if_pos rfl]
        · rw [sI_n (by omega), if_neg q5, if_neg (by omega)]; exact hB k hk
