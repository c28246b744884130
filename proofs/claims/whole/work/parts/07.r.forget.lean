/-! PURE: forget -/
theorem op_forget : OP_forget RR := by
  rintro a1 h ⟨S, hW, hC, hM⟩
  have hT := hW.1
  have c := wf_cnt hT
  refine GO.out (S := S) (f9 := fun h1 => fX9_forget 262 a1 h1) ?_
  unfold fX8_forget fX9_forget
  simp only [z00, z12, z13, z14]
  refine GO.chk c_within (fun h1 hM1 => m02) (fun _ => GO.bad hW hC hM (fun h1 q => rf8 q) (fun h1 => rfl)) (fun b1 => ?_)
  obtain ⟨i, rfl, -, hi⟩ := wi_nI (a := a1) (lo := 0) (hi := 2) (by omega) (by omega) b1
  have hHB : HB (2 + i) = 6 := by rcases (show i = 0 ∨ i = 1 ∨ i = 2 by omega) with rfl | rfl | rfl <;> rfl
  have hsh := hC.1.shR
  have hcl : (if nI i = 0 then fX8_forget_52 76 h else if nI i = (1 : Int32) then fX8_forget_52 78 h else fX8_forget_52 80 h) = some (sT S (2 + i), sI h (76 + 2 * i) 1 0) := by
    have h1 := (hsh i (by omega)).1
    rw [show 1 + 75 + 2 * i = 76 + 2 * i by omega] at h1
    rw [← h1]
    rcases (show i = 0 ∨ i = 1 ∨ i = 2 by omega) with rfl | rfl | rfl
    · rw [if_pos (by decide)]; rfl
    · rw [if_neg (by decide), if_pos (by decide)]; rfl
    · rw [if_neg (by decide), if_neg (by decide)]; rfl
  have hall : ∀ a, a ≠ 2 + i → up1 (sT S) (2 + i) (nI 0) a = sT S a := fun a q => up1_n q
  refine GO.act hM (hW.wT (hT.up (k := 2 + i) (v := 0) (by omega) (by omega))) (sT S (2 + i)) ⟨_, hcl, ?_, ?_⟩ (fun h1 hM1 => ?_)
  · refine hC.cou hW (hC.1.sh hC.2.2.2.1.1 c.1.2 c.2.1.2 c.2.2.2.2.2.1.2 ?_ (fun k hk q => hall k (by omega)) (fun j hj => ?_)) hC.2.2.2.1.1 ?_
    · exact fun a q1 q2 k => ⟨sI_o (by omega), rfl, rfl⟩
    · obtain ⟨s1, s2⟩ := hsh j hj
      by_cases e : j = i
      · subst e
        refine ⟨?_, fun r hr => ?_⟩
        · rw [show 1 + 75 + 2 * j = 76 + 2 * j by omega, sI_e, up1_e]; rfl
        · rw [tn_up (by omega), if_pos rfl] at hr
          omega
      · refine ⟨?_, fun r hr k hk => ?_⟩
        · rw [hall _ (by omega), sI_o (by omega)]; exact s1
        · rw [tn_c (hall (2 + j) (by omega))] at hr
          have : 46 ≤ bs j := by unfold bs; split <;> (try split) <;> omega
          rw [hall _ (by omega), sI_o (by omega)]
          exact s2 r hr k hk
    · exact fun a k q1 q2 => ⟨sI_o (by omega), rfl, rfl⟩
  · exact fun a q1 q2 k => ⟨sI_o (by omega), rfl, rfl⟩
  · have hr := hM1.1.2.2 (2 + i) (by omega)
    show ∃ h2, oG (inb ((2 : Int32) + nI i) (SZ (PC 262 0))) _ = _ ∧ _
    simp (disch := omega) only [q20, q20s, p0, p1, p2, p3, p4, p5, p6, p7, p8, p9, p10, p11, p12, p14, p19, p23, p24, p25, p29, p30, p31, p35, p40, p46, p58, p60, p88, p99, p100, p112, p150, p9999, nI_add, nI_mul, ix_nI, p_sub, p_div, p_rem, p_shl, p_shr, p_and, p_or, inb_nI, decide_eq_true, oG_t, oL_d, hr]
    refine ⟨_, rfl, hM1.row (fun k hk => ?_) EqN.sI, Eqs.sI (by omega)⟩
    by_cases e : k = 2 + i
    · subst e
      rw [sI_e, up1_e]
    · rw [sI_n (by omega), hall k e]
      exact hM1.1.2.2 k hk
