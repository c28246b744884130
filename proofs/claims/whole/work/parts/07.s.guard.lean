/-! PURE: guard -/
def gS (T : Nat → Int32) (w st : Nat) : Nat → Nat
  | 0 => 0
  | c + 1 => if se (tn T (40 + w)) (dist st c) (gpl T (onT T) st (tn T 13 % 12)) = true then gS T w st c + 1 else gS T w st c
theorem gS_le {T : Nat → Int32} {w st : Nat} : ∀ n, gS T w st n ≤ n := by
  intro n
  induction n with
  | zero => exact Nat.le_refl _
  | succ n ih => unfold gS; split <;> omega
def bg (T : Nat → Int32) (w : Nat) : Nat → Int32 × Int32
  | 0 => (-1, -1)
  | i + 1 => if nI (gS T w i 30) ≤ (bg T w i).2 then bg T w i else (nI i, nI (gS T w i 30))
theorem c_cellsL {T : Nat → Int32} {h : AH} {w st : Nat} (d2 : tn T (40 + w) < 6) (hgl : gpl T (onT T) st (tn T 13 % 12) < 41) (hst : st < 30) : fX8_cellsSeenFrom_53 h FU (nI st) (nI (tn T (40 + w))) (nI (gpl T (onT T) st (tn T 13 % 12))) (nI 0) (nI 0) = some (nI (gS T w st 30)) := by
  obtain ⟨N, hN⟩ : ∃ N : Nat, N = 30 := ⟨30, rfl⟩
  rw [← hN]
  refine run_loop (fun n (x : Int32 × Int32) => fX8_cellsSeenFrom_53 h n (nI st) (nI (tn T (40 + w))) (nI (gpl T (onT T) st (tn T 13 % 12))) x.1 x.2) (fun i => (nI (gS T w st i), nI i)) N _ (fun n i hi => ?_) (fun n => ?_) FU (FU_lt (by omega))
  · show fX8_cellsSeenFrom_53 h (n + 1) (nI st) (nI (tn T (40 + w))) (nI (gpl T (onT T) st (tn T 13 % 12))) (nI (gS T w st i)) (nI i) = fX8_cellsSeenFrom_53 h n (nI st) (nI (tn T (40 + w))) (nI (gpl T (onT T) st (tn T 13 % 12))) (nI (gS T w st (i + 1))) (nI (i + 1))
    have hi : i < 30 := by omega
    have hd := dist_le _ hst _ hi
    rw [fX8_cellsSeenFrom_53]
    simp (disch := omega) only [p0, p1, p2, p3, p4, p5, p6, p7, p8, p9, p10, p11, p12, p14, p19, p23, p24, p25, p29, p30, p31, p35, p40, p46, p58, p60, p88, p99, p100, p112, p150, p9999, nI_add, nI_mul, ix_nI, p_sub, p_div, p_rem, p_shl, p_shr, p_and, p_or, inb_nI, p_le, if_neg, c_far _ hst _ hi, ob_s, c_sees _ d2 _ hd _ hgl, oL_d, gS]
    cases se (tn T (40 + w)) (dist st i) (gpl T (onT T) st (tn T 13 % 12)) <;> rfl
  · show fX8_cellsSeenFrom_53 h (n + 1) (nI st) (nI (tn T (40 + w))) (nI (gpl T (onT T) st (tn T 13 % 12))) (nI (gS T w st N)) (nI N) = _
    rw [fX8_cellsSeenFrom_53, if_pos (by rw [hN]; decide)]
theorem c_cells {T : Nat → Int32} {h : AH} {m w st : Nat} (hT : WfU T m) (hm : 46 ≤ m) (hR : LaR 2 T h) (hw : w < tn T 1) (hst : st < 30) : fX8_cellsSeenFrom 0 (nI w) (nI st) h = some (nI (gS T w st 30)) := by
  have n1 := (wf_1 hT hm).2
  have hk : KD 2 = 1 := rfl
  obtain ⟨g1, -, -⟩ := hR.2.2.2.2.2.2 w hw
  obtain ⟨-, ⟨c2, d2⟩⟩ := wf_w hT hm (show w < 6 by omega)
  have ht : tn T 13 % 12 < 12 := Nat.mod_lt _ (by omega)
  have hon := onT_lt hT hm
  have hgl := gpl_le hT hm (set := onT T) hst ht
  have hds := c_dayStep hT hm hR (show 0 < 1000 by omega)
  have hin : inb (nI w) (SZ (PC 2 8)) = true := by
    rw [sz_X2_8 hk, inb_nI (by omega)]
    exact decide_eq_true (by omega)
  unfold fX8_cellsSeenFrom
  rw [z00, z10, hin, oG_t, oL_d, ix_nI (by omega), g1, c2, c_on hT hm hR, ob_s, p0, hds, ob_s, Nat.add_zero, c_gpl hT hm hR (show onT T < 2147483648 by omega) hst ht, ob_s]
  exact c_cellsL d2 (show gpl T (onT T) st (tn T 13 % 12) < 41 by omega) hst
theorem m_cells {S : ST} {h : AH} (hM : MR S h) (hW : WfS S) {w st : Nat} (hw : w < tn (sT S) 1) (hst : st < 30) (k103 : Nat → Int32 → Int32 → Int32 → Int32 → Int32 → Int32 → AH → Option (Int32 × AH)) (a l3 l4 : Int32) : fX9_guard_46 k103 FU 262 (nI w) a l3 l4 (nI st) 0 0 h = k103 262 (nI w) a l3 l4 (nI st) (nI (gS (sT S) w st 30)) h := by
  have hT := hW.1
  have n1 := (wf_cnt hT).2.1.2
  obtain ⟨-, ⟨c2, d2⟩⟩ := wf_w hT (by omega) (show w < 6 by omega)
  have ht : tn (sT S) 13 % 12 < 12 := Nat.mod_lt _ (by omega)
  have hon := onT_lt hT (by omega)
  have hr := hM.1.2.2
  obtain ⟨N, hN⟩ : ∃ N : Nat, N = 30 := ⟨30, rfl⟩
  rw [← hN]
  refine run_loop (fun n (x : Int32 × Int32) => fX9_guard_46 k103 n 262 (nI w) a l3 l4 (nI st) x.1 x.2 h) (fun i => (nI (gS (sT S) w st i), nI i)) N _ (fun n i hi => ?_) (fun n => ?_) FU (FU_lt (by omega))
  · show fX9_guard_46 k103 (n + 1) 262 (nI w) a l3 l4 (nI st) (nI (gS (sT S) w st i)) (nI i) h = fX9_guard_46 k103 n 262 (nI w) a l3 l4 (nI st) (nI (gS (sT S) w st (i + 1))) (nI (i + 1)) h
    have hi : i < 30 := by omega
    rw [fX9_guard_46]
    unfold fX9_guard_94
    simp (disch := omega) only [p0, p1, p2, p3, p4, p5, p6, p7, p8, p9, p10, p11, p12, p14, p19, p23, p24, p25, p29, p30, p31, p35, p40, p46, p58, p60, p88, p99, p100, p112, p150, p9999, nI_add, nI_mul, ix_nI, p_sub, p_div, p_rem, p_shl, p_shr, p_and, p_or, inb_nI, p_le, if_neg, q20, q20s, decide_eq_true, oG_t, oL_d, hr, c2, m_on hT (show 46 ≤ 304 by omega) hM.1 (show 46 ≤ 304 by omega), ob_s, m_stepNow hM hW, m_seesFrom hT (show 46 ≤ 304 by omega) hM.1 (show 46 ≤ 304 by omega) d2 hst hi (show onT (sT S) < 2147483648 by omega) ht, gS, Nat.add_zero]
    cases se (tn (sT S) (40 + w)) (dist st i) (gpl (sT S) (onT (sT S)) st (tn (sT S) 13 % 12)) <;> rfl
  · show fX9_guard_46 k103 (n + 1) 262 (nI w) a l3 l4 (nI st) (nI (gS (sT S) w st N)) (nI N) h = _
    rw [fX9_guard_46, if_pos (by rw [hN]; decide)]
theorem op_guard : OP_guard RR := by
  rintro a1 a2 h ⟨S, hW, hC, hM⟩
  have hT := hW.1
  have n1 := (wf_cnt hT).2.1.2
  have hLa : LaR 2 (sT S) h := hC.1.1
  have hbad : GO S (fX8_guard_23 0 h) (fun h1 => fX9_guard_18 262 h1) := GO.bad hW hC hM (fun h1 q => by unfold fX8_guard_23; exact rf8 q) (fun h1 => rfl)
  refine GO.out (S := S) (f9 := fun h1 => fX9_guard 262 a1 a2 h1) ?_
  unfold fX8_guard fX9_guard
  simp only [z00, z10]
  refine GO.chk (c_hasWatcher hT (show 46 ≤ 304 by omega) hLa) (fun h1 hM1 => m_isWatcher hM1 hW) (fun _ => hbad) (fun b1 => ?_)
  refine GO.chk c_within (fun h1 hM1 => m01) (fun _ => hbad) (fun b2 => ?_)
  obtain ⟨w, rfl, hw⟩ := hs_nI (by omega) b1
  obtain ⟨N, hN⟩ : ∃ N : Nat, N = 30 := ⟨30, rfl⟩
  refine GO.ask hW hC hM (if a2 = 0 then (bg (sT S) w N).1 else (bg (sT S) w N).2) ⟨h, ?_, EqQ.rf⟩ (fun h1 hM1 => ⟨h1, ?_, hM1, Eqs.rf⟩)
  · refine run_loop (fun n (x : Int32 × Int32 × Int32) => fX8_guard_38 n 0 (nI w) a2 x.1 x.2.1 x.2.2 h) (fun i => ((bg (sT S) w i).1, (bg (sT S) w i).2, nI i)) N _ (fun n i hi => ?_) (fun n => ?_) FU (FU_lt (by omega))
    · show fX8_guard_38 (n + 1) 0 (nI w) a2 (bg (sT S) w i).1 (bg (sT S) w i).2 (nI i) h = fX8_guard_38 n 0 (nI w) a2 (bg (sT S) w (i + 1)).1 (bg (sT S) w (i + 1)).2 (nI (i + 1)) h
      have hi : i < 30 := by omega
      rw [fX8_guard_38, if_neg (by rw [show (30 : Int32) = nI 30 by decide, p_le (by omega) (by omega)]; omega), c_cells hT (by omega) hLa hw hi, ob_s, bg]
      simp only [p0, p1, p2, p3, p4, p5, p6, p7, p8, p9, p10, p11, p12, p14, p19, p23, p24, p25, p29, p30, p31, p35, p40, p46, p58, p60, p88, p99, p100, p112, p150, p9999, nI_add, nI_mul, ix_nI, p_sub, p_div, p_rem, p_shl, p_shr, p_and, p_or, inb_nI, oL_d]
      split <;> rfl
    · show fX8_guard_38 (n + 1) 0 (nI w) a2 (bg (sT S) w N).1 (bg (sT S) w N).2 (nI N) h = _
      rw [fX8_guard_38, if_pos (by rw [hN]; decide)]
      unfold fX8_guard_74
      split <;> rfl
  · refine run_loop (fun n (x : Int32 × Int32 × Int32) => fX9_guard_33 n 262 (nI w) a2 x.1 x.2.1 x.2.2 h1) (fun i => ((bg (sT S) w i).1, (bg (sT S) w i).2, nI i)) N _ (fun n i hi => ?_) (fun n => ?_) FU (FU_lt (by omega))
    · show fX9_guard_33 (n + 1) 262 (nI w) a2 (bg (sT S) w i).1 (bg (sT S) w i).2 (nI i) h1 = fX9_guard_33 n 262 (nI w) a2 (bg (sT S) w (i + 1)).1 (bg (sT S) w (i + 1)).2 (nI (i + 1)) h1
      have hi : i < 30 := by omega
      rw [fX9_guard_33, if_neg (by rw [show (30 : Int32) = nI 30 by decide, p_le (by omega) (by omega)]; omega), m_cells hM1 hW hw hi, bg]
      unfold fX9_guard_116 fX9_guard_131
      simp only [p0, p1, p2, p3, p4, p5, p6, p7, p8, p9, p10, p11, p12, p14, p19, p23, p24, p25, p29, p30, p31, p35, p40, p46, p58, p60, p88, p99, p100, p112, p150, p9999, nI_add, nI_mul, ix_nI, p_sub, p_div, p_rem, p_shl, p_shr, p_and, p_or, inb_nI, oL_d]
      by_cases q : nI (gS (sT S) w i 30) ≤ (bg (sT S) w i).2
      · rw [if_pos q, if_pos q, if_pos q]
      · rw [if_neg q, if_neg q, if_neg q]
    · show fX9_guard_33 (n + 1) 262 (nI w) a2 (bg (sT S) w N).1 (bg (sT S) w N).2 (nI N) h1 = _
      rw [fX9_guard_33, if_pos (by rw [hN]; decide)]
      unfold fX9_guard_139
      split <;> rfl
