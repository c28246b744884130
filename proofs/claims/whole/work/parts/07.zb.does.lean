/-! PURE: a doing -/
def doT (T : Nat → Int32) (c : Nat) : Nat → Int32 := fun k => if 6 ≤ k ∧ k < 6 + tn T 1 then T k + nI ((who T c (onT T) (tn T 13 % 12)) >>> (k - 6) &&& 1) else if k = 12 then T 12 + 1 else if k = 13 then nI (min 9999 (tn T 13 + 1)) else T k
theorem doT_n {T : Nat → Int32} {c k : Nat} (n1 : tn T 1 ≤ 6) (h : k < 6 ∨ 13 < k) : doT T c k = T k := by
  unfold doT
  rw [if_neg (by omega), if_neg (by omega), if_neg (by omega)]
theorem doT_w {T : Nat → Int32} {c w : Nat} (h : w < tn T 1) : doT T c (6 + w) = T (6 + w) + nI ((who T c (onT T) (tn T 13 % 12)) >>> w &&& 1) := by
  unfold doT
  rw [if_pos (by omega), show 6 + w - 6 = w by omega]
theorem doT_12 {T : Nat → Int32} {c : Nat} (n1 : tn T 1 ≤ 6) : doT T c 12 = T 12 + 1 := by
  unfold doT
  rw [if_neg (by omega), if_pos rfl]
theorem doT_13 {T : Nat → Int32} {c : Nat} (n1 : tn T 1 ≤ 6) : doT T c 13 = nI (min 9999 (tn T 13 + 1)) := by
  unfold doT
  rw [if_neg (by omega), if_neg (by omega), if_pos rfl]
theorem doT_wf {T : Nat → Int32} {c m : Nat} (hT : WfU T m) (hm : 46 ≤ m) : WfU (doT T c) m := by
  have n1 := (wf_1 hT hm).2
  have n13 := (wf_13 hT hm).2
  intro k hk hb
  by_cases e : k = 13
  · subst e
    unfold tn
    rw [doT_13 n1, ix_nI (by omega)]
    exact ⟨rfl, by show _ ≤ 9999; omega⟩
  · by_cases e2 : 6 ≤ k ∧ k < 13
    · have : HB k = 10000 := (by decide +kernel : ∀ k, k < 13 → 6 ≤ k → HB k = 10000) k e2.2 e2.1
      omega
    · have e3 := doT_n (c := c) n1 (show k < 6 ∨ 13 < k by omega)
      unfold tn
      rw [e3]
      exact hT k hk hb
theorem c_doing {la : Nat} {T : Nat → Int32} {h : AH} {m c : Nat} (hT : WfU T m) (hm : 46 ≤ m) (hR : LaR la T h) (hla : la + 7 < 93) (hc : c < 30) : ∃ h1, fX7_doingIn 92 la (nI c) h = some (nI (who T c (onT T) (tn T 13 % 12)), h1) ∧ LaR la (doT T c) h1 ∧ EqO la (la + 7) 93 h h1 := by
  have hon := onT_lt hT hm
  have n1 := wf_1 hT hm
  have n0 := wf_0 hT hm
  have n13 := wf_13 hT hm
  have ht : tn T 13 % 12 < 12 := Nat.mod_lt _ (by omega)
  have hw := who_lt hT hm (cell := c) (set := onT T) (t := tn T 13 % 12)
  unfold fX7_doingIn
  rw [c_on hT hm hR, ob_s, show (0 : Int32) = nI 0 by decide, c_dayStep hT hm hR (by omega), ob_s, Nat.add_zero, c_gauge hT hm hR hla (by omega) ht, ob_s, c_wit hT hm (gz_LaR hR hla) gz_g ht hc, ob_s]
  have hg : EqO la (la + 7) 93 h (gz h T (onT T) (tn T 13 % 12)) := EqO.row (Or.inr rfl)
  have hRg : LaR la T (gz h T (onT T) (tn T 13 % 12)) := gz_LaR hR hla
  generalize gz h T (onT T) (tn T 13 % 12) = g at hg hRg ⊢
  generalize hW : who T c (onT T) (tn T 13 % 12) = W at hw ⊢
  obtain ⟨hk, a0, a1, a2, a3, hsh, hws⟩ := hRg
  obtain ⟨u4, u5, u6, u7, u8, u9, u10⟩ := pcs hk
  have z10' : SZ (la + 7) = 6 := by rw [← u10]; exact sz_X2_10 hk
  let f : Nat → Int32 := fun w => T (6 + w) + nI (W >>> w &&& 1)
  suffices hl : fX7_doingIn_24 FU la (nI W) (nI 0) (rowS g (la + 7) f 0) = some (nI W, sI (sI (rowS g (la + 7) f (tn T 1)) la 1 (T 12 + 1)) la 0 (nI (min 9999 (tn T 13 + 1)))) by
    rw [rowS_0] at hl
    refine ⟨_, hl, ⟨hk, ?_, ?_, ?_, ?_, fun s q => ?_, fun w q => ?_⟩, hg.tr ((EqO.row (by omega)).tr ((EqO.sI (by omega)).tr (EqO.sI (by omega))))⟩
    · rw [sI_e, doT_13 n1.2]
    · rw [sI_n (by omega), sI_e, doT_12 n1.2]
    · rw [sI_n (by omega), sI_n (by omega), rowS_n (by omega), doT_n n1.2 (by omega)]; exact a2
    · rw [sI_n (by omega), sI_n (by omega), rowS_n (by omega), doT_n n1.2 (by omega)]; exact a3
    · rw [tn_c (doT_n n1.2 (by omega))] at q
      rw [u4, u5, u6, u7, sI_o (by omega), sI_o (by omega), rowS_n (by omega), sI_o (by omega), sI_o (by omega), rowS_n (by omega), sI_o (by omega), sI_o (by omega), rowS_n (by omega), sI_o (by omega), sI_o (by omega), rowS_n (by omega), doT_n n1.2 (by omega), doT_n n1.2 (by omega), doT_n n1.2 (by omega), doT_n n1.2 (by omega), ← u4, ← u5, ← u6, ← u7]
      exact hsh s q
    · rw [tn_c (doT_n n1.2 (by omega))] at q
      obtain ⟨f1, f2, f3⟩ := hws w q
      rw [u8] at f1; rw [u9] at f2
      refine ⟨?_, ?_, ?_⟩
      · rw [u8, sI_o (by omega), sI_o (by omega), rowS_n (by omega), doT_n n1.2 (by omega)]; exact f1
      · rw [u9, sI_o (by omega), sI_o (by omega), rowS_n (by omega), doT_n n1.2 (by omega)]; exact f2
      · rw [u10, sI_o (by omega), sI_o (by omega), rowS_i q, doT_w q, hW]
  refine run_loop (fun n (x : Int32 × AH) => fX7_doingIn_24 n la (nI W) x.1 x.2) (fun i => (nI i, rowS g (la + 7) f i)) (tn T 1) _ (fun n i hi => ?_) (fun n => ?_) FU (FU_lt (by omega))
  · show fX7_doingIn_24 (n + 1) la (nI W) (nI i) (rowS g (la + 7) f i) = fX7_doingIn_24 n la (nI W) (nI (i + 1)) (rowS g (la + 7) f (i + 1))
    obtain ⟨-, -, f3⟩ := hws i hi
    rw [u10] at f3
    have e3 : hI (rowS g (la + 7) f i) la 3 = nI (tn T 1) := by rw [rowS_n (by omega), a3, n1.1]
    have e6 : hI (rowS g (la + 7) f i) (la + 7) i = T (6 + i) := by rw [rowS_q (by omega), f3]
    have hf : f i = T (6 + i) + nI (W >>> i &&& 1) := rfl
    rw [fX7_doingIn_24, e3, if_neg (by rw [p_le (by omega) (by omega)]; omega), ← rowS_s, hf]
    simp (disch := omega) only [u10, z10', p0, p1, p2, p3, p4, p5, p6, p7, p8, p9, p10, p11, p12, p14, p19, p23, p24, p25, p29, p30, p31, p35, p40, p46, p58, p60, p88, p99, p100, p112, p150, p9999, nI_add, nI_mul, ix_nI, p_sub, p_div, p_rem, p_shl, p_shr, p_and, p_or, inb_nI, decide_eq_true, oG_t, oL_d, e6]
  · show fX7_doingIn_24 (n + 1) la (nI W) (nI (tn T 1)) (rowS g (la + 7) f (tn T 1)) = _
    have e3 : hI (rowS g (la + 7) f (tn T 1)) la 3 = nI (tn T 1) := by rw [rowS_n (by omega), a3, n1.1]
    have e1 : hI (rowS g (la + 7) f (tn T 1)) la 1 = T 12 := by rw [rowS_n (by omega), a1]
    have e0 : hI (rowS g (la + 7) f (tn T 1)) la 0 = nI (tn T 13) := by rw [rowS_n (by omega), a0, n13.1]
    rw [fX7_doingIn_24, e3, if_pos (by rw [p_le (by omega) (by omega)]; exact Nat.le_refl _)]
    unfold fX7_doingIn_55 fX2_pass
    rw [e1, oL_d, sI_n (by omega), e0, p9999, p1, nI_add, c_min _ _ (by omega) (by omega), oL_d, ob_s]
theorem m_doing {o n : Nat} {T : Nat → Int32} {h : AH} {m c : Nat} (hT : WfU T m) (hm : 46 ≤ m) (hR : ArR o n T h) (hn : 46 ≤ n) (hc : c < 30) : ∃ h1, fX9_goDoing o (nI c) h = some (nI (who T c (onT T) (tn T 13 % 12)), h1) ∧ ArR o n (doT T c) h1 ∧ EqO o o o h h1 := by
  have hon := onT_lt hT hm
  have n1 := wf_1 hT hm
  have n13 := wf_13 hT hm
  have ht : tn T 13 % 12 < 12 := Nat.mod_lt _ (by omega)
  have hw := who_lt hT hm (cell := c) (set := onT T) (t := tn T 13 % 12)
  have hwho := m_who hT hm hR hn (show onT T < 2147483648 by omega) ht hc
  have hisOn := m_on hT hm hR hn
  obtain ⟨hk, hsz, hr⟩ := hR
  have r13 := (hr 13 (by omega)).trans n13.1
  have p13 : (13 : Int32) = nI 13 := by decide
  unfold fX9_goDoing
  rw [hisOn, ob_s]
  simp (disch := omega) only [p13, p0, p1, p2, p3, p4, p5, p6, p7, p8, p9, p10, p11, p12, p14, p19, p23, p24, p25, p29, p30, p31, p35, p40, p46, p58, p60, p88, p99, p100, p112, p150, p9999, nI_add, nI_mul, ix_nI, p_sub, p_div, p_rem, p_shl, p_shr, p_and, p_or, inb_nI, hsz, decide_eq_true, oG_t, r13, hwho, ob_s]
  generalize hW : who T c (onT T) (tn T 13 % 12) = W at hw ⊢
  refine run_cnt2 (fun n (c0 : Int32) (x : AH) => fX9_goDoing_19 n o (nI W) c0 x) (fun i x => EqO o o o h x ∧ ∀ k, k < n → hI x o k = if 6 ≤ k ∧ k < 6 + i then T k + nI (W >>> (k - 6) &&& 1) else T k) (tn T 1) _ _ ?_ ?_ h ⟨EqO.rf, fun k hk => by rw [if_neg (by omega)]; exact hr k hk⟩ FU (FU_lt (by omega))
  · rintro q i hh hi ⟨iE, iB⟩
    have e1 : hI hh o 1 = nI (tn T 1) := by rw [iB _ (by omega), if_neg (by omega), n1.1]
    have e6 : hI hh o (6 + i) = T (6 + i) := by rw [iB _ (by omega), if_neg (by omega)]
    show ∃ s' : AH, fX9_goDoing_19 (q + 1) o (nI W) (nI i) hh = fX9_goDoing_19 q o (nI W) (nI (i + 1)) s' ∧ _
    rw [fX9_goDoing_19]
    simp (disch := omega) only [hsz, p0, p1, p2, p3, p4, p5, p6, p7, p8, p9, p10, p11, p12, p14, p19, p23, p24, p25, p29, p30, p31, p35, p40, p46, p58, p60, p88, p99, p100, p112, p150, p9999, nI_add, nI_mul, ix_nI, p_sub, p_div, p_rem, p_shl, p_shr, p_and, p_or, inb_nI, p_le, if_neg, decide_eq_true, oG_t, oL_d, e1, e6]
    refine ⟨_, rfl, iE.tr (EqO.sI (by omega)), fun k hk => ?_⟩
    by_cases e : k = 6 + i
    · subst e
      rw [sI_e, if_pos (by omega), show 6 + i - 6 = i by omega]
    · rw [sI_n (by omega), iB k hk]
      by_cases q : 6 ≤ k ∧ k < 6 + i
      · rw [if_pos q, if_pos (by omega)]
      · rw [if_neg q, if_neg (by omega)]
  · rintro q hh ⟨iE, iB⟩
    have e1 : hI hh o 1 = nI (tn T 1) := by rw [iB _ (by omega), if_neg (by omega), n1.1]
    have e12 : hI hh o 12 = T 12 := by rw [iB _ (by omega), if_neg (by omega)]
    have e13 : hI hh o 13 = nI (tn T 13) := by rw [iB _ (by omega), if_neg (by omega), n13.1]
    refine ⟨sI (sI hh o 12 (T 12 + 1)) o 13 (nI (min 9999 (tn T 13 + 1))), ?_, ⟨hk, hsz, fun k hk => ?_⟩, iE.tr ((EqO.sI (by omega)).tr (EqO.sI (by omega)))⟩
    · show fX9_goDoing_19 (q + 1) o (nI W) (nI (tn T 1)) hh = _
      rw [fX9_goDoing_19]
      unfold fX9_goDoing_46 fX9_goDoing_74
      simp (disch := omega) only [hsz, p13, p0, p1, p2, p3, p4, p5, p6, p7, p8, p9, p10, p11, p12, p14, p19, p23, p24, p25, p29, p30, p31, p35, p40, p46, p58, p60, p88, p99, p100, p112, p150, p9999, nI_add, nI_mul, ix_nI, p_sub, p_div, p_rem, p_shl, p_shr, p_and, p_or, inb_nI, p_le, if_true, Nat.le_refl, decide_eq_true, oG_t, oL_d, e1, e12, sI_n, e13]
      by_cases q : 9999 ≤ tn T 13
      · rw [if_pos q, show tn T 13 + 0 = min 9999 (tn T 13 + 1) by omega]
      · rw [if_neg q, show min 9999 (tn T 13 + 1) = tn T 13 + 1 by omega]
    · by_cases q13 : k = 13
      · subst q13; rw [sI_e, doT_13 n1.2]
      · rw [sI_n (by omega)]
        by_cases q12 : k = 12
        · subst q12; rw [sI_e, doT_12 n1.2]
        · rw [sI_n (by omega), iB k hk]
          unfold doT
          rw [hW]
          by_cases q : 6 ≤ k ∧ k < 6 + tn T 1
          · rw [if_pos q, if_pos q]
          · rw [if_neg q, if_neg q, if_neg q12, if_neg q13]
theorem op_does : OP_does RR := by
  rintro a1 h ⟨S, hW, hC, hM⟩
  have hT := hW.1
  have w := wf_cnt hT
  refine GO.out (S := S) (f9 := fun h1 => fX9_does 262 a1 h1) ?_
  unfold fX8_does fX9_does
  simp only [z00, z10, z11, z04]
  refine GO.chk c_isCell (fun h1 hM1 => m_isCell) (fun _ => GO.bad hW hC hM (fun h1 q => rf8 q) (fun h1 => rfl)) (fun b1 => ?_)
  obtain ⟨x, rfl, -, hx⟩ := wi_nI (a := a1) (lo := 0) (hi := 29) (by omega) (by omega) b1
  have hP := pushT_wf hT
  have t1 : tn (pushT (sT S)) 1 = tn (sT S) 1 := tn_c (pushT_n (by omega) (by omega))
  refine go_push hW hC hM (doT (pushT (sT S)) x) (doT_wf hP (by omega)) (fun k _ q => doT_n (by omega) (by omega)) (nI (who (pushT (sT S)) x (onT (pushT (sT S))) (tn (pushT (sT S)) 13 % 12))) (fun h1 r1 l1 => ?_) (fun h1 m1 h2 r2 a2 => ?_)
  · obtain ⟨h3, r3, l3, e3⟩ := c_doing hP (show 46 ≤ 304 by omega) l1 (by omega) (show x < 30 by omega)
    exact ⟨h3, by rw [r1, ob_s, r3]; rfl, l3, e3⟩
  · obtain ⟨h3, r3, l3, e3⟩ := m_doing hP (show 46 ≤ 304 by omega) a2 (by omega) (show x < 30 by omega)
    refine ⟨h3, ?_, l3.2.2, e3⟩
    show (ob (fX9_keep 262 h1) _) = _
    rw [r2, ob_s, q20, r3]
    rfl
