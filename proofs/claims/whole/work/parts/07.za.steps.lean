/-! PURE: rest, moves, turns, sends -/
theorem z11 : PC 1 1 = 10 := rfl
theorem c_min (a b : Nat) (ha : a < 2147483648) (hb : b < 2147483648) : jmin (nI a) (nI b) = nI (min a b) := by
  unfold jmin
  simp only [p_lt hb ha]
  by_cases h : b < a
  · rw [if_pos h]; congr 1; omega
  · rw [if_neg h]; congr 1; omega
/-- a number of a land changed on both sides -/
theorem LaR.upd {la : Nat} {T : Nat → Int32} {h : AH} {o k key : Nat} {v : Int32} (a : LaR la T h) (n0 : tn T 0 ≤ 5) (n1 : tn T 1 ≤ 6) (P : (key = 13 ∧ o = la ∧ k = 0) ∨ (key = 12 ∧ o = la ∧ k = 1) ∨ (30 ≤ key ∧ key < 35 ∧ o = la + 1 ∧ k = key - 30) ∨ (14 ≤ key ∧ key < 19 ∧ o = la + 2 ∧ k = key - 14) ∨ (35 ≤ key ∧ key < 40 ∧ o = la + 3 ∧ k = key - 35) ∨ (25 ≤ key ∧ key < 30 ∧ o = la + 4 ∧ k = key - 25) ∨ (40 ≤ key ∧ key < 46 ∧ o = la + 5 ∧ k = key - 40) ∨ (19 ≤ key ∧ key < 25 ∧ o = la + 6 ∧ k = key - 19) ∨ (6 ≤ key ∧ key < 12 ∧ o = la + 7 ∧ k = key - 6)) : LaR la (up1 T key v) (sI h o k v) := by
  obtain ⟨hk, a0, a1, a2, a3, hs1, hw1⟩ := a
  obtain ⟨u4, u5, u6, u7, u8, u9, u10⟩ := pcs hk
  have U : ∀ a b x, (a = o ∧ b = k ↔ x = key) → hI h a b = T x → hI (sI h o k v) a b = up1 T key v x := by
    intro a b x h1 h2
    by_cases e : x = key
    · obtain ⟨q1, q2⟩ := h1.mpr e
      rw [q1, q2, e, sI_e, up1_e]
    · rw [sI_n (fun q => e (h1.mp q)), up1_n e, h2]
  have t0 : tn (up1 T key v) 0 = tn T 0 := tn_c (up1_n (by omega))
  have t1 : tn (up1 T key v) 1 = tn T 1 := tn_c (up1_n (by omega))
  refine ⟨hk, U _ _ _ (by omega) a0, U _ _ _ (by omega) a1, U _ _ _ (by omega) a2, U _ _ _ (by omega) a3, fun s q => ?_, fun w q => ?_⟩
  · rw [t0] at q
    obtain ⟨f1, f2, f3, f4⟩ := hs1 s q
    exact ⟨U _ _ _ (by omega) f1, U _ _ _ (by omega) f2, U _ _ _ (by omega) f3, U _ _ _ (by omega) f4⟩
  · rw [t1] at q
    obtain ⟨f1, f2, f3⟩ := hw1 w q
    exact ⟨U _ _ _ (by omega) f1, U _ _ _ (by omega) f2, U _ _ _ (by omega) f3⟩
theorem CouR.lan {c : Nat} {T T' : Nat → Int32} {h h' : AH} (a : CouR c T h) (hq : PasQ c h) (hT : WfU T 304) (he : Eqs (c + 9) (c + 80) h h') (e : ∀ k, k < 304 → (k ≤ 5 ∨ 30 ≤ k) → T' k = T k) (hl : LaR (c + 1) T' h') : CouR c T' h' := by
  have w := wf_cnt hT
  refine a.la w.2.2.1.2 w.2.2.2.1.2 w.2.2.2.2.1.2 (he.sub (by omega) (by omega)) (fun k hk => e k (by omega) (by omega)) hl ?_ (fun j hj => ?_)
  · rw [(he _ (by omega) (by omega) _).1, e 5 (by omega) (by omega)]; exact a.2.1
  · rw [tn_c (e 5 (by omega) (by omega))] at hj
    obtain ⟨i, hi, hD⟩ := hq.1 j (by omega)
    have h1 := a.2.2.1 j hj
    rw [(he (c + 10) (by omega) (by omega) _).2.2]
    rw [hD] at h1 ⊢
    refine (h1.eqs (he.sub (by omega) (by omega))).agr (by rw [tnTP0]; exact w.1.2) (by rw [tnTP1]; exact w.2.1.2) (fun k hk hk2 => ?_)
    unfold TP
    by_cases q : 6 ≤ k ∧ k < 30
    · rw [if_pos q, if_pos q, e _ (by omega) (by omega)]
    · rw [if_neg q, if_neg q, e k (by omega) (by omega)]
theorem go_push {α : Type} {S : ST} {h : AH} {f8 : Option (α × AH)} {f9 : AH → Option (α × AH)} (hW : WfS S) (hC : CR S h) (hM : MR S h) (T' : Nat → Int32) (hT' : WfU T' 304) (e' : ∀ k, k < 304 → (k ≤ 5 ∨ 30 ≤ k) → T' k = pushT (sT S) k) (v : α) (e8 : ∀ h1, fX3_push 10 2 h = some h1 → LaR 2 (pushT (sT S)) h1 → ∃ h2, f8 = some (v, h2) ∧ LaR 2 T' h2 ∧ EqO 2 9 93 h1 h2) (e9 : ∀ h1, MR S h1 → ∀ h2, fX9_keep 262 h1 = some h2 → ArR 263 304 (pushT (sT S)) h2 → ∃ h3, f9 h1 = some (v, h3) ∧ (∀ k, k < 304 → hI h3 263 k = T' k) ∧ EqO 263 263 263 h2 h3) : GO S f8 f9 := by
  obtain ⟨h1, r1, c1, q1, E1⟩ := c_push (c := 1) (Or.inl rfl) hW.1 hC.1 hC.2.2.2.1.1
  obtain ⟨h2, r2, l2, E2⟩ := e8 h1 r1 c1.1
  refine GO.act hM (hW.wT hT') v ⟨h2, r2, hC.cou hW (c1.lan q1 (pushT_wf hW.1) (E2.eqs (by omega) (by omega)) e' l2) (q1.eqs (fun j _ => E2.2.2 _ _)) ?_, ?_⟩ (fun g1 m1 => ?_)
  · intro o k q r
    have e1 := E1 o k (by omega)
    have hn : o ≠ 93 := by unfold kpt at r; omega
    exact ⟨(E2.1 o k (by omega) hn).trans e1.1, (E2.2.1 o k).trans e1.2.1, (E2.2.2 o k).trans e1.2.2⟩
  · exact (E1.eqs (by omega)).tr (E2.eqs (by omega) (by omega))
  · obtain ⟨g2, s2, a2, F2⟩ := m_keep hW.1 m1.1
    obtain ⟨g3, s3, a3, F3⟩ := e9 g1 m1 g2 s2 a2
    exact ⟨g3, s3, m1.row a3 (F2.tr F3).eqn, (F2.tr F3).eqs (by omega) (by omega)⟩
theorem pushT_lan {T : Nat → Int32} {key : Nat} {v : Int32} (h1 : 5 < key) (h2 : key < 30) : ∀ k, k < 304 → (k ≤ 5 ∨ 30 ≤ k) → up1 (pushT T) key v k = pushT T k := fun k _ q => up1_n (by omega)
theorem ArR.upd {T : Nat → Int32} {h : AH} {key : Nat} {v : Int32} (a : ArR 263 304 T h) : ∀ k, k < 304 → hI (sI h 263 key v) 263 k = up1 T key v k := by
  intro k hk
  by_cases e : k = key
  · subst e; rw [sI_e, up1_e]
  · rw [sI_n (fun q => e q.2), up1_n e]; exact a.2.2 k hk
theorem op_rest : OP_rest RR := by
  rintro a1 h ⟨S, hW, hC, hM⟩
  have hT := hW.1
  have w := wf_cnt hT
  refine GO.out (S := S) (f9 := fun h1 => fX9_rest 262 a1 h1) ?_
  unfold fX8_rest fX9_rest
  simp only [z00, z10, z11]
  refine GO.chk c_within (fun h1 hM1 => m199) (fun _ => GO.bad hW hC hM (fun h1 q => rf8 q) (fun h1 => rfl)) (fun b1 => ?_)
  obtain ⟨x, rfl, hx0, hx⟩ := wi_nI (a := a1) (lo := 1) (hi := 99) (by omega) (by omega) b1
  have e13 : pushT (sT S) 13 = nI (tn (sT S) 13) := (pushT_n (by omega) (by omega)).trans w.2.2.2.2.2.2.1
  have n13 := w.2.2.2.2.2.2.2
  refine go_push hW hC hM (up1 (pushT (sT S)) 13 (nI (min 9999 (tn (sT S) 13 + x)))) ((pushT_wf hT).up (by show _ ≤ 9999; omega) (by omega)) (pushT_lan (by omega) (by omega)) (nI (min 9999 (tn (sT S) 13 + x))) (fun h1 r1 l1 => ?_) (fun h1 m1 h2 r2 a2 => ?_)
  · rw [r1, ob_s]
    unfold fX2_pass
    rw [l1.2.1, e13, p9999, nI_add, c_min _ _ (by omega) (by omega), oL_d, ob_s, sI_e]
    exact ⟨_, rfl, l1.upd (by rw [tn_c (pushT_n (by omega) (by omega))]; exact w.1.2) (by rw [tn_c (pushT_n (by omega) (by omega))]; exact w.2.1.2) (by omega), EqO.sI (by omega)⟩
  · show ∃ h3, ob (fX9_keep 262 h1) _ = _ ∧ _
    rw [r2, ob_s]
    have r13 := (a2.2.2 13 (by omega)).trans e13
    have p13 : (13 : Int32) = nI 13 := by decide
    unfold fX9_goRest fX9_goRest_27
    simp (disch := omega) only [q20, q20s, p13, p0, p1, p2, p3, p4, p5, p6, p7, p8, p9, p10, p11, p12, p14, p19, p23, p24, p25, p29, p30, p31, p35, p40, p46, p58, p60, p88, p99, p100, p112, p150, p9999, nI_add, nI_mul, ix_nI, p_sub, p_div, p_rem, p_shl, p_shr, p_and, p_or, inb_nI, p_le, decide_eq_true, oG_t, oL_d, r13]
    by_cases q : tn (sT S) 13 + x ≤ 9999
    · rw [if_pos q, ob_s, sI_e, show min 9999 (tn (sT S) 13 + x) = tn (sT S) 13 + x by omega]
      exact ⟨_, rfl, a2.upd, EqO.sI (by omega)⟩
    · rw [if_neg q, ob_s, sI_e, show min 9999 (tn (sT S) 13 + x) = 9999 by omega]
      exact ⟨_, rfl, a2.upd, EqO.sI (by omega)⟩
theorem m_put {S : ST} {h1 h2 : AH} {k : Nat} {v : Int32} (m1 : MR S h1) (r2 : fX9_keep 262 h1 = some h2) (hk : k < 46) : (ob2 (fX9_put 262 (nI k) v h1) fun v10 h9 => some (v10, h9)) = some (sT S k, sI h2 263 k v) := by
  have r := m1.1.2.2 k (by omega)
  unfold fX9_put
  simp (disch := omega) only [q20, q20s, p0, p1, p2, p3, p4, p5, p6, p7, p8, p9, p10, p11, p12, p14, p19, p23, p24, p25, p29, p30, p31, p35, p40, p46, p58, p60, p88, p99, p100, p112, p150, p9999, nI_add, nI_mul, ix_nI, p_sub, p_div, p_rem, p_shl, p_shr, p_and, p_or, inb_nI, decide_eq_true, oG_t, oL_d, r, r2, ob_s]
  rfl
theorem op_moves : OP_moves RR := by
  rintro a1 a2 h ⟨S, hW, hC, hM⟩
  have hT := hW.1
  have w := wf_cnt hT
  have hbad : GO S (fX8_moves_21 0 h) (fun h1 => fX9_moves_27 262 h1) := GO.bad hW hC hM (fun h1 q => by unfold fX8_moves_21; exact rf8 q) (fun h1 => rfl)
  refine GO.out (S := S) (f9 := fun h1 => fX9_moves 262 a1 a2 h1) ?_
  unfold fX8_moves fX9_moves
  simp only [z00, z10, z11]
  refine GO.chk (c_hasShow hT (show 46 ≤ 304 by omega) hC.1.1) (fun h1 hM1 => m_isShow hM1 hW) (fun _ => hbad) (fun b1 => ?_)
  refine GO.chk c_isCell (fun h1 hM1 => m_isCell) (fun _ => hbad) (fun b2 => ?_)
  obtain ⟨s, rfl, hs1⟩ := hs_nI (by omega) b1
  obtain ⟨x, rfl, -, hx⟩ := wi_nI (a := a2) (lo := 0) (hi := 29) (by omega) (by omega) b2
  obtain ⟨hb1, hb2, -, -⟩ := hb_stands s (by omega)
  refine go_push hW hC hM (up1 (pushT (sT S)) (14 + s) (nI x)) ((pushT_wf hT).up (by omega) (by omega)) (pushT_lan (by omega) (by omega)) (sT S (14 + s)) (fun h1 r1 l1 => ?_) (fun h1 m1 h2 r2 l2 => ?_)
  · have t0 : tn (pushT (sT S)) 0 = tn (sT S) 0 := tn_c (pushT_n (by omega) (by omega))
    have t1 : tn (pushT (sT S)) 1 = tn (sT S) 1 := tn_c (pushT_n (by omega) (by omega))
    obtain ⟨-, f2, -⟩ := l1.2.2.2.2.2.1 s (by omega)
    rw [pushT_n (by omega) (by omega)] at f2
    have zz : SZ (PC 2 5) = 5 := rfl
    rw [r1, ob_s]
    simp (disch := omega) only [zz, p0, p1, p2, p3, p4, p5, p6, p7, p8, p9, p10, p11, p12, p14, p19, p23, p24, p25, p29, p30, p31, p35, p40, p46, p58, p60, p88, p99, p100, p112, p150, p9999, nI_add, nI_mul, ix_nI, p_sub, p_div, p_rem, p_shl, p_shr, p_and, p_or, inb_nI, decide_eq_true, oG_t, oL_d, f2]
    exact ⟨_, rfl, l1.upd (by omega) (by omega) (by show _ ∨ _ ∨ _ ∨ (_ ∧ _ ∧ 4 = _ ∧ _) ∨ _; omega), EqO.sI (by show (2 ≤ 4 ∧ 4 ≤ 9) ∨ _; omega)⟩
  · refine ⟨sI h2 263 (14 + s) (nI x), ?_, l2.upd, EqO.sI (by omega)⟩
    have p14' : (14 : Int32) + nI s = nI (14 + s) := by rw [p14, nI_add]
    show (ob2 (fX9_put 262 ((14 : Int32) + nI s) (nI x) h1) fun v10 h9 => some (v10, h9)) = _
    rw [p14']
    exact m_put m1 r2 (by omega)
theorem op_turns : OP_turns RR := by
  rintro a1 a2 h ⟨S, hW, hC, hM⟩
  have hT := hW.1
  have w := wf_cnt hT
  have hbad : GO S (fX8_turns_23 0 h) (fun h1 => fX9_turns_30 262 h1) := GO.bad hW hC hM (fun h1 q => by unfold fX8_turns_23; exact rf8 q) (fun h1 => rfl)
  refine GO.out (S := S) (f9 := fun h1 => fX9_turns 262 a1 a2 h1) ?_
  unfold fX8_turns fX9_turns
  simp only [z00, z10, z11]
  refine GO.chk (c_hasShow hT (show 46 ≤ 304 by omega) hC.1.1) (fun h1 hM1 => m_isShow hM1 hW) (fun _ => hbad) (fun b1 => ?_)
  refine GO.chk c_within (fun h1 hM1 => m01) (fun _ => hbad) (fun b2 => ?_)
  obtain ⟨s, rfl, hs1⟩ := hs_nI (by omega) b1
  obtain ⟨x, rfl, -, hx⟩ := wi_nI (a := a2) (lo := 0) (hi := 1) (by omega) (by omega) b2
  obtain ⟨hb1, hb2, -, -⟩ := hb_stands s (by omega)
  refine go_push hW hC hM (up1 (pushT (sT S)) (25 + s) (nI x)) ((pushT_wf hT).up (by omega) (by omega)) (pushT_lan (by omega) (by omega)) (sT S (25 + s)) (fun h1 r1 l1 => ?_) (fun h1 m1 h2 r2 l2 => ?_)
  · have t0 : tn (pushT (sT S)) 0 = tn (sT S) 0 := tn_c (pushT_n (by omega) (by omega))
    have t1 : tn (pushT (sT S)) 1 = tn (sT S) 1 := tn_c (pushT_n (by omega) (by omega))
    obtain ⟨-, -, -, f2⟩ := l1.2.2.2.2.2.1 s (by omega)
    rw [pushT_n (by omega) (by omega)] at f2
    have zz : SZ (PC 2 7) = 5 := rfl
    rw [r1, ob_s]
    simp (disch := omega) only [zz, p0, p1, p2, p3, p4, p5, p6, p7, p8, p9, p10, p11, p12, p14, p19, p23, p24, p25, p29, p30, p31, p35, p40, p46, p58, p60, p88, p99, p100, p112, p150, p9999, nI_add, nI_mul, ix_nI, p_sub, p_div, p_rem, p_shl, p_shr, p_and, p_or, inb_nI, decide_eq_true, oG_t, oL_d, f2]
    exact ⟨_, rfl, l1.upd (by omega) (by omega) (by show _ ∨ _ ∨ _ ∨ _ ∨ _ ∨ (_ ∧ _ ∧ 6 = _ ∧ _) ∨ _; omega), EqO.sI (by show (2 ≤ 6 ∧ 6 ≤ 9) ∨ _; omega)⟩
  · refine ⟨sI h2 263 (25 + s) (nI x), ?_, l2.upd, EqO.sI (by omega)⟩
    have p14' : (25 : Int32) + nI s = nI (25 + s) := by rw [p25, nI_add]
    show (ob2 (fX9_put 262 ((25 : Int32) + nI s) (nI x) h1) fun v10 h9 => some (v10, h9)) = _
    rw [p14']
    exact m_put m1 r2 (by omega)
theorem op_sends : OP_sends RR := by
  rintro a1 a2 h ⟨S, hW, hC, hM⟩
  have hT := hW.1
  have w := wf_cnt hT
  have hbad : GO S (fX8_sends_21 0 h) (fun h1 => fX9_sends_27 262 h1) := GO.bad hW hC hM (fun h1 q => by unfold fX8_sends_21; exact rf8 q) (fun h1 => rfl)
  refine GO.out (S := S) (f9 := fun h1 => fX9_sends 262 a1 a2 h1) ?_
  unfold fX8_sends fX9_sends
  simp only [z00, z10, z11]
  refine GO.chk (c_hasWatcher hT (show 46 ≤ 304 by omega) hC.1.1) (fun h1 hM1 => m_isWatcher hM1 hW) (fun _ => hbad) (fun b1 => ?_)
  refine GO.chk c_isCell (fun h1 hM1 => m_isCell) (fun _ => hbad) (fun b2 => ?_)
  obtain ⟨s, rfl, hs1⟩ := hs_nI (by omega) b1
  obtain ⟨x, rfl, -, hx⟩ := wi_nI (a := a2) (lo := 0) (hi := 29) (by omega) (by omega) b2
  obtain ⟨hb1, hb2⟩ := hb_at s (by omega)
  refine go_push hW hC hM (up1 (pushT (sT S)) (19 + s) (nI x)) ((pushT_wf hT).up (by omega) (by omega)) (pushT_lan (by omega) (by omega)) (sT S (19 + s)) (fun h1 r1 l1 => ?_) (fun h1 m1 h2 r2 l2 => ?_)
  · have t0 : tn (pushT (sT S)) 0 = tn (sT S) 0 := tn_c (pushT_n (by omega) (by omega))
    have t1 : tn (pushT (sT S)) 1 = tn (sT S) 1 := tn_c (pushT_n (by omega) (by omega))
    obtain ⟨-, f2, -⟩ := l1.2.2.2.2.2.2 s (by omega)
    rw [pushT_n (by omega) (by omega)] at f2
    have zz : SZ (PC 2 9) = 6 := rfl
    rw [r1, ob_s]
    simp (disch := omega) only [zz, p0, p1, p2, p3, p4, p5, p6, p7, p8, p9, p10, p11, p12, p14, p19, p23, p24, p25, p29, p30, p31, p35, p40, p46, p58, p60, p88, p99, p100, p112, p150, p9999, nI_add, nI_mul, ix_nI, p_sub, p_div, p_rem, p_shl, p_shr, p_and, p_or, inb_nI, decide_eq_true, oG_t, oL_d, f2]
    exact ⟨_, rfl, l1.upd (by omega) (by omega) (by show _ ∨ _ ∨ _ ∨ _ ∨ _ ∨ _ ∨ _ ∨ (_ ∧ _ ∧ 8 = _ ∧ _) ∨ _; omega), EqO.sI (by show (2 ≤ 8 ∧ 8 ≤ 9) ∨ _; omega)⟩
  · refine ⟨sI h2 263 (19 + s) (nI x), ?_, l2.upd, EqO.sI (by omega)⟩
    have p14' : (19 : Int32) + nI s = nI (19 + s) := by rw [p19, nI_add]
    show (ob2 (fX9_put 262 ((19 : Int32) + nI s) (nI x) h1) fun v10 h9 => some (v10, h9)) = _
    rw [p14']
    exact m_put m1 r2 (by omega)
