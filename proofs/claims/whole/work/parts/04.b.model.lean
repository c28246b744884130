theorem ly_X9_1 {o : Nat} (h : KD o = 8) : KD (o + 1) = 9 ∧ SZ (o + 1) = 304 := (by decide +kernel : ∀ o, o < NN → KD o = 8 → KD (o + 1) = 9 ∧ SZ (o + 1) = 304) o (KD_lt' h (by decide)) h
theorem ly_X9_2 {o : Nat} (h : KD o = 8) : KD (o + 2) = 9 ∧ SZ (o + 2) = 608 := (by decide +kernel : ∀ o, o < NN → KD o = 8 → KD (o + 2) = 9 ∧ SZ (o + 2) = 608) o (KD_lt' h (by decide)) h
theorem ly_X9_3 {o : Nat} (h : KD o = 8) : KD (o + 3) = 10 ∧ SZ (o + 3) = 2 := (by decide +kernel : ∀ o, o < NN → KD o = 8 → KD (o + 3) = 10 ∧ SZ (o + 3) = 2) o (KD_lt' h (by decide)) h
theorem ly_X9_4 {o : Nat} (h : KD o = 8) : KD (o + 4) = 9 ∧ SZ (o + 4) = 3 := (by decide +kernel : ∀ o, o < NN → KD o = 8 → KD (o + 4) = 9 ∧ SZ (o + 4) = 3) o (KD_lt' h (by decide)) h
theorem ly_X9_5 {o : Nat} (h : KD o = 8) : KD (o + 5) = 9 ∧ SZ (o + 5) = 46 := (by decide +kernel : ∀ o, o < NN → KD o = 8 → KD (o + 5) = 9 ∧ SZ (o + 5) = 46) o (KD_lt' h (by decide)) h
theorem ly_X9_6 {o : Nat} (h : KD o = 8) : KD (o + 6) = 9 ∧ SZ (o + 6) = 4 := (by decide +kernel : ∀ o, o < NN → KD o = 8 → KD (o + 6) = 9 ∧ SZ (o + 6) = 4) o (KD_lt' h (by decide)) h
theorem ly_X9_7 {o : Nat} (h : KD o = 8) : KD (o + 7) = 10 ∧ SZ (o + 7) = 96 := (by decide +kernel : ∀ o, o < NN → KD o = 8 → KD (o + 7) = 10 ∧ SZ (o + 7) = 96) o (KD_lt' h (by decide)) h
theorem ly_X9_8 {o : Nat} (h : KD o = 8) : KD (o + 8) = 9 ∧ SZ (o + 8) = 4 := (by decide +kernel : ∀ o, o < NN → KD o = 8 → KD (o + 8) = 9 ∧ SZ (o + 8) = 4) o (KD_lt' h (by decide)) h
theorem ly_X9_9 {o : Nat} (h : KD o = 8) : KD (o + 9) = 9 ∧ SZ (o + 9) = 4 := (by decide +kernel : ∀ o, o < NN → KD o = 8 → KD (o + 9) = 9 ∧ SZ (o + 9) = 4) o (KD_lt' h (by decide)) h
theorem ly_X9_10 {o : Nat} (h : KD o = 8) : KD (o + 10) = 9 ∧ SZ (o + 10) = 150 := (by decide +kernel : ∀ o, o < NN → KD o = 8 → KD (o + 10) = 9 ∧ SZ (o + 10) = 150) o (KD_lt' h (by decide)) h
theorem ly_X9_11 {o : Nat} (h : KD o = 8) : KD (o + 11) = 9 ∧ SZ (o + 11) = 112 := (by decide +kernel : ∀ o, o < NN → KD o = 8 → KD (o + 11) = 9 ∧ SZ (o + 11) = 112) o (KD_lt' h (by decide)) h
theorem ly_X9_12 {o : Nat} (h : KD o = 8) : KD (o + 12) = 9 ∧ SZ (o + 12) = 3 := (by decide +kernel : ∀ o, o < NN → KD o = 8 → KD (o + 12) = 9 ∧ SZ (o + 12) = 3) o (KD_lt' h (by decide)) h
/-! the model's constructor; the world behind both -/
def okE (h h' : FH) (o : Nat) : Prop := (KD o < 9 → ∀ k, k < NF (KD o) → (FT (KD o) k = 0 → h'.2.2.1 o k = h.2.2.1 o k) ∧ (FT (KD o) k = 1 → h'.2.2.2 o k = h.2.2.2 o k) ∧ (¬ FT (KD o) k = 0 → ¬ FT (KD o) k = 1 → h'.2.1 o k = h.2.1 o k)) ∧ (¬ KD o < 9 → KD o < 11 → ∀ k, k < SZ o → h'.2.2.1 o k = h.2.2.1 o k) ∧ (¬ KD o < 9 → ¬ KD o < 11 → ∀ k, k < SZ o → h'.2.1 o k = h.2.1 o k)
theorem arrV_cong {cI : ClassId} {N : Nat} {f g : Nat → Value} (h : ∀ k, k < N → f k = g k) : arrV cI N f = arrV cI N g := by
  unfold arrV
  have e : (Array.ofFn (n := N) fun j => f j.val) = Array.ofFn (n := N) fun j => g j.val := by
    congr 1
    funext j
    exact h j.val j.isLt
  rw [e]
theorem HW.cong {G : GG} {h h' : FH} {H : Heap} (hn : h'.1 = h.1) (hc : ∀ o, o < h.1 → okE h h' o) (hP : HW G h H) : HW G h' H := by
  refine ⟨fun k q hk => ?_, by rw [hn]; exact hP.2⟩
  have hl : k < h'.1 := by rw [← Wl_len G h']; exact (List.getElem?_eq_some_iff.mp hk).1
  have hl0 : k < h.1 := by rw [← hn]; exact hl
  rw [Wl_get hl] at hk
  cases hk
  have h0 := hP.1 k _ (Wl_get hl0)
  obtain ⟨c1, c2, c3⟩ := hc k hl0
  by_cases h9 : KD k < 9
  · have e : ent G h' k = ent G h k := by
      rw [ent_obj rfl h9, ent_obj rfl h9]
      congr 2
      refine List.map_congr_left fun j hj => ?_
      obtain ⟨d1, d2, d3⟩ := c1 h9 j (List.mem_range.mp hj)
      unfold fv
      by_cases f0 : FT (KD k) j = 0
      · rw [if_pos f0, if_pos f0, d1 f0]
      · rw [if_neg f0, if_neg f0]
        by_cases f1 : FT (KD k) j = 1
        · rw [if_pos f1, if_pos f1, d2 f1]
        · rw [if_neg f1, if_neg f1, d3 f0 f1]
    rw [e]
    exact h0
  · by_cases h11 : KD k < 11
    · have e1 := ent_arr (G := G) (h := h') (o := k) rfl (by omega)
      have e2 := ent_arr (G := G) (h := h) (o := k) rfl (by omega)
      rw [e1]
      rw [e2] at h0
      show H[G.1 + k]? = some (vp_cell _ _)
      have h0 : H[G.1 + k]? = some (vp_cell _ _) := h0
      rw [h0, vp_cell_i, vp_cell_i]
      congr 1
      exact arrV_cong fun j hj => by rw [c2 h9 h11 j hj]
    · have e1 := ent_ref (G := G) (h := h') (o := k) rfl (by omega)
      have e2 := ent_ref (G := G) (h := h) (o := k) rfl (by omega)
      rw [e1]
      rw [e2] at h0
      show H[G.1 + k]? = some (vp_cell _ _)
      have h0 : H[G.1 + k]? = some (vp_cell _ _) := h0
      rw [h0, vp_cell_q, vp_cell_q]
      congr 1
      exact arrV_cong fun j hj => by rw [c3 h9 h11 j hj]
theorem V.cong {l : Launch} {G : GG} {EX : State → Prop} {M : MI} {rm : Room} {FIN : FT1} {k n pc : Nat} {lv : List (Nat × Value)} {st : List Value} {h h' : FH} (hc : ∀ H, HW G h H → HW G h' H) (kk : V l G EX M rm FIN k n pc lv st h') : V l G EX M rm FIN k n pc lv st h :=
  fun p e s m args below meth c C H locs ls hP hS hb hl => kk p e s m args below meth c C H locs ls (hc H hP) hS hb hl
/-- nothing is made yet -/
def FZ : FH := (0, fun _ _ => none, fun _ _ => 0, fun _ _ => 0)
def F1 : FH := nC (kX8 0 (nC FZ))
def F2 : FH := (pP (nC (pP (nC (pP (nC (pP (nC (pP (nC (pP (nC (pP (nC (pP (nC (jJ (pP (nC (pP (nC (pP (nC (pP (nC F1) 262 0 (262 + 1))) 262 1 (262 + 2))) 262 2 (262 + 3))) 262 3 (262 + 4)) 262 5 1)) 262 6 (262 + 5))) 262 7 (262 + 6))) 262 8 (262 + 7))) 262 9 (262 + 8))) 262 10 (262 + 9))) 262 11 (262 + 10))) 262 17 (262 + 11))) 262 18 (262 + 12))
def Q0 (o k : Nat) : Nat := if o = 82 then (if k = 0 then 100 else 181) else o + 1 + 8 * k
def J0 (o k : Nat) : Int64 := if (o = 0 ∧ k = 9) ∨ (o = 262 ∧ k = 5) then 1 else 0
/-- the world behind the constructors' cells -/
def h0 : AH := (fun _ _ => 0, J0, Q0)
theorem F2_n : F2.1 = NN := by decide +kernel
set_option maxRecDepth 100000 in
theorem F2_I : F2.2.2.1 = fun _ _ => 0 := rfl
theorem F2_J : ∀ o, o < NN → KD o < 9 → ∀ k, k < NF (KD o) → FT (KD o) k = 1 → J0 o k = F2.2.2.2 o k := by decide +kernel
theorem F2_P : ∀ o, o < NN → KD o < 9 → ∀ k, k < NF (KD o) → (FT (KD o) k = 0 ∨ FT (KD o) k = 1 ∨ PQ Q0 o k = F2.2.1 o k) := by decide +kernel
theorem F2_Q : ∀ o, o < NN → 11 ≤ KD o → ∀ k, k < SZ o → PQ Q0 o k = F2.2.1 o k := by decide +kernel
theorem F2_up {G : GG} {H : Heap} (hP : HW G F2 H) : HW G (up h0) H := by
  refine HW.cong (by rw [F2_n]) (fun o ho => ?_) hP
  rw [F2_n] at ho
  refine ⟨fun h9 k hk => ⟨fun _ => by rw [F2_I]; rfl, fun h1 => F2_J o ho h9 k hk h1, fun a b => ((F2_P o ho h9 k hk).resolve_left a).resolve_left b⟩, fun _ _ k _ => by rw [F2_I]; rfl, fun _ h11 k hk => F2_Q o ho (Nat.not_lt.mp h11) k hk⟩
abbrev mi_X9_init : MI := (yX9_init, cX9_init, 1, none)
theorem mic_X9_init : MIc mi_X9_init 0 := ⟨⟨wq_c_yX9_init, by decide⟩, wq_n_RX9, by decide +kernel⟩
set_option maxRecDepth 100000 in
theorem F1_1 : F1.1 = 263 := by decide +kernel
set_option maxRecDepth 100000 in
theorem Fre_F1 : Fre F1 := Fre_nC (Fre_kX8 (Fre_nC (fun _ _ _ => ⟨rfl, rfl, rfl⟩)) rfl)
set_option maxRecDepth 100000 in
set_option maxHeartbeats 4000000 in
theorem mX9_init {l : Launch} {G : GG} {EX : State → Prop} (hE : EXB G EX) {hb : AH} (hbg : fX9_begin 263 h0 = some hb) : Met l mi_X9_init.1 (Cond.code mi_X9_init.1 mi_X9_init.2.1 mi_X9_init.2.2.1 mi_X9_init.2.2.2 :: WS) ⟨1, 12, 1336, 21⟩ (PcG G [.ref (G.1 + 262)] F1 EX) (QcG G (fun w f => w = none ∧ f = up hb)) 12 1336 (AA G) := by
  refine V.met mic_X9_init.1 (Nat.le_of_ble_eq_true rfl) ?_
  refine show V l G EX mi_X9_init ⟨1, 12, 1336, 21⟩ _ 0 0 0 [(0, .ref (G.1 + 262))] [] F1 from ?_
  obtain ⟨h, hh⟩ : ∃ z, z = F1 := ⟨_, rfl⟩
  obtain ⟨o, ho⟩ : ∃ z : Nat, z = 262 := ⟨_, rfl⟩
  have hF : Fre h := hh ▸ Fre_F1
  have e : h.1 = o + 1 := by rw [hh, ho]; exact F1_1
  have hk : KD o = 8 := by rw [ho]; decide +kernel
  rw [← hh, ← ho]
  refine V.aload_n (j := 0) dX9_init_0 rfl rfl rfl ?_
  refine V.objInit wq_m_X9_1 wq_i_objectInit wq_cobj (Nat.le_of_ble_eq_true rfl) (Nat.le_of_ble_eq_true rfl) dX9_init_1 rfl ?_
  refine V.aload_n (j := 0) dX9_init_4 rfl rfl rfl ?_
  refine V.sipush (v := 304) dX9_init_5 rfl (by decide +kernel) ?_
  refine K.newa (at1 := .int) (ty := .int) (N := 304) hF (show h.1 = o + 1 by omega) (by decide) rfl (ly_X9_1 hk).1 (ly_X9_1 hk).2 (by decide) (by decide +kernel) (by decide) wq_ac_int (Nat.le_of_ble_eq_true rfl) (Nat.le_of_ble_eq_true rfl) dX9_init_8 rfl ?_
  refine K.putP (x := (o + 1)) fl_X9_7 hk (show o < h.1 + 1 by omega) rfl rfl rfl rfl rfl dX9_init_10 rfl ?_
  refine V.aload_n (j := 0) dX9_init_13 rfl rfl rfl ?_
  refine V.sipush (v := 608) dX9_init_14 rfl (by decide +kernel) ?_
  refine K.newa (at1 := .int) (ty := .int) (N := 608) (Fre_pP (Fre_nC hF) (show o < h.1 + 1 by omega)) (show h.1 + 1 = o + 2 by omega) (by decide) rfl (ly_X9_2 hk).1 (ly_X9_2 hk).2 (by decide) (by decide +kernel) (by decide) wq_ac_int (Nat.le_of_ble_eq_true rfl) (Nat.le_of_ble_eq_true rfl) dX9_init_17 rfl ?_
  refine K.putP (x := (o + 2)) fl_X9_13 hk (show o < h.1 + 2 by omega) rfl rfl rfl rfl rfl dX9_init_19 rfl ?_
  refine V.aload_n (j := 0) dX9_init_22 rfl rfl rfl ?_
  refine V.iconst dX9_init_23 rfl ki_2 ?_
  refine K.newa (at1 := .boolean) (ty := .boolean) (N := 2) (Fre_pP (Fre_nC (Fre_pP (Fre_nC hF) (show o < h.1 + 1 by omega))) (show o < h.1 + 2 by omega)) (show h.1 + 2 = o + 3 by omega) (by decide) rfl (ly_X9_3 hk).1 (ly_X9_3 hk).2 (by decide) (by decide +kernel) (by decide) wq_ac_boolean (Nat.le_of_ble_eq_true rfl) (Nat.le_of_ble_eq_true rfl) dX9_init_24 rfl ?_
  refine K.putP (x := (o + 3)) fl_X9_16 hk (show o < h.1 + 3 by omega) rfl rfl rfl rfl rfl dX9_init_26 rfl ?_
  refine V.aload_n (j := 0) dX9_init_29 rfl rfl rfl ?_
  refine V.iconst dX9_init_30 rfl ki_3 ?_
  refine K.newa (at1 := .int) (ty := .int) (N := 3) (Fre_pP (Fre_nC (Fre_pP (Fre_nC (Fre_pP (Fre_nC hF) (show o < h.1 + 1 by omega))) (show o < h.1 + 2 by omega))) (show o < h.1 + 3 by omega)) (show h.1 + 3 = o + 4 by omega) (by decide) rfl (ly_X9_4 hk).1 (ly_X9_4 hk).2 (by decide) (by decide +kernel) (by decide) wq_ac_int (Nat.le_of_ble_eq_true rfl) (Nat.le_of_ble_eq_true rfl) dX9_init_31 rfl ?_
  refine K.putP (x := (o + 4)) fl_X9_20 hk (show o < h.1 + 4 by omega) rfl rfl rfl rfl rfl dX9_init_33 rfl ?_
  refine V.aload_n (j := 0) dX9_init_36 rfl rfl rfl ?_
  refine V.lconst dX9_init_37 rfl kl_1 ?_
  refine K.putJ fl_X9_23 hk (show o < h.1 + 4 by omega) rfl rfl dX9_init_38 rfl ?_
  refine V.aload_n (j := 0) dX9_init_41 rfl rfl rfl ?_
  refine V.bipush (v := 46) dX9_init_42 rfl (by decide +kernel) ?_
  refine K.newa (at1 := .int) (ty := .int) (N := 46) (Fre_jJ (Fre_pP (Fre_nC (Fre_pP (Fre_nC (Fre_pP (Fre_nC (Fre_pP (Fre_nC hF) (show o < h.1 + 1 by omega))) (show o < h.1 + 2 by omega))) (show o < h.1 + 3 by omega))) (show o < h.1 + 4 by omega)) (show o < h.1 + 4 by omega)) (show h.1 + 4 = o + 5 by omega) (by decide) rfl (ly_X9_5 hk).1 (ly_X9_5 hk).2 (by decide) (by decide +kernel) (by decide) wq_ac_int (Nat.le_of_ble_eq_true rfl) (Nat.le_of_ble_eq_true rfl) dX9_init_44 rfl ?_
  refine K.putP (x := (o + 5)) fl_X9_27 hk (show o < h.1 + 5 by omega) rfl rfl rfl rfl rfl dX9_init_46 rfl ?_
  refine V.aload_n (j := 0) dX9_init_49 rfl rfl rfl ?_
  refine V.iconst dX9_init_50 rfl ki_4 ?_
  refine K.newa (at1 := .int) (ty := .int) (N := 4) (Fre_pP (Fre_nC (Fre_jJ (Fre_pP (Fre_nC (Fre_pP (Fre_nC (Fre_pP (Fre_nC (Fre_pP (Fre_nC hF) (show o < h.1 + 1 by omega))) (show o < h.1 + 2 by omega))) (show o < h.1 + 3 by omega))) (show o < h.1 + 4 by omega)) (show o < h.1 + 4 by omega))) (show o < h.1 + 5 by omega)) (show h.1 + 5 = o + 6 by omega) (by decide) rfl (ly_X9_6 hk).1 (ly_X9_6 hk).2 (by decide) (by decide +kernel) (by decide) wq_ac_int (Nat.le_of_ble_eq_true rfl) (Nat.le_of_ble_eq_true rfl) dX9_init_51 rfl ?_
  refine K.putP (x := (o + 6)) fl_X9_30 hk (show o < h.1 + 6 by omega) rfl rfl rfl rfl rfl dX9_init_53 rfl ?_
  refine V.aload_n (j := 0) dX9_init_56 rfl rfl rfl ?_
  refine V.bipush (v := 96) dX9_init_57 rfl (by decide +kernel) ?_
  refine K.newa (at1 := .boolean) (ty := .boolean) (N := 96) (Fre_pP (Fre_nC (Fre_pP (Fre_nC (Fre_jJ (Fre_pP (Fre_nC (Fre_pP (Fre_nC (Fre_pP (Fre_nC (Fre_pP (Fre_nC hF) (show o < h.1 + 1 by omega))) (show o < h.1 + 2 by omega))) (show o < h.1 + 3 by omega))) (show o < h.1 + 4 by omega)) (show o < h.1 + 4 by omega))) (show o < h.1 + 5 by omega))) (show o < h.1 + 6 by omega)) (show h.1 + 6 = o + 7 by omega) (by decide) rfl (ly_X9_7 hk).1 (ly_X9_7 hk).2 (by decide) (by decide +kernel) (by decide) wq_ac_boolean (Nat.le_of_ble_eq_true rfl) (Nat.le_of_ble_eq_true rfl) dX9_init_59 rfl ?_
  refine K.putP (x := (o + 7)) fl_X9_33 hk (show o < h.1 + 7 by omega) rfl rfl rfl rfl rfl dX9_init_61 rfl ?_
  refine V.aload_n (j := 0) dX9_init_64 rfl rfl rfl ?_
  refine V.iconst dX9_init_65 rfl ki_4 ?_
  refine K.newa (at1 := .int) (ty := .int) (N := 4) (Fre_pP (Fre_nC (Fre_pP (Fre_nC (Fre_pP (Fre_nC (Fre_jJ (Fre_pP (Fre_nC (Fre_pP (Fre_nC (Fre_pP (Fre_nC (Fre_pP (Fre_nC hF) (show o < h.1 + 1 by omega))) (show o < h.1 + 2 by omega))) (show o < h.1 + 3 by omega))) (show o < h.1 + 4 by omega)) (show o < h.1 + 4 by omega))) (show o < h.1 + 5 by omega))) (show o < h.1 + 6 by omega))) (show o < h.1 + 7 by omega)) (show h.1 + 7 = o + 8 by omega) (by decide) rfl (ly_X9_8 hk).1 (ly_X9_8 hk).2 (by decide) (by decide +kernel) (by decide) wq_ac_int (Nat.le_of_ble_eq_true rfl) (Nat.le_of_ble_eq_true rfl) dX9_init_66 rfl ?_
  refine K.putP (x := (o + 8)) fl_X9_36 hk (show o < h.1 + 8 by omega) rfl rfl rfl rfl rfl dX9_init_68 rfl ?_
  refine V.aload_n (j := 0) dX9_init_71 rfl rfl rfl ?_
  refine V.iconst dX9_init_72 rfl ki_4 ?_
  refine K.newa (at1 := .int) (ty := .int) (N := 4) (Fre_pP (Fre_nC (Fre_pP (Fre_nC (Fre_pP (Fre_nC (Fre_pP (Fre_nC (Fre_jJ (Fre_pP (Fre_nC (Fre_pP (Fre_nC (Fre_pP (Fre_nC (Fre_pP (Fre_nC hF) (show o < h.1 + 1 by omega))) (show o < h.1 + 2 by omega))) (show o < h.1 + 3 by omega))) (show o < h.1 + 4 by omega)) (show o < h.1 + 4 by omega))) (show o < h.1 + 5 by omega))) (show o < h.1 + 6 by omega))) (show o < h.1 + 7 by omega))) (show o < h.1 + 8 by omega)) (show h.1 + 8 = o + 9 by omega) (by decide) rfl (ly_X9_9 hk).1 (ly_X9_9 hk).2 (by decide) (by decide +kernel) (by decide) wq_ac_int (Nat.le_of_ble_eq_true rfl) (Nat.le_of_ble_eq_true rfl) dX9_init_73 rfl ?_
  refine K.putP (x := (o + 9)) fl_X9_39 hk (show o < h.1 + 9 by omega) rfl rfl rfl rfl rfl dX9_init_75 rfl ?_
  refine V.aload_n (j := 0) dX9_init_78 rfl rfl rfl ?_
  refine V.sipush (v := 150) dX9_init_79 rfl (by decide +kernel) ?_
  refine K.newa (at1 := .int) (ty := .int) (N := 150) (Fre_pP (Fre_nC (Fre_pP (Fre_nC (Fre_pP (Fre_nC (Fre_pP (Fre_nC (Fre_pP (Fre_nC (Fre_jJ (Fre_pP (Fre_nC (Fre_pP (Fre_nC (Fre_pP (Fre_nC (Fre_pP (Fre_nC hF) (show o < h.1 + 1 by omega))) (show o < h.1 + 2 by omega))) (show o < h.1 + 3 by omega))) (show o < h.1 + 4 by omega)) (show o < h.1 + 4 by omega))) (show o < h.1 + 5 by omega))) (show o < h.1 + 6 by omega))) (show o < h.1 + 7 by omega))) (show o < h.1 + 8 by omega))) (show o < h.1 + 9 by omega)) (show h.1 + 9 = o + 10 by omega) (by decide) rfl (ly_X9_10 hk).1 (ly_X9_10 hk).2 (by decide) (by decide +kernel) (by decide) wq_ac_int (Nat.le_of_ble_eq_true rfl) (Nat.le_of_ble_eq_true rfl) dX9_init_82 rfl ?_
  refine K.putP (x := (o + 10)) fl_X9_42 hk (show o < h.1 + 10 by omega) rfl rfl rfl rfl rfl dX9_init_84 rfl ?_
  refine V.aload_n (j := 0) dX9_init_87 rfl rfl rfl ?_
  refine V.bipush (v := 112) dX9_init_88 rfl (by decide +kernel) ?_
  refine K.newa (at1 := .int) (ty := .int) (N := 112) (Fre_pP (Fre_nC (Fre_pP (Fre_nC (Fre_pP (Fre_nC (Fre_pP (Fre_nC (Fre_pP (Fre_nC (Fre_pP (Fre_nC (Fre_jJ (Fre_pP (Fre_nC (Fre_pP (Fre_nC (Fre_pP (Fre_nC (Fre_pP (Fre_nC hF) (show o < h.1 + 1 by omega))) (show o < h.1 + 2 by omega))) (show o < h.1 + 3 by omega))) (show o < h.1 + 4 by omega)) (show o < h.1 + 4 by omega))) (show o < h.1 + 5 by omega))) (show o < h.1 + 6 by omega))) (show o < h.1 + 7 by omega))) (show o < h.1 + 8 by omega))) (show o < h.1 + 9 by omega))) (show o < h.1 + 10 by omega)) (show h.1 + 10 = o + 11 by omega) (by decide) rfl (ly_X9_11 hk).1 (ly_X9_11 hk).2 (by decide) (by decide +kernel) (by decide) wq_ac_int (Nat.le_of_ble_eq_true rfl) (Nat.le_of_ble_eq_true rfl) dX9_init_90 rfl ?_
  refine K.putP (x := (o + 11)) fl_X9_45 hk (show o < h.1 + 11 by omega) rfl rfl rfl rfl rfl dX9_init_92 rfl ?_
  refine V.aload_n (j := 0) dX9_init_95 rfl rfl rfl ?_
  refine V.iconst dX9_init_96 rfl ki_3 ?_
  refine K.newa (at1 := .int) (ty := .int) (N := 3) (Fre_pP (Fre_nC (Fre_pP (Fre_nC (Fre_pP (Fre_nC (Fre_pP (Fre_nC (Fre_pP (Fre_nC (Fre_pP (Fre_nC (Fre_pP (Fre_nC (Fre_jJ (Fre_pP (Fre_nC (Fre_pP (Fre_nC (Fre_pP (Fre_nC (Fre_pP (Fre_nC hF) (show o < h.1 + 1 by omega))) (show o < h.1 + 2 by omega))) (show o < h.1 + 3 by omega))) (show o < h.1 + 4 by omega)) (show o < h.1 + 4 by omega))) (show o < h.1 + 5 by omega))) (show o < h.1 + 6 by omega))) (show o < h.1 + 7 by omega))) (show o < h.1 + 8 by omega))) (show o < h.1 + 9 by omega))) (show o < h.1 + 10 by omega))) (show o < h.1 + 11 by omega)) (show h.1 + 11 = o + 12 by omega) (by decide) rfl (ly_X9_12 hk).1 (ly_X9_12 hk).2 (by decide) (by decide +kernel) (by decide) wq_ac_int (Nat.le_of_ble_eq_true rfl) (Nat.le_of_ble_eq_true rfl) dX9_init_97 rfl ?_
  refine K.putP (x := (o + 12)) fl_X9_48 hk (show o < h.1 + 12 by omega) rfl rfl rfl rfl rfl dX9_init_99 rfl ?_
  refine V.aload_n (j := 0) dX9_init_102 rfl rfl rfl ?_
  refine V.getP (x := (o + 1)) fl_X9_7 hk (show o < h.1 + 12 by omega) (by rw [pP_ne (by omega), nC_at, pP_ne (by omega), nC_at, pP_ne (by omega), nC_at, pP_ne (by omega), nC_at, pP_ne (by omega), nC_at, pP_ne (by omega), nC_at, pP_ne (by omega), nC_at, pP_ne (by omega), nC_at, jJ_at, pP_ne (by omega), nC_at, pP_ne (by omega), nC_at, pP_ne (by omega), nC_at, pP_eq]) dX9_init_103 rfl ?_
  refine V.cong (h' := up h0) (fun H hP => F2_up ?_) ?_
  · rw [hh, ho] at hP
    exact hP
  · have e263 : o + 1 = 263 := by rw [ho]
    rw [e263]
    refine V.callS (As := [.ref (G.1 + 263)]) (rest := []) hE.1 mic_X9_begin rfl (mX9_begin hE (by decide +kernel) hbg) wq_m_X9_51 wq_t_yX9_begin ⟨Nat.le_of_ble_eq_true rfl, Nat.le_of_ble_eq_true rfl⟩ (Nat.le_of_ble_eq_true rfl) ⟨Nat.le_of_ble_eq_true rfl, Nat.le_of_ble_eq_true rfl⟩ dX9_init_106 rfl rfl ?_
    rintro _ _ ⟨rfl, rfl⟩
    exact V.ret0 rfl (Nat.le_of_ble_eq_true rfl) (Nat.le_of_ble_eq_true rfl) dX9_init_109 ⟨rfl, rfl⟩
