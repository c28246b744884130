set_option maxRecDepth 100000 in
set_option maxHeartbeats 4000000 in
theorem mX2_makeEmpty {l : Launch} {G : GG} {EX : State → Prop} (hE : EXB G EX) {th : Nat} {h : AH} (t0 : KD th = 1) {r : AH} (hx : fX2_makeEmpty th h = some r) : MetU l G EX mi_X2_makeEmpty 0 0 [.ref (G.1 + th)] h none r := by
  refine MetU.of mic_X2_makeEmpty.1 (Nat.le_of_ble_eq_true rfl) ?_
  refine show U l G EX mi_X2_makeEmpty 0 0 none r 0 [(0, .ref (G.1 + th))] [] h from ?_
  unfold fX2_makeEmpty at hx
  refine V.aload_n (j := 0) dX2_makeEmpty_0 rfl rfl rfl ?_
  refine V.iconst dX2_makeEmpty_1 rfl ki_0 ?_
  refine U.putI hx fl_X2_33 t0 rfl rfl dX2_makeEmpty_2 rfl (fun h1 hx => ?_)
  refine V.aload_n (j := 0) dX2_makeEmpty_5 rfl rfl rfl ?_
  refine V.iconst dX2_makeEmpty_6 rfl ki_0 ?_
  refine U.putI hx fl_X2_37 t0 rfl rfl dX2_makeEmpty_7 rfl (fun h2 hx => ?_)
  refine V.aload_n (j := 0) dX2_makeEmpty_10 rfl rfl rfl ?_
  refine V.iconst dX2_makeEmpty_11 rfl ki_0 ?_
  refine U.putI hx fl_X2_40 t0 rfl rfl dX2_makeEmpty_12 rfl (fun h3 hx => ?_)
  refine V.aload_n (j := 0) dX2_makeEmpty_15 rfl rfl rfl ?_
  refine V.iconst dX2_makeEmpty_16 rfl ki_0 ?_
  refine U.putI hx fl_X2_43 t0 rfl rfl dX2_makeEmpty_17 rfl (fun h4 hx => ?_)
  obtain rfl := Option.some.inj hx
  exact U.ret0 rfl rfl rfl dX2_makeEmpty_20
set_option maxRecDepth 100000 in
set_option maxHeartbeats 4000000 in
theorem mX0_makeEmpty {l : Launch} {G : GG} {EX : State → Prop} (hE : EXB G EX) {th : Nat} {h : AH} (t0 : KD th = 0) {r : AH} (hx : fX0_makeEmpty th h = some r) : MetU l G EX mi_X0_makeEmpty 1 20 [.ref (G.1 + th)] h none r := by
  refine MetU.of mic_X0_makeEmpty.1 (Nat.le_of_ble_eq_true rfl) ?_
  refine show U l G EX mi_X0_makeEmpty 1 20 none r 0 [(0, .ref (G.1 + th))] [] h from ?_
  unfold fX0_makeEmpty at hx
  refine V.aload_n (j := 0) dX0_makeEmpty_0 rfl rfl rfl ?_
  refine U.getP fl_X0_10 t0 dX0_makeEmpty_1 rfl ?_
  obtain ⟨h2, q1, hx⟩ := ob_some hx
  refine U.callV (As := []) (rest := []) (st' := []) hE.1 (mX2_makeEmpty hE (ty_X0_0 t0) q1) mic_X2_makeEmpty rfl (ty_X0_0 t0) (by decide) rfl rfl wq_m_X0_36 wq_i_yX2_makeEmpty wq_s_yX2_makeEmpty ⟨Nat.le_of_ble_eq_true rfl, Nat.le_of_ble_eq_true rfl⟩ (Nat.le_of_ble_eq_true rfl) dX0_makeEmpty_4 rfl rfl rfl ?_
  refine V.aload_n (j := 0) dX0_makeEmpty_7 rfl rfl rfl ?_
  refine U.getP fl_X0_19 t0 dX0_makeEmpty_8 rfl ?_
  refine V.iconst dX0_makeEmpty_11 rfl ki_0 ?_
  refine U.putI hx fl_X0_39 (ty_X0_1 t0) rfl rfl dX0_makeEmpty_12 rfl (fun h3 hx => ?_)
  refine V.aload_n (j := 0) dX0_makeEmpty_15 rfl rfl rfl ?_
  refine U.getP fl_X0_26 t0 dX0_makeEmpty_16 rfl ?_
  refine V.iconst dX0_makeEmpty_19 rfl ki_0 ?_
  refine U.putI hx fl_X0_43 (ty_X0_2 t0) rfl rfl dX0_makeEmpty_20 rfl (fun h4 hx => ?_)
  refine V.aload_n (j := 0) dX0_makeEmpty_23 rfl rfl rfl ?_
  refine U.getP fl_X0_30 t0 dX0_makeEmpty_24 rfl ?_
  refine V.iconst dX0_makeEmpty_27 rfl ki_0 ?_
  refine U.putI hx fl_X0_43 (ty_X0_3 t0) rfl rfl dX0_makeEmpty_28 rfl (fun h5 hx => ?_)
  refine V.aload_n (j := 0) dX0_makeEmpty_31 rfl rfl rfl ?_
  refine U.getP fl_X0_33 t0 dX0_makeEmpty_32 rfl ?_
  refine V.iconst dX0_makeEmpty_35 rfl ki_0 ?_
  refine U.putI hx fl_X0_43 (ty_X0_4 t0) rfl rfl dX0_makeEmpty_36 rfl (fun h6 hx => ?_)
  obtain rfl := Option.some.inj hx
  exact U.ret0 rfl rfl rfl dX0_makeEmpty_39
set_option maxRecDepth 100000 in
set_option maxHeartbeats 4000000 in
theorem mX8_land {l : Launch} {G : GG} {EX : State → Prop} (hE : EXB G EX) {th : Nat} {h : AH} (t0 : KD th = 7) {r : Int32 × AH} (hx : fX8_land th h = some r) : MetU l G EX mi_X8_land 2 40 [.ref (G.1 + th)] h (some (.int r.1)) r.2 := by
  refine MetU.of mic_X8_land.1 (Nat.le_of_ble_eq_true rfl) ?_
  refine show U l G EX mi_X8_land 2 40 (some (.int r.1)) r.2 0 [(0, .ref (G.1 + th))] [] h from ?_
  unfold fX8_land at hx
  refine V.aload_n (j := 0) dX8_land_0 rfl rfl rfl ?_
  refine U.getP fl_X8_10 t0 dX8_land_1 rfl ?_
  refine U.getP fl_X8_60 (ty_X8_0 t0) dX8_land_4 rfl ?_
  refine U.getI fl_X8_63 (ty_X0_0 (ty_X8_0 t0)) dX8_land_7 rfl ?_
  refine U.letI hx (fun v1 hx => ?_)
  refine V.istore_n [(1, .int v1), (0, .ref (G.1 + th))] dX8_land_10 rfl rfl (Nat.le_of_ble_eq_true rfl) rfl ?_
  refine V.aload_n (j := 1) dX8_land_11 rfl rfl rfl ?_
  refine U.getP fl_X8_10 t0 dX8_land_12 rfl ?_
  obtain ⟨h3, q2, hx⟩ := ob_some hx
  refine U.callV (As := []) (rest := []) (st' := []) hE.1 (mX0_makeEmpty hE (ty_X8_0 t0) q2) mic_X0_makeEmpty rfl (ty_X8_0 t0) (by decide) rfl rfl wq_m_X8_67 wq_i_yX0_makeEmpty wq_s_yX0_makeEmpty ⟨Nat.le_of_ble_eq_true rfl, Nat.le_of_ble_eq_true rfl⟩ (Nat.le_of_ble_eq_true rfl) dX8_land_15 rfl rfl rfl ?_
  refine V.iload_n (j := 0) dX8_land_18 rfl rfl rfl ?_
  obtain rfl := Option.some.inj hx
  exact U.retI rfl rfl rfl rfl dX8_land_19
set_option maxRecDepth 100000 in
set_option maxHeartbeats 4000000 in
theorem mX8_within {l : Launch} {G : GG} {EX : State → Prop} (hE : EXB G EX) {a0 : Int32} {a1 : Int32} {a2 : Int32} {h : AH} {r : Int32} (hx : fX8_within a0 a1 a2 = some r) : MetU l G EX mi_X8_within 0 0 [.int a0, .int a1, .int a2] h (some (.int r)) h := by
  refine MetU.of mic_X8_within.1 (Nat.le_of_ble_eq_true rfl) ?_
  refine show U l G EX mi_X8_within 0 0 (some (.int r)) h 0 [(0, .int a0), (1, .int a1), (2, .int a2)] [] h from ?_
  unfold fX8_within at hx
  refine V.iload_n (j := 0) dX8_within_0 rfl rfl rfl ?_
  refine V.iload_n (j := 1) dX8_within_1 rfl rfl rfl ?_
  refine V.icmp_lt (tgt := 14) hx dX8_within_2 (by decide) rfl (fun hx => ?_) (fun hx => ?_)
  · refine V.iconst dX8_within_14 rfl ki_0 ?_
    obtain rfl := Option.some.inj hx
    exact U.retI rfl rfl rfl rfl dX8_within_15
  · refine V.iload_n (j := 0) dX8_within_5 rfl rfl rfl ?_
    refine V.iload_n (j := 2) dX8_within_6 rfl rfl rfl ?_
    refine V.icmp_gt (tgt := 14) hx dX8_within_7 (by decide) rfl (fun hx => ?_) (fun hx => ?_)
    · refine V.iconst dX8_within_14 rfl ki_0 ?_
      obtain rfl := Option.some.inj hx
      exact U.retI rfl rfl rfl rfl dX8_within_15
    · refine V.iconst dX8_within_10 rfl ki_1 ?_
      refine V.goto (q := 15) dX8_within_11 (by decide) ?_
      obtain rfl := Option.some.inj hx
      exact U.retI rfl rfl rfl rfl dX8_within_15
set_option maxRecDepth 100000 in
set_option maxHeartbeats 4000000 in
theorem mX8_isKind {l : Launch} {G : GG} {EX : State → Prop} (hE : EXB G EX) {a0 : Int32} {h : AH} {r : Int32} (hx : fX8_isKind a0 = some r) : MetU l G EX mi_X8_isKind 1 22 [.int a0] h (some (.int r)) h := by
  refine MetU.of mic_X8_isKind.1 (Nat.le_of_ble_eq_true rfl) ?_
  refine show U l G EX mi_X8_isKind 1 22 (some (.int r)) h 0 [(0, .int a0)] [] h from ?_
  unfold fX8_isKind at hx
  refine V.iload_n (j := 0) dX8_isKind_0 rfl rfl rfl ?_
  refine V.iconst dX8_isKind_1 rfl ki_0 ?_
  refine V.iconst dX8_isKind_2 rfl ki_5 ?_
  obtain ⟨v2, q1, hx⟩ := ob_some hx
  refine U.callS (As := [.int a0, .int (0 : Int32), .int (5 : Int32)]) (rest := []) (st' := [.int v2]) hE.1 (mX8_within hE q1) mic_X8_within rfl wq_m_X8_104 wq_t_yX8_within ⟨Nat.le_of_ble_eq_true rfl, Nat.le_of_ble_eq_true rfl⟩ (Nat.le_of_ble_eq_true rfl) dX8_isKind_3 rfl rfl rfl ?_
  obtain ⟨g3, hx⟩ := oG_some hx
  obtain rfl := Option.some.inj hx
  exact U.retI rfl rfl rfl (isB_nar g3) dX8_isKind_6
set_option maxRecDepth 100000 in
set_option maxHeartbeats 4000000 in
theorem mX8_isCell {l : Launch} {G : GG} {EX : State → Prop} (hE : EXB G EX) {a0 : Int32} {h : AH} {r : Int32} (hx : fX8_isCell a0 = some r) : MetU l G EX mi_X8_isCell 1 22 [.int a0] h (some (.int r)) h := by
  refine MetU.of mic_X8_isCell.1 (Nat.le_of_ble_eq_true rfl) ?_
  refine show U l G EX mi_X8_isCell 1 22 (some (.int r)) h 0 [(0, .int a0)] [] h from ?_
  unfold fX8_isCell at hx
  refine V.iload_n (j := 0) dX8_isCell_0 rfl rfl rfl ?_
  refine V.iconst dX8_isCell_1 rfl ki_0 ?_
  refine V.bipush dX8_isCell_2 rfl kb_29 ?_
  obtain ⟨v2, q1, hx⟩ := ob_some hx
  refine U.callS (As := [.int a0, .int (0 : Int32), .int (29 : Int32)]) (rest := []) (st' := [.int v2]) hE.1 (mX8_within hE q1) mic_X8_within rfl wq_m_X8_104 wq_t_yX8_within ⟨Nat.le_of_ble_eq_true rfl, Nat.le_of_ble_eq_true rfl⟩ (Nat.le_of_ble_eq_true rfl) dX8_isCell_4 rfl rfl rfl ?_
  obtain ⟨g3, hx⟩ := oG_some hx
  obtain rfl := Option.some.inj hx
  exact U.retI rfl rfl rfl (isB_nar g3) dX8_isCell_7
set_option maxRecDepth 100000 in
set_option maxHeartbeats 4000000 in
theorem mX8_isLoud {l : Launch} {G : GG} {EX : State → Prop} (hE : EXB G EX) {a0 : Int32} {h : AH} {r : Int32} (hx : fX8_isLoud a0 = some r) : MetU l G EX mi_X8_isLoud 1 22 [.int a0] h (some (.int r)) h := by
  refine MetU.of mic_X8_isLoud.1 (Nat.le_of_ble_eq_true rfl) ?_
  refine show U l G EX mi_X8_isLoud 1 22 (some (.int r)) h 0 [(0, .int a0)] [] h from ?_
  unfold fX8_isLoud at hx
  refine V.iload_n (j := 0) dX8_isLoud_0 rfl rfl rfl ?_
  refine V.iconst dX8_isLoud_1 rfl ki_1 ?_
  refine V.bipush dX8_isLoud_2 rfl kb_9 ?_
  obtain ⟨v2, q1, hx⟩ := ob_some hx
  refine U.callS (As := [.int a0, .int (1 : Int32), .int (9 : Int32)]) (rest := []) (st' := [.int v2]) hE.1 (mX8_within hE q1) mic_X8_within rfl wq_m_X8_104 wq_t_yX8_within ⟨Nat.le_of_ble_eq_true rfl, Nat.le_of_ble_eq_true rfl⟩ (Nat.le_of_ble_eq_true rfl) dX8_isLoud_4 rfl rfl rfl ?_
  obtain ⟨g3, hx⟩ := oG_some hx
  obtain rfl := Option.some.inj hx
  exact U.retI rfl rfl rfl (isB_nar g3) dX8_isLoud_7
set_option maxRecDepth 100000 in
set_option maxHeartbeats 4000000 in
theorem mX8_refuse {l : Launch} {G : GG} {EX : State → Prop} (hE : EXB G EX) {th : Nat} {a1 : Int32} {h : AH} (t0 : KD th = 7) {r : Int32 × AH} (hx : fX8_refuse th a1 h = some r) : MetU l G EX mi_X8_refuse 0 0 [.ref (G.1 + th), .int a1] h (some (.int r.1)) r.2 := by
  refine MetU.of mic_X8_refuse.1 (Nat.le_of_ble_eq_true rfl) ?_
  refine show U l G EX mi_X8_refuse 0 0 (some (.int r.1)) r.2 0 [(0, .ref (G.1 + th)), (1, .int a1)] [] h from ?_
  unfold fX8_refuse at hx
  refine V.iload_n (j := 1) dX8_refuse_0 rfl rfl rfl ?_
  refine V.bipush dX8_refuse_1 rfl kb_m2 ?_
  refine V.icmp_ne (tgt := 19) hx dX8_refuse_3 (by decide) rfl (fun hx => ?_) (fun hx => ?_)
  · refine V.iload_n (j := 1) dX8_refuse_19 rfl rfl rfl ?_
    refine V.bipush dX8_refuse_20 rfl kb_m3 ?_
    refine V.icmp_ne (tgt := 38) hx dX8_refuse_22 (by decide) rfl (fun hx => ?_) (fun hx => ?_)
    · refine V.aload_n (j := 0) dX8_refuse_38 rfl rfl rfl ?_
      refine V.dup dX8_refuse_39 rfl rfl ?_
      refine U.getI fl_X8_318 t0 dX8_refuse_40 rfl ?_
      refine V.iconst dX8_refuse_43 rfl ki_1 ?_
      refine V.iadd dX8_refuse_44 rfl ?_
      refine U.putI hx fl_X8_318 t0 rfl rfl dX8_refuse_45 rfl (fun h1 hx => ?_)
      refine V.iload_n (j := 1) dX8_refuse_48 rfl rfl rfl ?_
      obtain rfl := Option.some.inj hx
      exact U.retI rfl rfl rfl rfl dX8_refuse_49
    · refine V.aload_n (j := 0) dX8_refuse_25 rfl rfl rfl ?_
      refine V.dup dX8_refuse_26 rfl rfl ?_
      refine U.getI fl_X8_315 t0 dX8_refuse_27 rfl ?_
      refine V.iconst dX8_refuse_30 rfl ki_1 ?_
      refine V.iadd dX8_refuse_31 rfl ?_
      refine U.putI hx fl_X8_315 t0 rfl rfl dX8_refuse_32 rfl (fun h2 hx => ?_)
      refine V.goto (q := 48) dX8_refuse_35 (by decide) ?_
      refine V.iload_n (j := 1) dX8_refuse_48 rfl rfl rfl ?_
      obtain rfl := Option.some.inj hx
      exact U.retI rfl rfl rfl rfl dX8_refuse_49
  · refine V.aload_n (j := 0) dX8_refuse_6 rfl rfl rfl ?_
    refine V.dup dX8_refuse_7 rfl rfl ?_
    refine U.getI fl_X8_312 t0 dX8_refuse_8 rfl ?_
    refine V.iconst dX8_refuse_11 rfl ki_1 ?_
    refine V.iadd dX8_refuse_12 rfl ?_
    refine U.putI hx fl_X8_312 t0 rfl rfl dX8_refuse_13 rfl (fun h3 hx => ?_)
    refine V.goto (q := 48) dX8_refuse_16 (by decide) ?_
    refine V.iload_n (j := 1) dX8_refuse_48 rfl rfl rfl ?_
    obtain rfl := Option.some.inj hx
    exact U.retI rfl rfl rfl rfl dX8_refuse_49
set_option maxRecDepth 100000 in
set_option maxHeartbeats 4000000 in
theorem mX2_addShow {l : Launch} {G : GG} {EX : State → Prop} (hE : EXB G EX) {th : Nat} {a1 : Int32} {a2 : Int32} {a3 : Int32} {h : AH} (t0 : KD th = 1) {r : Int32 × AH} (hx : fX2_addShow th a1 a2 a3 h = some r) : MetU l G EX mi_X2_addShow 0 0 [.ref (G.1 + th), .int a1, .int a2, .int a3] h (some (.int r.1)) r.2 := by
  refine MetU.of mic_X2_addShow.1 (Nat.le_of_ble_eq_true rfl) ?_
  refine show U l G EX mi_X2_addShow 0 0 (some (.int r.1)) r.2 0 [(0, .ref (G.1 + th)), (1, .int a1), (2, .int a2), (3, .int a3)] [] h from ?_
  unfold fX2_addShow at hx
  refine V.aload_n (j := 0) dX2_addShow_0 rfl rfl rfl ?_
  refine U.getI fl_X2_40 t0 dX2_addShow_1 rfl ?_
  refine V.iconst dX2_addShow_4 rfl ki_5 ?_
  refine V.icmp_lt (tgt := 10) hx dX2_addShow_5 (by decide) rfl (fun hx => ?_) (fun hx => ?_)
  · refine V.aload_n (j := 0) dX2_addShow_10 rfl rfl rfl ?_
    refine U.getP fl_X2_9 t0 dX2_addShow_11 rfl ?_
    refine V.aload_n (j := 0) dX2_addShow_14 rfl rfl rfl ?_
    refine U.getI fl_X2_40 t0 dX2_addShow_15 rfl ?_
    refine V.iload_n (j := 1) dX2_addShow_18 rfl rfl rfl ?_
    refine U.iast hx (ty_X2_4 t0) dX2_addShow_19 rfl (fun h1 hx => ?_)
    refine V.aload_n (j := 0) dX2_addShow_20 rfl rfl rfl ?_
    refine U.getP fl_X2_15 t0 dX2_addShow_21 rfl ?_
    refine V.aload_n (j := 0) dX2_addShow_24 rfl rfl rfl ?_
    refine U.getI fl_X2_40 t0 dX2_addShow_25 rfl ?_
    refine V.iload_n (j := 2) dX2_addShow_28 rfl rfl rfl ?_
    refine U.iast hx (ty_X2_5 t0) dX2_addShow_29 rfl (fun h2 hx => ?_)
    refine V.aload_n (j := 0) dX2_addShow_30 rfl rfl rfl ?_
    refine U.getP fl_X2_18 t0 dX2_addShow_31 rfl ?_
    refine V.aload_n (j := 0) dX2_addShow_34 rfl rfl rfl ?_
    refine U.getI fl_X2_40 t0 dX2_addShow_35 rfl ?_
    refine V.iload_n (j := 3) dX2_addShow_38 rfl rfl rfl ?_
    refine U.iast hx (ty_X2_6 t0) dX2_addShow_39 rfl (fun h3 hx => ?_)
    refine V.aload_n (j := 0) dX2_addShow_40 rfl rfl rfl ?_
    refine U.getP fl_X2_21 t0 dX2_addShow_41 rfl ?_
    refine V.aload_n (j := 0) dX2_addShow_44 rfl rfl rfl ?_
    refine U.getI fl_X2_40 t0 dX2_addShow_45 rfl ?_
    refine V.iconst dX2_addShow_48 rfl ki_1 ?_
    refine U.iast hx (ty_X2_7 t0) dX2_addShow_49 rfl (fun h4 hx => ?_)
    refine V.aload_n (j := 0) dX2_addShow_50 rfl rfl rfl ?_
    refine V.dup dX2_addShow_51 rfl rfl ?_
    refine U.getI fl_X2_40 t0 dX2_addShow_52 rfl ?_
    refine V.dup_x1 dX2_addShow_55 rfl rfl rfl ?_
    refine V.iconst dX2_addShow_56 rfl ki_1 ?_
    refine V.iadd dX2_addShow_57 rfl ?_
    refine U.putI hx fl_X2_40 t0 rfl rfl dX2_addShow_58 rfl (fun h5 hx => ?_)
    obtain rfl := Option.some.inj hx
    exact U.retI rfl rfl rfl rfl dX2_addShow_61
  · refine V.iconst dX2_addShow_8 rfl ki_m1 ?_
    obtain rfl := Option.some.inj hx
    exact U.retI rfl rfl rfl rfl dX2_addShow_9
set_option maxRecDepth 100000 in
set_option maxHeartbeats 4000000 in
theorem vX8_show_21 {l : Launch} {G : GG} {EX : State → Prop} (hE : EXB G EX) {r : Int32 × AH} : ∀ (l0 : Nat) (h : AH) (t0 : KD l0 = 7), fX8_show_21 l0 h = some r → U l G EX mi_X8_show 2 42 (some (.int r.1)) r.2 21 [(0, .ref (G.1 + l0))] [] h := by
  intro l0 h t0 hx
  unfold fX8_show_21 at hx
  refine V.aload_n (j := 0) dX8_show_21 rfl rfl rfl ?_
  refine V.bipush dX8_show_22 rfl kb_m2 ?_
  obtain ⟨v5, h4, q3, hx⟩ := ob2_some hx
  refine U.callV (As := [.int (-2 : Int32)]) (rest := []) (st' := [.int v5]) hE.1 (mX8_refuse hE t0 q3) mic_X8_refuse rfl t0 (by decide) rfl rfl wq_m_X8_80 wq_i_yX8_refuse wq_s_yX8_refuse ⟨Nat.le_of_ble_eq_true rfl, Nat.le_of_ble_eq_true rfl⟩ (Nat.le_of_ble_eq_true rfl) dX8_show_24 rfl rfl rfl ?_
  obtain rfl := Option.some.inj hx
  exact U.retI rfl rfl rfl rfl dX8_show_27
set_option maxRecDepth 100000 in
set_option maxHeartbeats 4000000 in
theorem mX8_show {l : Launch} {G : GG} {EX : State → Prop} (hE : EXB G EX) {th : Nat} {a1 : Int32} {a2 : Int32} {a3 : Int32} {h : AH} (t0 : KD th = 7) {r : Int32 × AH} (hx : fX8_show th a1 a2 a3 h = some r) : MetU l G EX mi_X8_show 2 42 [.ref (G.1 + th), .int a1, .int a2, .int a3] h (some (.int r.1)) r.2 := by
  refine MetU.of mic_X8_show.1 (Nat.le_of_ble_eq_true rfl) ?_
  refine show U l G EX mi_X8_show 2 42 (some (.int r.1)) r.2 0 [(0, .ref (G.1 + th)), (1, .int a1), (2, .int a2), (3, .int a3)] [] h from ?_
  unfold fX8_show at hx
  refine V.iload_n (j := 1) dX8_show_0 rfl rfl rfl ?_
  obtain ⟨v2, q1, hx⟩ := ob_some hx
  refine U.callS (As := [.int a1]) (rest := []) (st' := [.int v2]) hE.1 (mX8_isKind hE q1) mic_X8_isKind rfl wq_m_X8_70 wq_t_yX8_isKind ⟨Nat.le_of_ble_eq_true rfl, Nat.le_of_ble_eq_true rfl⟩ (Nat.le_of_ble_eq_true rfl) dX8_show_1 rfl rfl rfl ?_
  refine V.if_eq (tgt := 21) hx dX8_show_4 (by decide) rfl (fun hx => ?_) (fun hx => ?_)
  · refine V.pick [0] rfl ?_
    exact vX8_show_21 hE th h t0 hx
  · refine V.iload_n (j := 2) dX8_show_7 rfl rfl rfl ?_
    obtain ⟨v7, q6, hx⟩ := ob_some hx
    refine U.callS (As := [.int a2]) (rest := []) (st' := [.int v7]) hE.1 (mX8_isCell hE q6) mic_X8_isCell rfl wq_m_X8_74 wq_t_yX8_isCell ⟨Nat.le_of_ble_eq_true rfl, Nat.le_of_ble_eq_true rfl⟩ (Nat.le_of_ble_eq_true rfl) dX8_show_8 rfl rfl rfl ?_
    refine V.if_eq (tgt := 21) hx dX8_show_11 (by decide) rfl (fun hx => ?_) (fun hx => ?_)
    · refine V.pick [0] rfl ?_
      exact vX8_show_21 hE th h t0 hx
    · refine V.iload_n (j := 3) dX8_show_14 rfl rfl rfl ?_
      obtain ⟨v9, q8, hx⟩ := ob_some hx
      refine U.callS (As := [.int a3]) (rest := []) (st' := [.int v9]) hE.1 (mX8_isLoud hE q8) mic_X8_isLoud rfl wq_m_X8_77 wq_t_yX8_isLoud ⟨Nat.le_of_ble_eq_true rfl, Nat.le_of_ble_eq_true rfl⟩ (Nat.le_of_ble_eq_true rfl) dX8_show_15 rfl rfl rfl ?_
      refine V.if_ne (tgt := 28) hx dX8_show_18 (by decide) rfl (fun hx => ?_) (fun hx => ?_)
      · refine V.aload_n (j := 0) dX8_show_28 rfl rfl rfl ?_
        refine U.getP fl_X8_10 t0 dX8_show_29 rfl ?_
        refine U.getP fl_X8_60 (ty_X8_0 t0) dX8_show_32 rfl ?_
        refine U.getI fl_X8_84 (ty_X0_0 (ty_X8_0 t0)) dX8_show_35 rfl ?_
        refine V.iconst dX8_show_38 rfl ki_5 ?_
        refine V.icmp_lt (tgt := 49) hx dX8_show_39 (by decide) rfl (fun hx => ?_) (fun hx => ?_)
        · refine V.aload_n (j := 0) dX8_show_49 rfl rfl rfl ?_
          refine U.getP fl_X8_10 t0 dX8_show_50 rfl ?_
          refine U.getP fl_X8_87 (ty_X8_0 t0) dX8_show_53 rfl ?_
          refine V.iconst dX8_show_56 rfl ki_0 ?_
          refine U.putI hx fl_X8_91 (ty_X0_1 (ty_X8_0 t0)) rfl rfl dX8_show_57 rfl (fun h10 hx => ?_)
          refine V.aload_n (j := 0) dX8_show_60 rfl rfl rfl ?_
          refine U.getP fl_X8_10 t0 dX8_show_61 rfl ?_
          refine U.getP fl_X8_60 (ty_X8_0 t0) dX8_show_64 rfl ?_
          refine V.iload_n (j := 1) dX8_show_67 rfl rfl rfl ?_
          refine V.iload_n (j := 2) dX8_show_68 rfl rfl rfl ?_
          refine V.iload_n (j := 3) dX8_show_69 rfl rfl rfl ?_
          obtain ⟨v13, h12, q11, hx⟩ := ob2_some hx
          refine U.callV (As := [.int a1, .int a2, .int a3]) (rest := []) (st' := [.int v13]) hE.1 (mX2_addShow hE (ty_X0_0 (ty_X8_0 t0)) q11) mic_X2_addShow rfl (ty_X0_0 (ty_X8_0 t0)) (by decide) rfl rfl wq_m_X8_96 wq_i_yX2_addShow wq_s_yX2_addShow ⟨Nat.le_of_ble_eq_true rfl, Nat.le_of_ble_eq_true rfl⟩ (Nat.le_of_ble_eq_true rfl) dX8_show_70 rfl rfl rfl ?_
          obtain rfl := Option.some.inj hx
          exact U.retI rfl rfl rfl rfl dX8_show_73
        · refine V.aload_n (j := 0) dX8_show_42 rfl rfl rfl ?_
          refine V.bipush dX8_show_43 rfl kb_m4 ?_
          obtain ⟨v16, h15, q14, hx⟩ := ob2_some hx
          refine U.callV (As := [.int (-4 : Int32)]) (rest := []) (st' := [.int v16]) hE.1 (mX8_refuse hE t0 q14) mic_X8_refuse rfl t0 (by decide) rfl rfl wq_m_X8_80 wq_i_yX8_refuse wq_s_yX8_refuse ⟨Nat.le_of_ble_eq_true rfl, Nat.le_of_ble_eq_true rfl⟩ (Nat.le_of_ble_eq_true rfl) dX8_show_45 rfl rfl rfl ?_
          obtain rfl := Option.some.inj hx
          exact U.retI rfl rfl rfl rfl dX8_show_48
      · refine V.pick [0] rfl ?_
        exact vX8_show_21 hE th h t0 hx
set_option maxRecDepth 100000 in
set_option maxHeartbeats 4000000 in
theorem mX2_addWatcher {l : Launch} {G : GG} {EX : State → Prop} (hE : EXB G EX) {th : Nat} {a1 : Int32} {a2 : Int32} {h : AH} (t0 : KD th = 1) {r : Int32 × AH} (hx : fX2_addWatcher th a1 a2 h = some r) : MetU l G EX mi_X2_addWatcher 0 0 [.ref (G.1 + th), .int a1, .int a2] h (some (.int r.1)) r.2 := by
  refine MetU.of mic_X2_addWatcher.1 (Nat.le_of_ble_eq_true rfl) ?_
  refine show U l G EX mi_X2_addWatcher 0 0 (some (.int r.1)) r.2 0 [(0, .ref (G.1 + th)), (1, .int a1), (2, .int a2)] [] h from ?_
  unfold fX2_addWatcher at hx
  refine V.aload_n (j := 0) dX2_addWatcher_0 rfl rfl rfl ?_
  refine U.getI fl_X2_43 t0 dX2_addWatcher_1 rfl ?_
  refine V.bipush dX2_addWatcher_4 rfl kb_6 ?_
  refine V.icmp_lt (tgt := 11) hx dX2_addWatcher_6 (by decide) rfl (fun hx => ?_) (fun hx => ?_)
  · refine V.aload_n (j := 0) dX2_addWatcher_11 rfl rfl rfl ?_
    refine U.getP fl_X2_24 t0 dX2_addWatcher_12 rfl ?_
    refine V.aload_n (j := 0) dX2_addWatcher_15 rfl rfl rfl ?_
    refine U.getI fl_X2_43 t0 dX2_addWatcher_16 rfl ?_
    refine V.iload_n (j := 1) dX2_addWatcher_19 rfl rfl rfl ?_
    refine U.iast hx (ty_X2_8 t0) dX2_addWatcher_20 rfl (fun h1 hx => ?_)
    refine V.aload_n (j := 0) dX2_addWatcher_21 rfl rfl rfl ?_
    refine U.getP fl_X2_27 t0 dX2_addWatcher_22 rfl ?_
    refine V.aload_n (j := 0) dX2_addWatcher_25 rfl rfl rfl ?_
    refine U.getI fl_X2_43 t0 dX2_addWatcher_26 rfl ?_
    refine V.iload_n (j := 2) dX2_addWatcher_29 rfl rfl rfl ?_
    refine U.iast hx (ty_X2_9 t0) dX2_addWatcher_30 rfl (fun h2 hx => ?_)
    refine V.aload_n (j := 0) dX2_addWatcher_31 rfl rfl rfl ?_
    refine U.getP fl_X2_30 t0 dX2_addWatcher_32 rfl ?_
    refine V.aload_n (j := 0) dX2_addWatcher_35 rfl rfl rfl ?_
    refine U.getI fl_X2_43 t0 dX2_addWatcher_36 rfl ?_
    refine V.iconst dX2_addWatcher_39 rfl ki_0 ?_
    refine U.iast hx (ty_X2_10 t0) dX2_addWatcher_40 rfl (fun h3 hx => ?_)
    refine V.aload_n (j := 0) dX2_addWatcher_41 rfl rfl rfl ?_
    refine V.dup dX2_addWatcher_42 rfl rfl ?_
    refine U.getI fl_X2_43 t0 dX2_addWatcher_43 rfl ?_
    refine V.dup_x1 dX2_addWatcher_46 rfl rfl rfl ?_
    refine V.iconst dX2_addWatcher_47 rfl ki_1 ?_
    refine V.iadd dX2_addWatcher_48 rfl ?_
    refine U.putI hx fl_X2_43 t0 rfl rfl dX2_addWatcher_49 rfl (fun h4 hx => ?_)
    obtain rfl := Option.some.inj hx
    exact U.retI rfl rfl rfl rfl dX2_addWatcher_52
  · refine V.iconst dX2_addWatcher_9 rfl ki_m1 ?_
    obtain rfl := Option.some.inj hx
    exact U.retI rfl rfl rfl rfl dX2_addWatcher_10
set_option maxRecDepth 100000 in
set_option maxHeartbeats 4000000 in
theorem vX8_watcher_14 {l : Launch} {G : GG} {EX : State → Prop} (hE : EXB G EX) {r : Int32 × AH} : ∀ (l0 : Nat) (h : AH) (t0 : KD l0 = 7), fX8_watcher_14 l0 h = some r → U l G EX mi_X8_watcher 2 42 (some (.int r.1)) r.2 14 [(0, .ref (G.1 + l0))] [] h := by
  intro l0 h t0 hx
  unfold fX8_watcher_14 at hx
  refine V.aload_n (j := 0) dX8_watcher_14 rfl rfl rfl ?_
  refine V.bipush dX8_watcher_15 rfl kb_m2 ?_
  obtain ⟨v5, h4, q3, hx⟩ := ob2_some hx
  refine U.callV (As := [.int (-2 : Int32)]) (rest := []) (st' := [.int v5]) hE.1 (mX8_refuse hE t0 q3) mic_X8_refuse rfl t0 (by decide) rfl rfl wq_m_X8_80 wq_i_yX8_refuse wq_s_yX8_refuse ⟨Nat.le_of_ble_eq_true rfl, Nat.le_of_ble_eq_true rfl⟩ (Nat.le_of_ble_eq_true rfl) dX8_watcher_17 rfl rfl rfl ?_
  obtain rfl := Option.some.inj hx
  exact U.retI rfl rfl rfl rfl dX8_watcher_20
set_option maxRecDepth 100000 in
set_option maxHeartbeats 4000000 in
theorem mX8_watcher {l : Launch} {G : GG} {EX : State → Prop} (hE : EXB G EX) {th : Nat} {a1 : Int32} {a2 : Int32} {h : AH} (t0 : KD th = 7) {r : Int32 × AH} (hx : fX8_watcher th a1 a2 h = some r) : MetU l G EX mi_X8_watcher 2 42 [.ref (G.1 + th), .int a1, .int a2] h (some (.int r.1)) r.2 := by
  refine MetU.of mic_X8_watcher.1 (Nat.le_of_ble_eq_true rfl) ?_
  refine show U l G EX mi_X8_watcher 2 42 (some (.int r.1)) r.2 0 [(0, .ref (G.1 + th)), (1, .int a1), (2, .int a2)] [] h from ?_
  unfold fX8_watcher at hx
  refine V.iload_n (j := 1) dX8_watcher_0 rfl rfl rfl ?_
  obtain ⟨v2, q1, hx⟩ := ob_some hx
  refine U.callS (As := [.int a1]) (rest := []) (st' := [.int v2]) hE.1 (mX8_isKind hE q1) mic_X8_isKind rfl wq_m_X8_70 wq_t_yX8_isKind ⟨Nat.le_of_ble_eq_true rfl, Nat.le_of_ble_eq_true rfl⟩ (Nat.le_of_ble_eq_true rfl) dX8_watcher_1 rfl rfl rfl ?_
  refine V.if_eq (tgt := 14) hx dX8_watcher_4 (by decide) rfl (fun hx => ?_) (fun hx => ?_)
  · refine V.pick [0] rfl ?_
    exact vX8_watcher_14 hE th h t0 hx
  · refine V.iload_n (j := 2) dX8_watcher_7 rfl rfl rfl ?_
    obtain ⟨v7, q6, hx⟩ := ob_some hx
    refine U.callS (As := [.int a2]) (rest := []) (st' := [.int v7]) hE.1 (mX8_isCell hE q6) mic_X8_isCell rfl wq_m_X8_74 wq_t_yX8_isCell ⟨Nat.le_of_ble_eq_true rfl, Nat.le_of_ble_eq_true rfl⟩ (Nat.le_of_ble_eq_true rfl) dX8_watcher_8 rfl rfl rfl ?_
    refine V.if_ne (tgt := 21) hx dX8_watcher_11 (by decide) rfl (fun hx => ?_) (fun hx => ?_)
    · refine V.aload_n (j := 0) dX8_watcher_21 rfl rfl rfl ?_
      refine U.getP fl_X8_10 t0 dX8_watcher_22 rfl ?_
      refine U.getP fl_X8_60 (ty_X8_0 t0) dX8_watcher_25 rfl ?_
      refine U.getI fl_X8_63 (ty_X0_0 (ty_X8_0 t0)) dX8_watcher_28 rfl ?_
      refine V.bipush dX8_watcher_31 rfl kb_6 ?_
      refine V.icmp_lt (tgt := 43) hx dX8_watcher_33 (by decide) rfl (fun hx => ?_) (fun hx => ?_)
      · refine V.aload_n (j := 0) dX8_watcher_43 rfl rfl rfl ?_
        refine U.getP fl_X8_10 t0 dX8_watcher_44 rfl ?_
        refine U.getP fl_X8_87 (ty_X8_0 t0) dX8_watcher_47 rfl ?_
        refine V.iconst dX8_watcher_50 rfl ki_0 ?_
        refine U.putI hx fl_X8_91 (ty_X0_1 (ty_X8_0 t0)) rfl rfl dX8_watcher_51 rfl (fun h8 hx => ?_)
        refine V.aload_n (j := 0) dX8_watcher_54 rfl rfl rfl ?_
        refine U.getP fl_X8_10 t0 dX8_watcher_55 rfl ?_
        refine U.getP fl_X8_60 (ty_X8_0 t0) dX8_watcher_58 rfl ?_
        refine V.iload_n (j := 1) dX8_watcher_61 rfl rfl rfl ?_
        refine V.iload_n (j := 2) dX8_watcher_62 rfl rfl rfl ?_
        obtain ⟨v11, h10, q9, hx⟩ := ob2_some hx
        refine U.callV (As := [.int a1, .int a2]) (rest := []) (st' := [.int v11]) hE.1 (mX2_addWatcher hE (ty_X0_0 (ty_X8_0 t0)) q9) mic_X2_addWatcher rfl (ty_X0_0 (ty_X8_0 t0)) (by decide) rfl rfl wq_m_X8_100 wq_i_yX2_addWatcher wq_s_yX2_addWatcher ⟨Nat.le_of_ble_eq_true rfl, Nat.le_of_ble_eq_true rfl⟩ (Nat.le_of_ble_eq_true rfl) dX8_watcher_63 rfl rfl rfl ?_
        obtain rfl := Option.some.inj hx
        exact U.retI rfl rfl rfl rfl dX8_watcher_66
      · refine V.aload_n (j := 0) dX8_watcher_36 rfl rfl rfl ?_
        refine V.bipush dX8_watcher_37 rfl kb_m4 ?_
        obtain ⟨v14, h13, q12, hx⟩ := ob2_some hx
        refine U.callV (As := [.int (-4 : Int32)]) (rest := []) (st' := [.int v14]) hE.1 (mX8_refuse hE t0 q12) mic_X8_refuse rfl t0 (by decide) rfl rfl wq_m_X8_80 wq_i_yX8_refuse wq_s_yX8_refuse ⟨Nat.le_of_ble_eq_true rfl, Nat.le_of_ble_eq_true rfl⟩ (Nat.le_of_ble_eq_true rfl) dX8_watcher_39 rfl rfl rfl ?_
        obtain rfl := Option.some.inj hx
        exact U.retI rfl rfl rfl rfl dX8_watcher_42
    · refine V.pick [0] rfl ?_
      exact vX8_watcher_14 hE th h t0 hx
set_option maxRecDepth 100000 in
set_option maxHeartbeats 4000000 in
theorem mX5_append {l : Launch} {G : GG} {EX : State → Prop} (hE : EXB G EX) {th : Nat} {a1 : Int32} {h : AH} (t0 : KD th = 4) {r : AH} (hx : fX5_append th a1 h = some r) : MetU l G EX mi_X5_append 0 0 [.ref (G.1 + th), .int a1] h none r := by
  refine MetU.of mic_X5_append.1 (Nat.le_of_ble_eq_true rfl) ?_
  refine show U l G EX mi_X5_append 0 0 none r 0 [(0, .ref (G.1 + th)), (1, .int a1)] [] h from ?_
  unfold fX5_append at hx
  refine V.aload_n (j := 0) dX5_append_0 rfl rfl rfl ?_
  refine U.getI fl_X5_18 t0 dX5_append_1 rfl ?_
  refine V.sipush dX5_append_4 rfl ks_150 ?_
  refine V.icmp_ge (tgt := 30) hx dX5_append_7 (by decide) rfl (fun hx => ?_) (fun hx => ?_)
  · obtain rfl := Option.some.inj hx
    exact U.ret0 rfl rfl rfl dX5_append_30
  · refine V.aload_n (j := 0) dX5_append_10 rfl rfl rfl ?_
    refine U.getP fl_X5_9 t0 dX5_append_11 rfl ?_
    refine V.aload_n (j := 0) dX5_append_14 rfl rfl rfl ?_
    refine U.getI fl_X5_18 t0 dX5_append_15 rfl ?_
    refine V.iload_n (j := 1) dX5_append_18 rfl rfl rfl ?_
    refine U.iast hx (ty_X5_0 t0) dX5_append_19 rfl (fun h1 hx => ?_)
    refine V.aload_n (j := 0) dX5_append_20 rfl rfl rfl ?_
    refine V.dup dX5_append_21 rfl rfl ?_
    refine U.getI fl_X5_18 t0 dX5_append_22 rfl ?_
    refine V.iconst dX5_append_25 rfl ki_1 ?_
    refine V.iadd dX5_append_26 rfl ?_
    refine U.putI hx fl_X5_18 t0 rfl rfl dX5_append_27 rfl (fun h2 hx => ?_)
    obtain rfl := Option.some.inj hx
    exact U.ret0 rfl rfl rfl dX5_append_30
set_option maxRecDepth 100000 in
set_option maxHeartbeats 4000000 in
theorem mX8_type {l : Launch} {G : GG} {EX : State → Prop} (hE : EXB G EX) {th : Nat} {a1 : Int32} {h : AH} (t0 : KD th = 7) {r : Int32 × AH} (hx : fX8_type th a1 h = some r) : MetU l G EX mi_X8_type 1 22 [.ref (G.1 + th), .int a1] h (some (.int r.1)) r.2 := by
  refine MetU.of mic_X8_type.1 (Nat.le_of_ble_eq_true rfl) ?_
  refine show U l G EX mi_X8_type 1 22 (some (.int r.1)) r.2 0 [(0, .ref (G.1 + th)), (1, .int a1)] [] h from ?_
  unfold fX8_type at hx
  refine V.iload_n (j := 1) dX8_type_0 rfl rfl rfl ?_
  refine V.iconst dX8_type_1 rfl ki_0 ?_
  refine V.bipush dX8_type_2 rfl kb_127 ?_
  obtain ⟨v2, q1, hx⟩ := ob_some hx
  refine U.callS (As := [.int a1, .int (0 : Int32), .int (127 : Int32)]) (rest := []) (st' := [.int v2]) hE.1 (mX8_within hE q1) mic_X8_within rfl wq_m_X8_104 wq_t_yX8_within ⟨Nat.le_of_ble_eq_true rfl, Nat.le_of_ble_eq_true rfl⟩ (Nat.le_of_ble_eq_true rfl) dX8_type_4 rfl rfl rfl ?_
  refine V.if_ne (tgt := 17) hx dX8_type_7 (by decide) rfl (fun hx => ?_) (fun hx => ?_)
  · refine V.aload_n (j := 0) dX8_type_17 rfl rfl rfl ?_
    refine U.getP fl_X8_41 t0 dX8_type_18 rfl ?_
    refine U.getI fl_X8_108 (ty_X8_5 t0) dX8_type_21 rfl ?_
    refine V.sipush dX8_type_24 rfl ks_150 ?_
    refine V.icmp_lt (tgt := 37) hx dX8_type_27 (by decide) rfl (fun hx => ?_) (fun hx => ?_)
    · refine V.aload_n (j := 0) dX8_type_37 rfl rfl rfl ?_
      refine U.getP fl_X8_41 t0 dX8_type_38 rfl ?_
      refine V.iload_n (j := 1) dX8_type_41 rfl rfl rfl ?_
      obtain ⟨h4, q3, hx⟩ := ob_some hx
      refine U.callV (As := [.int a1]) (rest := []) (st' := []) hE.1 (mX5_append hE (ty_X8_5 t0) q3) mic_X5_append rfl (ty_X8_5 t0) (by decide) rfl rfl wq_m_X8_111 wq_i_yX5_append wq_s_yX5_append ⟨Nat.le_of_ble_eq_true rfl, Nat.le_of_ble_eq_true rfl⟩ (Nat.le_of_ble_eq_true rfl) dX8_type_42 rfl rfl rfl ?_
      refine V.aload_n (j := 0) dX8_type_45 rfl rfl rfl ?_
      refine U.getP fl_X8_41 t0 dX8_type_46 rfl ?_
      refine U.getI fl_X8_108 (ty_X8_5 t0) dX8_type_49 rfl ?_
      obtain rfl := Option.some.inj hx
      exact U.retI rfl rfl rfl rfl dX8_type_52
    · refine V.aload_n (j := 0) dX8_type_30 rfl rfl rfl ?_
      refine V.bipush dX8_type_31 rfl kb_m4 ?_
      obtain ⟨v7, h6, q5, hx⟩ := ob2_some hx
      refine U.callV (As := [.int (-4 : Int32)]) (rest := []) (st' := [.int v7]) hE.1 (mX8_refuse hE t0 q5) mic_X8_refuse rfl t0 (by decide) rfl rfl wq_m_X8_80 wq_i_yX8_refuse wq_s_yX8_refuse ⟨Nat.le_of_ble_eq_true rfl, Nat.le_of_ble_eq_true rfl⟩ (Nat.le_of_ble_eq_true rfl) dX8_type_33 rfl rfl rfl ?_
      obtain rfl := Option.some.inj hx
      exact U.retI rfl rfl rfl rfl dX8_type_36
  · refine V.aload_n (j := 0) dX8_type_10 rfl rfl rfl ?_
    refine V.bipush dX8_type_11 rfl kb_m2 ?_
    obtain ⟨v10, h9, q8, hx⟩ := ob2_some hx
    refine U.callV (As := [.int (-2 : Int32)]) (rest := []) (st' := [.int v10]) hE.1 (mX8_refuse hE t0 q8) mic_X8_refuse rfl t0 (by decide) rfl rfl wq_m_X8_80 wq_i_yX8_refuse wq_s_yX8_refuse ⟨Nat.le_of_ble_eq_true rfl, Nat.le_of_ble_eq_true rfl⟩ (Nat.le_of_ble_eq_true rfl) dX8_type_13 rfl rfl rfl ?_
    obtain rfl := Option.some.inj hx
    exact U.retI rfl rfl rfl rfl dX8_type_16
set_option maxRecDepth 100000 in
set_option maxHeartbeats 4000000 in
theorem mX8_clear {l : Launch} {G : GG} {EX : State → Prop} (hE : EXB G EX) {th : Nat} {h : AH} (t0 : KD th = 7) {r : Int32 × AH} (hx : fX8_clear th h = some r) : MetU l G EX mi_X8_clear 0 0 [.ref (G.1 + th)] h (some (.int r.1)) r.2 := by
  refine MetU.of mic_X8_clear.1 (Nat.le_of_ble_eq_true rfl) ?_
  refine show U l G EX mi_X8_clear 0 0 (some (.int r.1)) r.2 0 [(0, .ref (G.1 + th))] [] h from ?_
  unfold fX8_clear at hx
  refine V.aload_n (j := 0) dX8_clear_0 rfl rfl rfl ?_
  refine U.getP fl_X8_41 t0 dX8_clear_1 rfl ?_
  refine U.getI fl_X8_108 (ty_X8_5 t0) dX8_clear_4 rfl ?_
  refine U.letI hx (fun v1 hx => ?_)
  refine V.istore_n [(1, .int v1), (0, .ref (G.1 + th))] dX8_clear_7 rfl rfl (Nat.le_of_ble_eq_true rfl) rfl ?_
  refine V.aload_n (j := 1) dX8_clear_8 rfl rfl rfl ?_
  refine U.getP fl_X8_41 t0 dX8_clear_9 rfl ?_
  refine V.iconst dX8_clear_12 rfl ki_0 ?_
  refine U.putI hx fl_X8_108 (ty_X8_5 t0) rfl rfl dX8_clear_13 rfl (fun h2 hx => ?_)
  refine V.iload_n (j := 0) dX8_clear_16 rfl rfl rfl ?_
  obtain rfl := Option.some.inj hx
  exact U.retI rfl rfl rfl rfl dX8_clear_17
set_option maxRecDepth 100000 in
set_option maxHeartbeats 4000000 in
theorem mX5_byteAt {l : Launch} {G : GG} {EX : State → Prop} (hE : EXB G EX) {th : Nat} {a1 : Int32} {h : AH} (t0 : KD th = 4) {r : Int32} (hx : fX5_byteAt th a1 h = some r) : MetU l G EX mi_X5_byteAt 0 0 [.ref (G.1 + th), .int a1] h (some (.int r)) h := by
  refine MetU.of mic_X5_byteAt.1 (Nat.le_of_ble_eq_true rfl) ?_
  refine show U l G EX mi_X5_byteAt 0 0 (some (.int r)) h 0 [(0, .ref (G.1 + th)), (1, .int a1)] [] h from ?_
  unfold fX5_byteAt at hx
  refine V.iload_n (j := 1) dX5_byteAt_0 rfl rfl rfl ?_
  refine V.if_lt (tgt := 30) hx dX5_byteAt_1 (by decide) rfl (fun hx => ?_) (fun hx => ?_)
  · refine V.iconst dX5_byteAt_30 rfl ki_m1 ?_
    obtain rfl := Option.some.inj hx
    exact U.retI rfl rfl rfl rfl dX5_byteAt_31
  · refine V.iload_n (j := 1) dX5_byteAt_4 rfl rfl rfl ?_
    refine V.aload_n (j := 0) dX5_byteAt_5 rfl rfl rfl ?_
    refine U.getI fl_X5_18 t0 dX5_byteAt_6 rfl ?_
    refine V.icmp_ge (tgt := 30) hx dX5_byteAt_9 (by decide) rfl (fun hx => ?_) (fun hx => ?_)
    · refine V.iconst dX5_byteAt_30 rfl ki_m1 ?_
      obtain rfl := Option.some.inj hx
      exact U.retI rfl rfl rfl rfl dX5_byteAt_31
    · refine V.iload_n (j := 1) dX5_byteAt_12 rfl rfl rfl ?_
      refine V.aload_n (j := 0) dX5_byteAt_13 rfl rfl rfl ?_
      refine U.getP fl_X5_9 t0 dX5_byteAt_14 rfl ?_
      refine U.alen (ty_X5_0 t0) (by decide) dX5_byteAt_17 rfl ?_
      refine V.icmp_ge (tgt := 30) hx dX5_byteAt_18 (by decide) rfl (fun hx => ?_) (fun hx => ?_)
      · refine V.iconst dX5_byteAt_30 rfl ki_m1 ?_
        obtain rfl := Option.some.inj hx
        exact U.retI rfl rfl rfl rfl dX5_byteAt_31
      · refine V.aload_n (j := 0) dX5_byteAt_21 rfl rfl rfl ?_
        refine U.getP fl_X5_9 t0 dX5_byteAt_22 rfl ?_
        refine V.iload_n (j := 1) dX5_byteAt_25 rfl rfl rfl ?_
        refine U.iald hx (ty_X5_0 t0) dX5_byteAt_26 rfl (fun hx => ?_)
        refine V.goto (q := 31) dX5_byteAt_27 (by decide) ?_
        obtain rfl := Option.some.inj hx
        exact U.retI rfl rfl rfl rfl dX5_byteAt_31
set_option maxRecDepth 100000 in
set_option maxHeartbeats 4000000 in
theorem mX5_isLetterAt {l : Launch} {G : GG} {EX : State → Prop} (hE : EXB G EX) {th : Nat} {a1 : Int32} {h : AH} (t0 : KD th = 4) {r : Int32} (hx : fX5_isLetterAt th a1 h = some r) : MetU l G EX mi_X5_isLetterAt 1 21 [.ref (G.1 + th), .int a1] h (some (.int r)) h := by
  refine MetU.of mic_X5_isLetterAt.1 (Nat.le_of_ble_eq_true rfl) ?_
  refine show U l G EX mi_X5_isLetterAt 1 21 (some (.int r)) h 0 [(0, .ref (G.1 + th)), (1, .int a1)] [] h from ?_
  unfold fX5_isLetterAt at hx
  refine V.aload_n (j := 0) dX5_isLetterAt_0 rfl rfl rfl ?_
  refine V.iload_n (j := 1) dX5_isLetterAt_1 rfl rfl rfl ?_
  obtain ⟨v2, q1, hx⟩ := ob_some hx
  refine U.callV (As := [.int a1]) (rest := []) (st' := [.int v2]) hE.1 (mX5_byteAt hE t0 q1) mic_X5_byteAt rfl t0 (by decide) rfl rfl wq_m_X5_98 wq_i_yX5_byteAt wq_s_yX5_byteAt ⟨Nat.le_of_ble_eq_true rfl, Nat.le_of_ble_eq_true rfl⟩ (Nat.le_of_ble_eq_true rfl) dX5_isLetterAt_2 rfl rfl rfl ?_
  refine V.bipush dX5_isLetterAt_5 rfl kb_97 ?_
  refine V.icmp_lt (tgt := 24) hx dX5_isLetterAt_7 (by decide) rfl (fun hx => ?_) (fun hx => ?_)
  · refine V.iconst dX5_isLetterAt_24 rfl ki_0 ?_
    obtain rfl := Option.some.inj hx
    exact U.retI rfl rfl rfl rfl dX5_isLetterAt_25
  · refine V.aload_n (j := 0) dX5_isLetterAt_10 rfl rfl rfl ?_
    refine V.iload_n (j := 1) dX5_isLetterAt_11 rfl rfl rfl ?_
    obtain ⟨v4, q3, hx⟩ := ob_some hx
    refine U.callV (As := [.int a1]) (rest := []) (st' := [.int v4]) hE.1 (mX5_byteAt hE t0 q3) mic_X5_byteAt rfl t0 (by decide) rfl rfl wq_m_X5_98 wq_i_yX5_byteAt wq_s_yX5_byteAt ⟨Nat.le_of_ble_eq_true rfl, Nat.le_of_ble_eq_true rfl⟩ (Nat.le_of_ble_eq_true rfl) dX5_isLetterAt_12 rfl rfl rfl ?_
    refine V.bipush dX5_isLetterAt_15 rfl kb_122 ?_
    refine V.icmp_gt (tgt := 24) hx dX5_isLetterAt_17 (by decide) rfl (fun hx => ?_) (fun hx => ?_)
    · refine V.iconst dX5_isLetterAt_24 rfl ki_0 ?_
      obtain rfl := Option.some.inj hx
      exact U.retI rfl rfl rfl rfl dX5_isLetterAt_25
    · refine V.iconst dX5_isLetterAt_20 rfl ki_1 ?_
      refine V.goto (q := 25) dX5_isLetterAt_21 (by decide) ?_
      obtain rfl := Option.some.inj hx
      exact U.retI rfl rfl rfl rfl dX5_isLetterAt_25
set_option maxRecDepth 100000 in
set_option maxHeartbeats 4000000 in
theorem vX5_wordEnd_2 {l : Launch} {G : GG} {EX : State → Prop} (hE : EXB G EX) {h : AH} {r : Int32} : ∀ (n : Nat) (l0 : Nat) (l2 : Int32) (t0 : KD l0 = 4), fX5_wordEnd_2 h n l0 l2 = some r → U l G EX mi_X5_wordEnd 2 42 (some (.int r)) h 2 [(0, .ref (G.1 + l0)), (2, .int l2)] [] h := by
  intro n
  induction n with
  | zero =>
    intro l0 l2 t0 hx
    have hx : none = some r := hx
    cases hx
  | succ n ih =>
    intro l0 l2 t0 hx
    rw [fX5_wordEnd_2] at hx
    refine V.iload_n (j := 1) dX5_wordEnd_2 rfl rfl rfl ?_
    refine V.aload_n (j := 0) dX5_wordEnd_3 rfl rfl rfl ?_
    refine U.getI fl_X5_18 t0 dX5_wordEnd_4 rfl ?_
    refine V.icmp_ge (tgt := 24) hx dX5_wordEnd_7 (by decide) rfl (fun hx => ?_) (fun hx => ?_)
    · refine V.iload_n (j := 1) dX5_wordEnd_24 rfl rfl rfl ?_
      obtain rfl := Option.some.inj hx
      exact U.retI rfl rfl rfl rfl dX5_wordEnd_25
    · refine V.aload_n (j := 0) dX5_wordEnd_10 rfl rfl rfl ?_
      refine V.iload_n (j := 1) dX5_wordEnd_11 rfl rfl rfl ?_
      obtain ⟨v2, q1, hx⟩ := ob_some hx
      refine U.callV (As := [.int l2]) (rest := []) (st' := [.int v2]) hE.1 (mX5_isLetterAt hE t0 q1) mic_X5_isLetterAt rfl t0 (by decide) rfl rfl wq_m_X5_101 wq_i_yX5_isLetterAt wq_s_yX5_isLetterAt ⟨Nat.le_of_ble_eq_true rfl, Nat.le_of_ble_eq_true rfl⟩ (Nat.le_of_ble_eq_true rfl) dX5_wordEnd_12 rfl rfl rfl ?_
      refine V.if_eq (tgt := 24) hx dX5_wordEnd_15 (by decide) rfl (fun hx => ?_) (fun hx => ?_)
      · refine V.iload_n (j := 1) dX5_wordEnd_24 rfl rfl rfl ?_
        obtain rfl := Option.some.inj hx
        exact U.retI rfl rfl rfl rfl dX5_wordEnd_25
      · refine U.iinc hx (fun v3 => [(2, .int v3), (0, .ref (G.1 + l0))]) (j := 1) rfl (by decide) (Nat.le_of_ble_eq_true rfl) (fun _ => rfl) dX5_wordEnd_18 rfl (fun v3 hx => ?_)
        refine V.goto (q := 2) dX5_wordEnd_21 (by decide) ?_
        refine V.pick [1, 0] rfl ?_
        exact ih l0 v3 t0 hx
set_option maxRecDepth 100000 in
set_option maxHeartbeats 4000000 in
theorem mX5_wordEnd {l : Launch} {G : GG} {EX : State → Prop} (hE : EXB G EX) {th : Nat} {a1 : Int32} {h : AH} (t0 : KD th = 4) {r : Int32} (hx : fX5_wordEnd th a1 h = some r) : MetU l G EX mi_X5_wordEnd 2 42 [.ref (G.1 + th), .int a1] h (some (.int r)) h := by
  refine MetU.of mic_X5_wordEnd.1 (Nat.le_of_ble_eq_true rfl) ?_
  refine show U l G EX mi_X5_wordEnd 2 42 (some (.int r)) h 0 [(0, .ref (G.1 + th)), (1, .int a1)] [] h from ?_
  unfold fX5_wordEnd at hx
  refine V.iload_n (j := 1) dX5_wordEnd_0 rfl rfl rfl ?_
  refine V.istore_n [(2, .int a1), (0, .ref (G.1 + th)), (1, .int a1)] dX5_wordEnd_1 rfl rfl (Nat.le_of_ble_eq_true rfl) rfl ?_
  refine V.pick [1, 0] rfl ?_
  exact vX5_wordEnd_2 hE FU th a1 t0 hx
set_option maxRecDepth 100000 in
set_option maxHeartbeats 4000000 in
theorem vX5_isWord_20 {l : Launch} {G : GG} {EX : State → Prop} (hE : EXB G EX) {h : AH} {r : Int32} : ∀ (n : Nat) (l0 : Nat) (l1 : Nat) (l2 : Int32) (t0 : KD l0 = 4), fX5_isWord_20 h n l0 l1 l2 = some r → U l G EX mi_X5_isWord 4 85 (some (.int r)) h 20 [(0, .ref (G.1 + l0)), (1, .ref (G.2.2.2 l1)), (2, .int l2)] [] h := by
  intro n
  induction n with
  | zero =>
    intro l0 l1 l2 t0 hx
    have hx : none = some r := hx
    cases hx
  | succ n ih =>
    intro l0 l1 l2 t0 hx
    rw [fX5_isWord_20] at hx
    refine V.iload_n (j := 2) dX5_isWord_20 rfl rfl rfl ?_
    refine V.aload_n (j := 1) dX5_isWord_21 rfl rfl rfl ?_
    obtain ⟨g2, hx⟩ := oG_some hx
    refine U.slen hE (of_decide_eq_true g2) wq_m_X5_133 ⟨Nat.le_of_ble_eq_true rfl, Nat.le_of_ble_eq_true rfl⟩ (Nat.le_of_ble_eq_true rfl) dX5_isWord_22 rfl ?_
    refine V.icmp_ge (tgt := 54) hx dX5_isWord_25 (by decide) rfl (fun hx => ?_) (fun hx => ?_)
    · refine V.iconst dX5_isWord_54 rfl ki_1 ?_
      obtain rfl := Option.some.inj hx
      exact U.retI rfl rfl rfl rfl dX5_isWord_55
    · refine V.aload_n (j := 0) dX5_isWord_28 rfl rfl rfl ?_
      refine V.aload_n (j := 0) dX5_isWord_29 rfl rfl rfl ?_
      refine U.getI fl_X5_44 t0 dX5_isWord_30 rfl ?_
      refine V.iload_n (j := 2) dX5_isWord_33 rfl rfl rfl ?_
      refine V.iadd dX5_isWord_34 rfl ?_
      obtain ⟨v4, q3, hx⟩ := ob_some hx
      refine U.callV (As := [.int ((hI h l0 6) + l2)]) (rest := []) (st' := [.int v4]) hE.1 (mX5_byteAt hE t0 q3) mic_X5_byteAt rfl t0 (by decide) rfl rfl wq_m_X5_98 wq_i_yX5_byteAt wq_s_yX5_byteAt ⟨Nat.le_of_ble_eq_true rfl, Nat.le_of_ble_eq_true rfl⟩ (Nat.le_of_ble_eq_true rfl) dX5_isWord_35 rfl rfl rfl ?_
      refine V.aload_n (j := 1) dX5_isWord_38 rfl rfl rfl ?_
      refine V.iload_n (j := 2) dX5_isWord_39 rfl rfl rfl ?_
      obtain ⟨v5, q6, hx⟩ := ob_some hx
      refine U.sat hE q6 wq_m_X5_137 ⟨Nat.le_of_ble_eq_true rfl, Nat.le_of_ble_eq_true rfl⟩ (Nat.le_of_ble_eq_true rfl) dX5_isWord_40 rfl ?_
      refine V.icmp_eq (tgt := 48) hx dX5_isWord_43 (by decide) rfl (fun hx => ?_) (fun hx => ?_)
      · refine U.iinc hx (fun v7 => [(2, .int v7), (0, .ref (G.1 + l0)), (1, .ref (G.2.2.2 l1))]) (j := 2) rfl (by decide) (Nat.le_of_ble_eq_true rfl) (fun _ => rfl) dX5_isWord_48 rfl (fun v7 hx => ?_)
        refine V.goto (q := 20) dX5_isWord_51 (by decide) ?_
        refine V.pick [1, 2, 0] rfl ?_
        exact ih l0 l1 v7 t0 hx
      · refine V.iconst dX5_isWord_46 rfl ki_0 ?_
        obtain rfl := Option.some.inj hx
        exact U.retI rfl rfl rfl rfl dX5_isWord_47
set_option maxRecDepth 100000 in
set_option maxHeartbeats 4000000 in
theorem mX5_isWord {l : Launch} {G : GG} {EX : State → Prop} (hE : EXB G EX) {th : Nat} {a1 : Nat} {h : AH} (t0 : KD th = 4) {r : Int32} (hx : fX5_isWord th a1 h = some r) : MetU l G EX mi_X5_isWord 4 85 [.ref (G.1 + th), .ref (G.2.2.2 a1)] h (some (.int r)) h := by
  refine MetU.of mic_X5_isWord.1 (Nat.le_of_ble_eq_true rfl) ?_
  refine show U l G EX mi_X5_isWord 4 85 (some (.int r)) h 0 [(0, .ref (G.1 + th)), (1, .ref (G.2.2.2 a1))] [] h from ?_
  unfold fX5_isWord at hx
  refine V.aload_n (j := 0) dX5_isWord_0 rfl rfl rfl ?_
  refine U.getI fl_X5_22 t0 dX5_isWord_1 rfl ?_
  refine V.aload_n (j := 0) dX5_isWord_4 rfl rfl rfl ?_
  refine U.getI fl_X5_44 t0 dX5_isWord_5 rfl ?_
  refine V.isub dX5_isWord_8 rfl ?_
  refine V.aload_n (j := 1) dX5_isWord_9 rfl rfl rfl ?_
  obtain ⟨g1, hx⟩ := oG_some hx
  refine U.slen hE (of_decide_eq_true g1) wq_m_X5_133 ⟨Nat.le_of_ble_eq_true rfl, Nat.le_of_ble_eq_true rfl⟩ (Nat.le_of_ble_eq_true rfl) dX5_isWord_10 rfl ?_
  refine V.icmp_eq (tgt := 18) hx dX5_isWord_13 (by decide) rfl (fun hx => ?_) (fun hx => ?_)
  · refine V.iconst dX5_isWord_18 rfl ki_0 ?_
    refine V.istore_n [(2, .int (0 : Int32)), (0, .ref (G.1 + th)), (1, .ref (G.2.2.2 a1))] dX5_isWord_19 rfl rfl (Nat.le_of_ble_eq_true rfl) rfl ?_
    refine V.pick [1, 2, 0] rfl ?_
    exact vX5_isWord_20 hE FU th a1 (0 : Int32) t0 hx
  · refine V.iconst dX5_isWord_16 rfl ki_0 ?_
    obtain rfl := Option.some.inj hx
    exact U.retI rfl rfl rfl rfl dX5_isWord_17
set_option maxRecDepth 100000 in
set_option maxHeartbeats 4000000 in
theorem mX5_wordNumber {l : Launch} {G : GG} {EX : State → Prop} (hE : EXB G EX) {th : Nat} {h : AH} (t0 : KD th = 4) {r : Int32} (hx : fX5_wordNumber th h = some r) : MetU l G EX mi_X5_wordNumber 5 107 [.ref (G.1 + th)] h (some (.int r)) h := by
  refine MetU.of mic_X5_wordNumber.1 (Nat.le_of_ble_eq_true rfl) ?_
  refine show U l G EX mi_X5_wordNumber 5 107 (some (.int r)) h 0 [(0, .ref (G.1 + th))] [] h from ?_
  unfold fX5_wordNumber at hx
  refine V.aload_n (j := 0) dX5_wordNumber_0 rfl rfl rfl ?_
  refine U.ldcS hE dX5_wordNumber_1 rfl (i := 0) (by decide) rfl rfl ?_
  obtain ⟨v2, q1, hx⟩ := ob_some hx
  refine U.callV (As := [.ref (G.2.2.2 0)]) (rest := []) (st' := [.int v2]) hE.1 (mX5_isWord hE t0 q1) mic_X5_isWord rfl t0 (by decide) rfl rfl wq_m_X5_119 wq_i_yX5_isWord wq_s_yX5_isWord ⟨Nat.le_of_ble_eq_true rfl, Nat.le_of_ble_eq_true rfl⟩ (Nat.le_of_ble_eq_true rfl) dX5_wordNumber_3 rfl rfl rfl ?_
  refine V.if_eq (tgt := 11) hx dX5_wordNumber_6 (by decide) rfl (fun hx => ?_) (fun hx => ?_)
  · refine V.aload_n (j := 0) dX5_wordNumber_11 rfl rfl rfl ?_
    refine U.ldcS hE dX5_wordNumber_12 rfl (i := 1) (by decide) rfl rfl ?_
    obtain ⟨v4, q3, hx⟩ := ob_some hx
    refine U.callV (As := [.ref (G.2.2.2 1)]) (rest := []) (st' := [.int v4]) hE.1 (mX5_isWord hE t0 q3) mic_X5_isWord rfl t0 (by decide) rfl rfl wq_m_X5_119 wq_i_yX5_isWord wq_s_yX5_isWord ⟨Nat.le_of_ble_eq_true rfl, Nat.le_of_ble_eq_true rfl⟩ (Nat.le_of_ble_eq_true rfl) dX5_wordNumber_14 rfl rfl rfl ?_
    refine V.if_eq (tgt := 22) hx dX5_wordNumber_17 (by decide) rfl (fun hx => ?_) (fun hx => ?_)
    · refine V.aload_n (j := 0) dX5_wordNumber_22 rfl rfl rfl ?_
      refine U.ldcS hE dX5_wordNumber_23 rfl (i := 2) (by decide) rfl rfl ?_
      obtain ⟨v6, q5, hx⟩ := ob_some hx
      refine U.callV (As := [.ref (G.2.2.2 2)]) (rest := []) (st' := [.int v6]) hE.1 (mX5_isWord hE t0 q5) mic_X5_isWord rfl t0 (by decide) rfl rfl wq_m_X5_119 wq_i_yX5_isWord wq_s_yX5_isWord ⟨Nat.le_of_ble_eq_true rfl, Nat.le_of_ble_eq_true rfl⟩ (Nat.le_of_ble_eq_true rfl) dX5_wordNumber_25 rfl rfl rfl ?_
      refine V.if_eq (tgt := 33) hx dX5_wordNumber_28 (by decide) rfl (fun hx => ?_) (fun hx => ?_)
      · refine V.aload_n (j := 0) dX5_wordNumber_33 rfl rfl rfl ?_
        refine U.ldcS hE dX5_wordNumber_34 rfl (i := 3) (by decide) rfl rfl ?_
        obtain ⟨v8, q7, hx⟩ := ob_some hx
        refine U.callV (As := [.ref (G.2.2.2 3)]) (rest := []) (st' := [.int v8]) hE.1 (mX5_isWord hE t0 q7) mic_X5_isWord rfl t0 (by decide) rfl rfl wq_m_X5_119 wq_i_yX5_isWord wq_s_yX5_isWord ⟨Nat.le_of_ble_eq_true rfl, Nat.le_of_ble_eq_true rfl⟩ (Nat.le_of_ble_eq_true rfl) dX5_wordNumber_36 rfl rfl rfl ?_
        refine V.if_eq (tgt := 44) hx dX5_wordNumber_39 (by decide) rfl (fun hx => ?_) (fun hx => ?_)
        · refine V.aload_n (j := 0) dX5_wordNumber_44 rfl rfl rfl ?_
          refine U.ldcS hE dX5_wordNumber_45 rfl (i := 4) (by decide) rfl rfl ?_
          obtain ⟨v10, q9, hx⟩ := ob_some hx
          refine U.callV (As := [.ref (G.2.2.2 4)]) (rest := []) (st' := [.int v10]) hE.1 (mX5_isWord hE t0 q9) mic_X5_isWord rfl t0 (by decide) rfl rfl wq_m_X5_119 wq_i_yX5_isWord wq_s_yX5_isWord ⟨Nat.le_of_ble_eq_true rfl, Nat.le_of_ble_eq_true rfl⟩ (Nat.le_of_ble_eq_true rfl) dX5_wordNumber_47 rfl rfl rfl ?_
          refine V.if_eq (tgt := 55) hx dX5_wordNumber_50 (by decide) rfl (fun hx => ?_) (fun hx => ?_)
          · refine V.aload_n (j := 0) dX5_wordNumber_55 rfl rfl rfl ?_
            refine U.ldcS hE dX5_wordNumber_56 rfl (i := 5) (by decide) rfl rfl ?_
            obtain ⟨v12, q11, hx⟩ := ob_some hx
            refine U.callV (As := [.ref (G.2.2.2 5)]) (rest := []) (st' := [.int v12]) hE.1 (mX5_isWord hE t0 q11) mic_X5_isWord rfl t0 (by decide) rfl rfl wq_m_X5_119 wq_i_yX5_isWord wq_s_yX5_isWord ⟨Nat.le_of_ble_eq_true rfl, Nat.le_of_ble_eq_true rfl⟩ (Nat.le_of_ble_eq_true rfl) dX5_wordNumber_58 rfl rfl rfl ?_
            refine V.if_eq (tgt := 68) hx dX5_wordNumber_61 (by decide) rfl (fun hx => ?_) (fun hx => ?_)
            · refine V.iconst dX5_wordNumber_68 rfl ki_m1 ?_
              obtain rfl := Option.some.inj hx
              exact U.retI rfl rfl rfl rfl dX5_wordNumber_69
            · refine V.iconst dX5_wordNumber_64 rfl ki_5 ?_
              refine V.goto (q := 69) dX5_wordNumber_65 (by decide) ?_
              obtain rfl := Option.some.inj hx
              exact U.retI rfl rfl rfl rfl dX5_wordNumber_69
          · refine V.iconst dX5_wordNumber_53 rfl ki_4 ?_
            obtain rfl := Option.some.inj hx
            exact U.retI rfl rfl rfl rfl dX5_wordNumber_54
        · refine V.iconst dX5_wordNumber_42 rfl ki_3 ?_
          obtain rfl := Option.some.inj hx
          exact U.retI rfl rfl rfl rfl dX5_wordNumber_43
      · refine V.iconst dX5_wordNumber_31 rfl ki_2 ?_
        obtain rfl := Option.some.inj hx
        exact U.retI rfl rfl rfl rfl dX5_wordNumber_32
    · refine V.iconst dX5_wordNumber_20 rfl ki_1 ?_
      obtain rfl := Option.some.inj hx
      exact U.retI rfl rfl rfl rfl dX5_wordNumber_21
  · refine V.iconst dX5_wordNumber_9 rfl ki_0 ?_
    obtain rfl := Option.some.inj hx
    exact U.retI rfl rfl rfl rfl dX5_wordNumber_10
set_option maxRecDepth 100000 in
set_option maxHeartbeats 4000000 in
theorem mX5_isFigureAt {l : Launch} {G : GG} {EX : State → Prop} (hE : EXB G EX) {th : Nat} {a1 : Int32} {h : AH} (t0 : KD th = 4) {r : Int32} (hx : fX5_isFigureAt th a1 h = some r) : MetU l G EX mi_X5_isFigureAt 1 21 [.ref (G.1 + th), .int a1] h (some (.int r)) h := by
  refine MetU.of mic_X5_isFigureAt.1 (Nat.le_of_ble_eq_true rfl) ?_
  refine show U l G EX mi_X5_isFigureAt 1 21 (some (.int r)) h 0 [(0, .ref (G.1 + th)), (1, .int a1)] [] h from ?_
  unfold fX5_isFigureAt at hx
  refine V.aload_n (j := 0) dX5_isFigureAt_0 rfl rfl rfl ?_
  refine V.iload_n (j := 1) dX5_isFigureAt_1 rfl rfl rfl ?_
  obtain ⟨v2, q1, hx⟩ := ob_some hx
  refine U.callV (As := [.int a1]) (rest := []) (st' := [.int v2]) hE.1 (mX5_byteAt hE t0 q1) mic_X5_byteAt rfl t0 (by decide) rfl rfl wq_m_X5_98 wq_i_yX5_byteAt wq_s_yX5_byteAt ⟨Nat.le_of_ble_eq_true rfl, Nat.le_of_ble_eq_true rfl⟩ (Nat.le_of_ble_eq_true rfl) dX5_isFigureAt_2 rfl rfl rfl ?_
  refine V.bipush dX5_isFigureAt_5 rfl kb_48 ?_
  refine V.icmp_lt (tgt := 24) hx dX5_isFigureAt_7 (by decide) rfl (fun hx => ?_) (fun hx => ?_)
  · refine V.iconst dX5_isFigureAt_24 rfl ki_0 ?_
    obtain rfl := Option.some.inj hx
    exact U.retI rfl rfl rfl rfl dX5_isFigureAt_25
  · refine V.aload_n (j := 0) dX5_isFigureAt_10 rfl rfl rfl ?_
    refine V.iload_n (j := 1) dX5_isFigureAt_11 rfl rfl rfl ?_
    obtain ⟨v4, q3, hx⟩ := ob_some hx
    refine U.callV (As := [.int a1]) (rest := []) (st' := [.int v4]) hE.1 (mX5_byteAt hE t0 q3) mic_X5_byteAt rfl t0 (by decide) rfl rfl wq_m_X5_98 wq_i_yX5_byteAt wq_s_yX5_byteAt ⟨Nat.le_of_ble_eq_true rfl, Nat.le_of_ble_eq_true rfl⟩ (Nat.le_of_ble_eq_true rfl) dX5_isFigureAt_12 rfl rfl rfl ?_
    refine V.bipush dX5_isFigureAt_15 rfl kb_57 ?_
    refine V.icmp_gt (tgt := 24) hx dX5_isFigureAt_17 (by decide) rfl (fun hx => ?_) (fun hx => ?_)
    · refine V.iconst dX5_isFigureAt_24 rfl ki_0 ?_
      obtain rfl := Option.some.inj hx
      exact U.retI rfl rfl rfl rfl dX5_isFigureAt_25
    · refine V.iconst dX5_isFigureAt_20 rfl ki_1 ?_
      refine V.goto (q := 25) dX5_isFigureAt_21 (by decide) ?_
      obtain rfl := Option.some.inj hx
      exact U.retI rfl rfl rfl rfl dX5_isFigureAt_25
set_option maxRecDepth 100000 in
set_option maxHeartbeats 4000000 in
theorem vX5_takeNumber_82 {l : Launch} {G : GG} {EX : State → Prop} (hE : EXB G EX) {r : AH} : ∀ (s0 : Nat) (s1 : Int32) (h : AH) (ts0 : KD s0 = 4), fX5_takeNumber_82 s0 s1 h = some r → U l G EX mi_X5_takeNumber 2 42 none r 82 [] [.int s1, .ref (G.1 + s0)] h := by
  intro s0 s1 h ts0 hx
  unfold fX5_takeNumber_82 at hx
  refine U.putI hx fl_X5_33 ts0 rfl rfl dX5_takeNumber_82 rfl (fun h2 hx => ?_)
  obtain rfl := Option.some.inj hx
  exact U.ret0 rfl rfl rfl dX5_takeNumber_85
set_option maxRecDepth 100000 in
set_option maxHeartbeats 4000000 in
theorem vX5_takeNumber_63 {l : Launch} {G : GG} {EX : State → Prop} (hE : EXB G EX) {r : AH} : ∀ (l0 : Nat) (h : AH) (t0 : KD l0 = 4), fX5_takeNumber_63 l0 h = some r → U l G EX mi_X5_takeNumber 2 42 none r 63 [(0, .ref (G.1 + l0))] [] h := by
  intro l0 h t0 hx
  unfold fX5_takeNumber_63 at hx
  refine V.aload_n (j := 0) dX5_takeNumber_63 rfl rfl rfl ?_
  refine V.aload_n (j := 0) dX5_takeNumber_64 rfl rfl rfl ?_
  refine U.getI fl_X5_22 t0 dX5_takeNumber_65 rfl ?_
  refine V.aload_n (j := 0) dX5_takeNumber_68 rfl rfl rfl ?_
  refine U.getI fl_X5_44 t0 dX5_takeNumber_69 rfl ?_
  refine V.isub dX5_takeNumber_72 rfl ?_
  refine V.iconst dX5_takeNumber_73 rfl ki_2 ?_
  refine V.icmp_gt (tgt := 81) hx dX5_takeNumber_74 (by decide) rfl (fun hx => ?_) (fun hx => ?_)
  · refine V.iconst dX5_takeNumber_81 rfl ki_4 ?_
    refine V.pick [] rfl ?_
    exact vX5_takeNumber_82 hE l0 (4 : Int32) h t0 hx
  · refine V.iconst dX5_takeNumber_77 rfl ki_2 ?_
    refine V.goto (q := 82) dX5_takeNumber_78 (by decide) ?_
    refine V.pick [] rfl ?_
    exact vX5_takeNumber_82 hE l0 (2 : Int32) h t0 hx
set_option maxRecDepth 100000 in
set_option maxHeartbeats 4000000 in
theorem vX5_takeNumber_5 {l : Launch} {G : GG} {EX : State → Prop} (hE : EXB G EX) {r : AH} : ∀ (n : Nat) (l0 : Nat) (h : AH) (t0 : KD l0 = 4), fX5_takeNumber_5 n l0 h = some r → U l G EX mi_X5_takeNumber 2 42 none r 5 [(0, .ref (G.1 + l0))] [] h := by
  intro n
  induction n with
  | zero =>
    intro l0 h t0 hx
    have hx : none = some r := hx
    cases hx
  | succ n ih =>
    intro l0 h t0 hx
    rw [fX5_takeNumber_5] at hx
    refine V.aload_n (j := 0) dX5_takeNumber_5 rfl rfl rfl ?_
    refine U.getI fl_X5_22 t0 dX5_takeNumber_6 rfl ?_
    refine V.aload_n (j := 0) dX5_takeNumber_9 rfl rfl rfl ?_
    refine U.getI fl_X5_18 t0 dX5_takeNumber_10 rfl ?_
    refine V.icmp_ge (tgt := 63) hx dX5_takeNumber_13 (by decide) rfl (fun hx => ?_) (fun hx => ?_)
    · exact vX5_takeNumber_63 hE l0 h t0 hx
    · refine V.aload_n (j := 0) dX5_takeNumber_16 rfl rfl rfl ?_
      refine V.aload_n (j := 0) dX5_takeNumber_17 rfl rfl rfl ?_
      refine U.getI fl_X5_22 t0 dX5_takeNumber_18 rfl ?_
      obtain ⟨v4, q3, hx⟩ := ob_some hx
      refine U.callV (As := [.int (hI h l0 4)]) (rest := []) (st' := [.int v4]) hE.1 (mX5_isFigureAt hE t0 q3) mic_X5_isFigureAt rfl t0 (by decide) rfl rfl wq_m_X5_111 wq_i_yX5_isFigureAt wq_s_yX5_isFigureAt ⟨Nat.le_of_ble_eq_true rfl, Nat.le_of_ble_eq_true rfl⟩ (Nat.le_of_ble_eq_true rfl) dX5_takeNumber_21 rfl rfl rfl ?_
      refine V.if_eq (tgt := 63) hx dX5_takeNumber_24 (by decide) rfl (fun hx => ?_) (fun hx => ?_)
      · exact vX5_takeNumber_63 hE l0 h t0 hx
      · refine V.aload_n (j := 0) dX5_takeNumber_27 rfl rfl rfl ?_
        refine V.aload_n (j := 0) dX5_takeNumber_28 rfl rfl rfl ?_
        refine U.getI fl_X5_47 t0 dX5_takeNumber_29 rfl ?_
        refine V.bipush dX5_takeNumber_32 rfl kb_10 ?_
        refine V.imul dX5_takeNumber_34 rfl ?_
        refine V.aload_n (j := 0) dX5_takeNumber_35 rfl rfl rfl ?_
        refine V.aload_n (j := 0) dX5_takeNumber_36 rfl rfl rfl ?_
        refine U.getI fl_X5_22 t0 dX5_takeNumber_37 rfl ?_
        obtain ⟨v6, q5, hx⟩ := ob_some hx
        refine U.callV (As := [.int (hI h l0 4)]) (rest := [.int ((hI h l0 7) * (10 : Int32)), .ref (G.1 + l0)]) (st' := [.int v6, .int ((hI h l0 7) * (10 : Int32)), .ref (G.1 + l0)]) hE.1 (mX5_byteAt hE t0 q5) mic_X5_byteAt rfl t0 (by decide) rfl rfl wq_m_X5_98 wq_i_yX5_byteAt wq_s_yX5_byteAt ⟨Nat.le_of_ble_eq_true rfl, Nat.le_of_ble_eq_true rfl⟩ (Nat.le_of_ble_eq_true rfl) dX5_takeNumber_40 rfl rfl rfl ?_
        refine V.iadd dX5_takeNumber_43 rfl ?_
        refine V.bipush dX5_takeNumber_44 rfl kb_48 ?_
        refine V.isub dX5_takeNumber_46 rfl ?_
        refine U.putI hx fl_X5_47 t0 rfl rfl dX5_takeNumber_47 rfl (fun h7 hx => ?_)
        refine V.aload_n (j := 0) dX5_takeNumber_50 rfl rfl rfl ?_
        refine V.dup dX5_takeNumber_51 rfl rfl ?_
        refine U.getI fl_X5_22 t0 dX5_takeNumber_52 rfl ?_
        refine V.iconst dX5_takeNumber_55 rfl ki_1 ?_
        refine V.iadd dX5_takeNumber_56 rfl ?_
        refine U.putI hx fl_X5_22 t0 rfl rfl dX5_takeNumber_57 rfl (fun h8 hx => ?_)
        refine V.goto (q := 5) dX5_takeNumber_60 (by decide) ?_
        exact ih l0 h8 t0 hx
set_option maxRecDepth 100000 in
set_option maxHeartbeats 4000000 in
theorem mX5_takeNumber {l : Launch} {G : GG} {EX : State → Prop} (hE : EXB G EX) {th : Nat} {h : AH} (t0 : KD th = 4) {r : AH} (hx : fX5_takeNumber th h = some r) : MetU l G EX mi_X5_takeNumber 2 42 [.ref (G.1 + th)] h none r := by
  refine MetU.of mic_X5_takeNumber.1 (Nat.le_of_ble_eq_true rfl) ?_
  refine show U l G EX mi_X5_takeNumber 2 42 none r 0 [(0, .ref (G.1 + th))] [] h from ?_
  unfold fX5_takeNumber at hx
  refine V.aload_n (j := 0) dX5_takeNumber_0 rfl rfl rfl ?_
  refine V.iconst dX5_takeNumber_1 rfl ki_0 ?_
  refine U.putI hx fl_X5_47 t0 rfl rfl dX5_takeNumber_2 rfl (fun h1 hx => ?_)
  exact vX5_takeNumber_5 hE FU th h1 t0 hx
set_option maxRecDepth 100000 in
set_option maxHeartbeats 4000000 in
theorem vX5_advance_140 {l : Launch} {G : GG} {EX : State → Prop} (hE : EXB G EX) {r : AH} : ∀ (l0 : Nat) (s0 : Nat) (s1 : Int32) (h : AH) (t0 : KD l0 = 4) (ts0 : KD s0 = 4), fX5_advance_140 l0 s0 s1 h = some r → U l G EX mi_X5_advance 6 127 none r 140 [(0, .ref (G.1 + l0))] [.int s1, .ref (G.1 + s0)] h := by
  intro l0 s0 s1 h t0 ts0 hx
  unfold fX5_advance_140 at hx
  refine U.putI hx fl_X5_33 ts0 rfl rfl dX5_advance_140 rfl (fun h8 hx => ?_)
  refine V.aload_n (j := 0) dX5_advance_143 rfl rfl rfl ?_
  refine V.dup dX5_advance_144 rfl rfl ?_
  refine U.getI fl_X5_22 t0 dX5_advance_145 rfl ?_
  refine V.iconst dX5_advance_148 rfl ki_1 ?_
  refine V.iadd dX5_advance_149 rfl ?_
  refine U.putI hx fl_X5_22 t0 rfl rfl dX5_advance_150 rfl (fun h9 hx => ?_)
  obtain rfl := Option.some.inj hx
  exact U.ret0 rfl rfl rfl dX5_advance_153
set_option maxRecDepth 100000 in
set_option maxHeartbeats 4000000 in
theorem vX5_advance_37 {l : Launch} {G : GG} {EX : State → Prop} (hE : EXB G EX) {r : AH} : ∀ (l0 : Nat) (h : AH) (t0 : KD l0 = 4), fX5_advance_37 l0 h = some r → U l G EX mi_X5_advance 6 127 none r 37 [(0, .ref (G.1 + l0))] [] h := by
  intro l0 h t0 hx
  unfold fX5_advance_37 at hx
  refine V.aload_n (j := 0) dX5_advance_37 rfl rfl rfl ?_
  refine V.aload_n (j := 0) dX5_advance_38 rfl rfl rfl ?_
  refine U.getI fl_X5_22 t0 dX5_advance_39 rfl ?_
  refine U.putI hx fl_X5_44 t0 rfl rfl dX5_advance_42 rfl (fun h1 hx => ?_)
  refine V.aload_n (j := 0) dX5_advance_45 rfl rfl rfl ?_
  refine U.getI fl_X5_22 t0 dX5_advance_46 rfl ?_
  refine V.aload_n (j := 0) dX5_advance_49 rfl rfl rfl ?_
  refine U.getI fl_X5_18 t0 dX5_advance_50 rfl ?_
  refine V.icmp_lt (tgt := 64) hx dX5_advance_53 (by decide) rfl (fun hx => ?_) (fun hx => ?_)
  · refine V.aload_n (j := 0) dX5_advance_64 rfl rfl rfl ?_
    refine V.aload_n (j := 0) dX5_advance_65 rfl rfl rfl ?_
    refine U.getI fl_X5_22 t0 dX5_advance_66 rfl ?_
    obtain ⟨v3, q2, hx⟩ := ob_some hx
    refine U.callV (As := [.int (hI h1 l0 4)]) (rest := []) (st' := [.int v3]) hE.1 (mX5_isLetterAt hE t0 q2) mic_X5_isLetterAt rfl t0 (by decide) rfl rfl wq_m_X5_101 wq_i_yX5_isLetterAt wq_s_yX5_isLetterAt ⟨Nat.le_of_ble_eq_true rfl, Nat.le_of_ble_eq_true rfl⟩ (Nat.le_of_ble_eq_true rfl) dX5_advance_69 rfl rfl rfl ?_
    refine V.if_eq (tgt := 103) hx dX5_advance_72 (by decide) rfl (fun hx => ?_) (fun hx => ?_)
    · refine V.aload_n (j := 0) dX5_advance_103 rfl rfl rfl ?_
      refine V.aload_n (j := 0) dX5_advance_104 rfl rfl rfl ?_
      refine U.getI fl_X5_22 t0 dX5_advance_105 rfl ?_
      obtain ⟨v5, q4, hx⟩ := ob_some hx
      refine U.callV (As := [.int (hI h1 l0 4)]) (rest := []) (st' := [.int v5]) hE.1 (mX5_isFigureAt hE t0 q4) mic_X5_isFigureAt rfl t0 (by decide) rfl rfl wq_m_X5_111 wq_i_yX5_isFigureAt wq_s_yX5_isFigureAt ⟨Nat.le_of_ble_eq_true rfl, Nat.le_of_ble_eq_true rfl⟩ (Nat.le_of_ble_eq_true rfl) dX5_advance_108 rfl rfl rfl ?_
      refine V.if_eq (tgt := 121) hx dX5_advance_111 (by decide) rfl (fun hx => ?_) (fun hx => ?_)
      · refine V.aload_n (j := 0) dX5_advance_121 rfl rfl rfl ?_
        refine V.aload_n (j := 0) dX5_advance_122 rfl rfl rfl ?_
        refine V.aload_n (j := 0) dX5_advance_123 rfl rfl rfl ?_
        refine U.getI fl_X5_22 t0 dX5_advance_124 rfl ?_
        obtain ⟨v7, q6, hx⟩ := ob_some hx
        refine U.callV (As := [.int (hI h1 l0 4)]) (rest := [.ref (G.1 + l0)]) (st' := [.int v7, .ref (G.1 + l0)]) hE.1 (mX5_byteAt hE t0 q6) mic_X5_byteAt rfl t0 (by decide) rfl rfl wq_m_X5_98 wq_i_yX5_byteAt wq_s_yX5_byteAt ⟨Nat.le_of_ble_eq_true rfl, Nat.le_of_ble_eq_true rfl⟩ (Nat.le_of_ble_eq_true rfl) dX5_advance_127 rfl rfl rfl ?_
        refine V.bipush dX5_advance_130 rfl kb_59 ?_
        refine V.icmp_ne (tgt := 139) hx dX5_advance_132 (by decide) rfl (fun hx => ?_) (fun hx => ?_)
        · refine V.iconst dX5_advance_139 rfl ki_4 ?_
          exact vX5_advance_140 hE l0 l0 (4 : Int32) h1 t0 t0 hx
        · refine V.iconst dX5_advance_135 rfl ki_3 ?_
          refine V.goto (q := 140) dX5_advance_136 (by decide) ?_
          exact vX5_advance_140 hE l0 l0 (3 : Int32) h1 t0 t0 hx
      · refine V.aload_n (j := 0) dX5_advance_114 rfl rfl rfl ?_
        obtain ⟨h11, q10, hx⟩ := ob_some hx
        refine U.callV (As := []) (rest := []) (st' := []) hE.1 (mX5_takeNumber hE t0 q10) mic_X5_takeNumber rfl t0 (by decide) rfl rfl wq_m_X5_114 wq_i_yX5_takeNumber wq_s_yX5_takeNumber ⟨Nat.le_of_ble_eq_true rfl, Nat.le_of_ble_eq_true rfl⟩ (Nat.le_of_ble_eq_true rfl) dX5_advance_115 rfl rfl rfl ?_
        refine V.goto (q := 153) dX5_advance_118 (by decide) ?_
        obtain rfl := Option.some.inj hx
        exact U.ret0 rfl rfl rfl dX5_advance_153
    · refine V.aload_n (j := 0) dX5_advance_75 rfl rfl rfl ?_
      refine V.iconst dX5_advance_76 rfl ki_1 ?_
      refine U.putI hx fl_X5_33 t0 rfl rfl dX5_advance_77 rfl (fun h12 hx => ?_)
      refine V.aload_n (j := 0) dX5_advance_80 rfl rfl rfl ?_
      refine V.aload_n (j := 0) dX5_advance_81 rfl rfl rfl ?_
      refine V.aload_n (j := 0) dX5_advance_82 rfl rfl rfl ?_
      refine U.getI fl_X5_22 t0 dX5_advance_83 rfl ?_
      obtain ⟨v14, q13, hx⟩ := ob_some hx
      refine U.callV (As := [.int (hI h12 l0 4)]) (rest := [.ref (G.1 + l0)]) (st' := [.int v14, .ref (G.1 + l0)]) hE.1 (mX5_wordEnd hE t0 q13) mic_X5_wordEnd rfl t0 (by decide) rfl rfl wq_m_X5_104 wq_i_yX5_wordEnd wq_s_yX5_wordEnd ⟨Nat.le_of_ble_eq_true rfl, Nat.le_of_ble_eq_true rfl⟩ (Nat.le_of_ble_eq_true rfl) dX5_advance_86 rfl rfl rfl ?_
      refine U.putI hx fl_X5_22 t0 rfl rfl dX5_advance_89 rfl (fun h15 hx => ?_)
      refine V.aload_n (j := 0) dX5_advance_92 rfl rfl rfl ?_
      refine V.aload_n (j := 0) dX5_advance_93 rfl rfl rfl ?_
      obtain ⟨v17, q16, hx⟩ := ob_some hx
      refine U.callV (As := []) (rest := [.ref (G.1 + l0)]) (st' := [.int v17, .ref (G.1 + l0)]) hE.1 (mX5_wordNumber hE t0 q16) mic_X5_wordNumber rfl t0 (by decide) rfl rfl wq_m_X5_107 wq_i_yX5_wordNumber wq_s_yX5_wordNumber ⟨Nat.le_of_ble_eq_true rfl, Nat.le_of_ble_eq_true rfl⟩ (Nat.le_of_ble_eq_true rfl) dX5_advance_94 rfl rfl rfl ?_
      refine U.putI hx fl_X5_47 t0 rfl rfl dX5_advance_97 rfl (fun h18 hx => ?_)
      refine V.goto (q := 153) dX5_advance_100 (by decide) ?_
      obtain rfl := Option.some.inj hx
      exact U.ret0 rfl rfl rfl dX5_advance_153
  · refine V.aload_n (j := 0) dX5_advance_56 rfl rfl rfl ?_
    refine V.iconst dX5_advance_57 rfl ki_0 ?_
    refine U.putI hx fl_X5_33 t0 rfl rfl dX5_advance_58 rfl (fun h19 hx => ?_)
    refine V.goto (q := 153) dX5_advance_61 (by decide) ?_
    obtain rfl := Option.some.inj hx
    exact U.ret0 rfl rfl rfl dX5_advance_153
set_option maxRecDepth 100000 in
set_option maxHeartbeats 4000000 in
theorem vX5_advance_0 {l : Launch} {G : GG} {EX : State → Prop} (hE : EXB G EX) {r : AH} : ∀ (n : Nat) (l0 : Nat) (h : AH) (t0 : KD l0 = 4), fX5_advance_0 n l0 h = some r → U l G EX mi_X5_advance 6 127 none r 0 [(0, .ref (G.1 + l0))] [] h := by
  intro n
  induction n with
  | zero =>
    intro l0 h t0 hx
    have hx : none = some r := hx
    cases hx
  | succ n ih =>
    intro l0 h t0 hx
    rw [fX5_advance_0] at hx
    refine V.aload_n (j := 0) dX5_advance_0 rfl rfl rfl ?_
    refine U.getI fl_X5_22 t0 dX5_advance_1 rfl ?_
    refine V.aload_n (j := 0) dX5_advance_4 rfl rfl rfl ?_
    refine U.getI fl_X5_18 t0 dX5_advance_5 rfl ?_
    refine V.icmp_ge (tgt := 37) hx dX5_advance_8 (by decide) rfl (fun hx => ?_) (fun hx => ?_)
    · exact vX5_advance_37 hE l0 h t0 hx
    · refine V.aload_n (j := 0) dX5_advance_11 rfl rfl rfl ?_
      refine V.aload_n (j := 0) dX5_advance_12 rfl rfl rfl ?_
      refine U.getI fl_X5_22 t0 dX5_advance_13 rfl ?_
      obtain ⟨v21, q20, hx⟩ := ob_some hx
      refine U.callV (As := [.int (hI h l0 4)]) (rest := []) (st' := [.int v21]) hE.1 (mX5_byteAt hE t0 q20) mic_X5_byteAt rfl t0 (by decide) rfl rfl wq_m_X5_98 wq_i_yX5_byteAt wq_s_yX5_byteAt ⟨Nat.le_of_ble_eq_true rfl, Nat.le_of_ble_eq_true rfl⟩ (Nat.le_of_ble_eq_true rfl) dX5_advance_16 rfl rfl rfl ?_
      refine V.bipush dX5_advance_19 rfl kb_32 ?_
      refine V.icmp_ne (tgt := 37) hx dX5_advance_21 (by decide) rfl (fun hx => ?_) (fun hx => ?_)
      · exact vX5_advance_37 hE l0 h t0 hx
      · refine V.aload_n (j := 0) dX5_advance_24 rfl rfl rfl ?_
        refine V.dup dX5_advance_25 rfl rfl ?_
        refine U.getI fl_X5_22 t0 dX5_advance_26 rfl ?_
        refine V.iconst dX5_advance_29 rfl ki_1 ?_
        refine V.iadd dX5_advance_30 rfl ?_
        refine U.putI hx fl_X5_22 t0 rfl rfl dX5_advance_31 rfl (fun h22 hx => ?_)
        refine V.goto (q := 0) dX5_advance_34 (by decide) ?_
        exact ih l0 h22 t0 hx
set_option maxRecDepth 100000 in
set_option maxHeartbeats 4000000 in
theorem mX5_advance {l : Launch} {G : GG} {EX : State → Prop} (hE : EXB G EX) {th : Nat} {h : AH} (t0 : KD th = 4) {r : AH} (hx : fX5_advance th h = some r) : MetU l G EX mi_X5_advance 6 127 [.ref (G.1 + th)] h none r := by
  refine MetU.of mic_X5_advance.1 (Nat.le_of_ble_eq_true rfl) ?_
  refine show U l G EX mi_X5_advance 6 127 none r 0 [(0, .ref (G.1 + th))] [] h from ?_
  unfold fX5_advance at hx
  exact vX5_advance_0 hE FU th h t0 hx
set_option maxRecDepth 100000 in
set_option maxHeartbeats 4000000 in
theorem vX5_mayStand_8 {l : Launch} {G : GG} {EX : State → Prop} (hE : EXB G EX) {h : AH} {r : Int32} : ∀ (l0 : Int32) (l1 : Int32), fX5_mayStand_8 h l0 l1 = some r → U l G EX mi_X5_mayStand 0 0 (some (.int r)) h 8 [(0, .int l0), (1, .int l1)] [] h := by
  intro l0 l1 hx
  unfold fX5_mayStand_8 at hx
  refine V.iload_n (j := 1) dX5_mayStand_8 rfl rfl rfl ?_
  refine V.if_eq (tgt := 20) hx dX5_mayStand_9 (by decide) rfl (fun hx => ?_) (fun hx => ?_)
  · refine V.iconst dX5_mayStand_20 rfl ki_0 ?_
    obtain rfl := Option.some.inj hx
    exact U.retI rfl rfl rfl rfl dX5_mayStand_21
  · refine V.iload_n (j := 0) dX5_mayStand_12 rfl rfl rfl ?_
    refine V.if_ne (tgt := 20) hx dX5_mayStand_13 (by decide) rfl (fun hx => ?_) (fun hx => ?_)
    · refine V.iconst dX5_mayStand_20 rfl ki_0 ?_
      obtain rfl := Option.some.inj hx
      exact U.retI rfl rfl rfl rfl dX5_mayStand_21
    · refine V.iconst dX5_mayStand_16 rfl ki_1 ?_
      refine V.goto (q := 21) dX5_mayStand_17 (by decide) ?_
      obtain rfl := Option.some.inj hx
      exact U.retI rfl rfl rfl rfl dX5_mayStand_21
set_option maxRecDepth 100000 in
set_option maxHeartbeats 4000000 in
theorem mX5_mayStand {l : Launch} {G : GG} {EX : State → Prop} (hE : EXB G EX) {a0 : Int32} {a1 : Int32} {a2 : Nat} {h : AH} (t2 : KD a2 = 1) {r : Int32} (hx : fX5_mayStand a0 a1 a2 h = some r) : MetU l G EX mi_X5_mayStand 0 0 [.int a0, .int a1, .ref (G.1 + a2)] h (some (.int r)) h := by
  refine MetU.of mic_X5_mayStand.1 (Nat.le_of_ble_eq_true rfl) ?_
  refine show U l G EX mi_X5_mayStand 0 0 (some (.int r)) h 0 [(0, .int a0), (1, .int a1), (2, .ref (G.1 + a2))] [] h from ?_
  unfold fX5_mayStand at hx
  refine V.iload_n (j := 1) dX5_mayStand_0 rfl rfl rfl ?_
  refine V.if_ne (tgt := 8) hx dX5_mayStand_1 (by decide) rfl (fun hx => ?_) (fun hx => ?_)
  · refine V.pick [0, 1] rfl ?_
    exact vX5_mayStand_8 hE a0 a1 hx
  · refine V.iload_n (j := 0) dX5_mayStand_4 rfl rfl rfl ?_
    refine V.if_ne (tgt := 22) hx dX5_mayStand_5 (by decide) rfl (fun hx => ?_) (fun hx => ?_)
    · refine V.iload_n (j := 0) dX5_mayStand_22 rfl rfl rfl ?_
      refine V.iconst dX5_mayStand_23 rfl ki_1 ?_
      refine V.icmp_ne (tgt := 41) hx dX5_mayStand_24 (by decide) rfl (fun hx => ?_) (fun hx => ?_)
      · refine V.iload_n (j := 0) dX5_mayStand_41 rfl rfl rfl ?_
        refine V.iconst dX5_mayStand_42 rfl ki_3 ?_
        refine V.icmp_ne (tgt := 61) hx dX5_mayStand_43 (by decide) rfl (fun hx => ?_) (fun hx => ?_)
        · refine V.iload_n (j := 0) dX5_mayStand_61 rfl rfl rfl ?_
          refine V.iconst dX5_mayStand_62 rfl ki_m1 ?_
          refine V.icmp_eq (tgt := 70) hx dX5_mayStand_63 (by decide) rfl (fun hx => ?_) (fun hx => ?_)
          · refine V.iconst dX5_mayStand_70 rfl ki_0 ?_
            obtain rfl := Option.some.inj hx
            exact U.retI rfl rfl rfl rfl dX5_mayStand_71
          · refine V.iconst dX5_mayStand_66 rfl ki_1 ?_
            refine V.goto (q := 71) dX5_mayStand_67 (by decide) ?_
            obtain rfl := Option.some.inj hx
            exact U.retI rfl rfl rfl rfl dX5_mayStand_71
        · refine V.aload_n (j := 2) dX5_mayStand_46 rfl rfl rfl ?_
          refine U.getI fl_X5_72 t2 dX5_mayStand_47 rfl ?_
          refine V.bipush dX5_mayStand_50 rfl kb_6 ?_
          refine V.icmp_ge (tgt := 59) hx dX5_mayStand_52 (by decide) rfl (fun hx => ?_) (fun hx => ?_)
          · refine V.iconst dX5_mayStand_59 rfl ki_0 ?_
            obtain rfl := Option.some.inj hx
            exact U.retI rfl rfl rfl rfl dX5_mayStand_60
          · refine V.iconst dX5_mayStand_55 rfl ki_1 ?_
            refine V.goto (q := 60) dX5_mayStand_56 (by decide) ?_
            obtain rfl := Option.some.inj hx
            exact U.retI rfl rfl rfl rfl dX5_mayStand_60
      · refine V.aload_n (j := 2) dX5_mayStand_27 rfl rfl rfl ?_
        refine U.getI fl_X5_65 t2 dX5_mayStand_28 rfl ?_
        refine V.iconst dX5_mayStand_31 rfl ki_5 ?_
        refine V.icmp_ge (tgt := 39) hx dX5_mayStand_32 (by decide) rfl (fun hx => ?_) (fun hx => ?_)
        · refine V.iconst dX5_mayStand_39 rfl ki_0 ?_
          obtain rfl := Option.some.inj hx
          exact U.retI rfl rfl rfl rfl dX5_mayStand_40
        · refine V.iconst dX5_mayStand_35 rfl ki_1 ?_
          refine V.goto (q := 40) dX5_mayStand_36 (by decide) ?_
          obtain rfl := Option.some.inj hx
          exact U.retI rfl rfl rfl rfl dX5_mayStand_40
    · refine V.pick [0, 1] rfl ?_
      exact vX5_mayStand_8 hE a0 a1 hx
set_option maxRecDepth 100000 in
set_option maxHeartbeats 4000000 in
theorem mX5_numbersBehind {l : Launch} {G : GG} {EX : State → Prop} (hE : EXB G EX) {a0 : Int32} {h : AH} {r : Int32} (hx : fX5_numbersBehind a0 = some r) : MetU l G EX mi_X5_numbersBehind 0 0 [.int a0] h (some (.int r)) h := by
  refine MetU.of mic_X5_numbersBehind.1 (Nat.le_of_ble_eq_true rfl) ?_
  refine show U l G EX mi_X5_numbersBehind 0 0 (some (.int r)) h 0 [(0, .int a0)] [] h from ?_
  unfold fX5_numbersBehind at hx
  refine V.iload_n (j := 0) dX5_numbersBehind_0 rfl rfl rfl ?_
  refine sw_case (ci := 0) hx (by decide) (fun c0 hx => ?_) (fun c0 hx => ?_)
  · refine V.tableIn (tgt := 32) dX5_numbersBehind_1 (by rw [c0]; decide) (by rw [c0]; decide) (by rw [c0]; rfl) (by decide) ?_
    refine V.iconst dX5_numbersBehind_32 rfl ki_0 ?_
    obtain rfl := Option.some.inj hx
    exact U.retI rfl rfl rfl rfl dX5_numbersBehind_33
  refine sw_case (ci := 1) hx (by decide) (fun c1 hx => ?_) (fun c1 hx => ?_)
  · refine V.tableIn (tgt := 34) dX5_numbersBehind_1 (by rw [c1]; decide) (by rw [c1]; decide) (by rw [c1]; rfl) (by decide) ?_
    refine V.iconst dX5_numbersBehind_34 rfl ki_3 ?_
    obtain rfl := Option.some.inj hx
    exact U.retI rfl rfl rfl rfl dX5_numbersBehind_35
  refine sw_case (ci := 2) hx (by decide) (fun c2 hx => ?_) (fun c2 hx => ?_)
  · refine V.tableIn (tgt := 38) dX5_numbersBehind_1 (by rw [c2]; decide) (by rw [c2]; decide) (by rw [c2]; rfl) (by decide) ?_
    refine V.iconst dX5_numbersBehind_38 rfl ki_1 ?_
    obtain rfl := Option.some.inj hx
    exact U.retI rfl rfl rfl rfl dX5_numbersBehind_39
  refine sw_case (ci := 3) hx (by decide) (fun c3 hx => ?_) (fun c3 hx => ?_)
  · refine V.tableIn (tgt := 36) dX5_numbersBehind_1 (by rw [c3]; decide) (by rw [c3]; decide) (by rw [c3]; rfl) (by decide) ?_
    refine V.iconst dX5_numbersBehind_36 rfl ki_2 ?_
    obtain rfl := Option.some.inj hx
    exact U.retI rfl rfl rfl rfl dX5_numbersBehind_37
  refine V.tableOut (tgt := 38) dX5_numbersBehind_1 (by omega) (by decide) ?_
  refine V.iconst dX5_numbersBehind_38 rfl ki_1 ?_
  obtain rfl := Option.some.inj hx
  exact U.retI rfl rfl rfl rfl dX5_numbersBehind_39
set_option maxRecDepth 100000 in
set_option maxHeartbeats 4000000 in
theorem vX5_least_15 {l : Launch} {G : GG} {EX : State → Prop} (hE : EXB G EX) {h : AH} {r : Int32} : fX5_least_15  = some r → U l G EX mi_X5_least 0 0 (some (.int r)) h 15 [] [] h := by
  intro hx
  unfold fX5_least_15 at hx
  refine V.iconst dX5_least_15 rfl ki_1 ?_
  refine V.goto (q := 20) dX5_least_16 (by decide) ?_
  obtain rfl := Option.some.inj hx
  exact U.retI rfl rfl rfl rfl dX5_least_20
set_option maxRecDepth 100000 in
set_option maxHeartbeats 4000000 in
theorem mX5_least {l : Launch} {G : GG} {EX : State → Prop} (hE : EXB G EX) {a0 : Int32} {a1 : Int32} {h : AH} {r : Int32} (hx : fX5_least a0 a1 = some r) : MetU l G EX mi_X5_least 0 0 [.int a0, .int a1] h (some (.int r)) h := by
  refine MetU.of mic_X5_least.1 (Nat.le_of_ble_eq_true rfl) ?_
  refine show U l G EX mi_X5_least 0 0 (some (.int r)) h 0 [(0, .int a0), (1, .int a1)] [] h from ?_
  unfold fX5_least at hx
  refine V.iload_n (j := 0) dX5_least_0 rfl rfl rfl ?_
  refine V.iconst dX5_least_1 rfl ki_5 ?_
  refine V.icmp_eq (tgt := 15) hx dX5_least_2 (by decide) rfl (fun hx => ?_) (fun hx => ?_)
  · refine V.pick [] rfl ?_
    exact vX5_least_15 hE hx
  · refine V.iload_n (j := 0) dX5_least_5 rfl rfl rfl ?_
    refine V.iconst dX5_least_6 rfl ki_1 ?_
    refine V.icmp_ne (tgt := 19) hx dX5_least_7 (by decide) rfl (fun hx => ?_) (fun hx => ?_)
    · refine V.iconst dX5_least_19 rfl ki_0 ?_
      obtain rfl := Option.some.inj hx
      exact U.retI rfl rfl rfl rfl dX5_least_20
    · refine V.iload_n (j := 1) dX5_least_10 rfl rfl rfl ?_
      refine V.iconst dX5_least_11 rfl ki_2 ?_
      refine V.icmp_ne (tgt := 19) hx dX5_least_12 (by decide) rfl (fun hx => ?_) (fun hx => ?_)
      · refine V.iconst dX5_least_19 rfl ki_0 ?_
        obtain rfl := Option.some.inj hx
        exact U.retI rfl rfl rfl rfl dX5_least_20
      · refine V.pick [] rfl ?_
        exact vX5_least_15 hE hx
set_option maxRecDepth 100000 in
set_option maxHeartbeats 4000000 in
theorem mX5_most {l : Launch} {G : GG} {EX : State → Prop} (hE : EXB G EX) {a0 : Int32} {a1 : Int32} {a2 : Int32} {h : AH} {r : Int32} (hx : fX5_most a0 a1 a2 = some r) : MetU l G EX mi_X5_most 0 0 [.int a0, .int a1, .int a2] h (some (.int r)) h := by
  refine MetU.of mic_X5_most.1 (Nat.le_of_ble_eq_true rfl) ?_
  refine show U l G EX mi_X5_most 0 0 (some (.int r)) h 0 [(0, .int a0), (1, .int a1), (2, .int a2)] [] h from ?_
  unfold fX5_most at hx
  refine V.iload_n (j := 0) dX5_most_0 rfl rfl rfl ?_
  refine sw_case (ci := 1) hx (by decide) (fun c0 hx => ?_) (fun c0 hx => ?_)
  · refine V.tableIn (tgt := 32) dX5_most_1 (by rw [c0]; decide) (by rw [c0]; decide) (by rw [c0]; rfl) (by decide) ?_
    refine V.iload_n (j := 1) dX5_most_32 rfl rfl rfl ?_
    refine V.if_ne (tgt := 40) hx dX5_most_33 (by decide) rfl (fun hx => ?_) (fun hx => ?_)
    · refine V.iload_n (j := 1) dX5_most_40 rfl rfl rfl ?_
      refine V.iconst dX5_most_41 rfl ki_1 ?_
      refine V.icmp_ne (tgt := 50) hx dX5_most_42 (by decide) rfl (fun hx => ?_) (fun hx => ?_)
      · refine V.bipush dX5_most_50 rfl kb_9 ?_
        obtain rfl := Option.some.inj hx
        exact U.retI rfl rfl rfl rfl dX5_most_52
      · refine V.bipush dX5_most_45 rfl kb_29 ?_
        refine V.goto (q := 52) dX5_most_47 (by decide) ?_
        obtain rfl := Option.some.inj hx
        exact U.retI rfl rfl rfl rfl dX5_most_52
    · refine V.iconst dX5_most_36 rfl ki_5 ?_
      refine V.goto (q := 52) dX5_most_37 (by decide) ?_
      obtain rfl := Option.some.inj hx
      exact U.retI rfl rfl rfl rfl dX5_most_52
  refine sw_case (ci := 2) hx (by decide) (fun c1 hx => ?_) (fun c1 hx => ?_)
  · refine V.tableIn (tgt := 64) dX5_most_1 (by rw [c1]; decide) (by rw [c1]; decide) (by rw [c1]; rfl) (by decide) ?_
    refine V.iload_n (j := 2) dX5_most_64 rfl rfl rfl ?_
    refine V.iconst dX5_most_65 rfl ki_1 ?_
    refine V.isub dX5_most_66 rfl ?_
    obtain rfl := Option.some.inj hx
    exact U.retI rfl rfl rfl rfl dX5_most_67
  refine sw_case (ci := 3) hx (by decide) (fun c2 hx => ?_) (fun c2 hx => ?_)
  · refine V.tableIn (tgt := 53) dX5_most_1 (by rw [c2]; decide) (by rw [c2]; decide) (by rw [c2]; rfl) (by decide) ?_
    refine V.iload_n (j := 1) dX5_most_53 rfl rfl rfl ?_
    refine V.if_ne (tgt := 61) hx dX5_most_54 (by decide) rfl (fun hx => ?_) (fun hx => ?_)
    · refine V.bipush dX5_most_61 rfl kb_29 ?_
      obtain rfl := Option.some.inj hx
      exact U.retI rfl rfl rfl rfl dX5_most_63
    · refine V.iconst dX5_most_57 rfl ki_5 ?_
      refine V.goto (q := 63) dX5_most_58 (by decide) ?_
      obtain rfl := Option.some.inj hx
      exact U.retI rfl rfl rfl rfl dX5_most_63
  refine sw_case (ci := 4) hx (by decide) (fun c3 hx => ?_) (fun c3 hx => ?_)
  · refine V.tableIn (tgt := 68) dX5_most_1 (by rw [c3]; decide) (by rw [c3]; decide) (by rw [c3]; rfl) (by decide) ?_
    refine V.bipush dX5_most_68 rfl kb_29 ?_
    obtain rfl := Option.some.inj hx
    exact U.retI rfl rfl rfl rfl dX5_most_70
  refine V.tableOut (tgt := 71) dX5_most_1 (by omega) (by decide) ?_
  refine V.bipush dX5_most_71 rfl kb_99 ?_
  obtain rfl := Option.some.inj hx
  exact U.retI rfl rfl rfl rfl dX5_most_73
set_option maxRecDepth 100000 in
set_option maxHeartbeats 4000000 in
theorem vX5_takeItem_116 {l : Launch} {G : GG} {EX : State → Prop} (hE : EXB G EX) {r : Int32 × AH} : ∀ (l0 : Nat) (h : AH) (t0 : KD l0 = 4), fX5_takeItem_116 l0 h = some r → U l G EX mi_X5_takeItem 7 147 (some (.int r.1)) r.2 116 [(0, .ref (G.1 + l0))] [] h := by
  intro l0 h t0 hx
  unfold fX5_takeItem_116 at hx
  refine V.aload_n (j := 0) dX5_takeItem_116 rfl rfl rfl ?_
  obtain ⟨h7, q6, hx⟩ := ob_some hx
  refine U.callV (As := []) (rest := []) (st' := []) hE.1 (mX5_advance hE t0 q6) mic_X5_advance rfl t0 (by decide) rfl rfl wq_m_X5_30 wq_i_yX5_advance wq_s_yX5_advance ⟨Nat.le_of_ble_eq_true rfl, Nat.le_of_ble_eq_true rfl⟩ (Nat.le_of_ble_eq_true rfl) dX5_takeItem_117 rfl rfl rfl ?_
  refine V.aload_n (j := 0) dX5_takeItem_120 rfl rfl rfl ?_
  refine U.getI fl_X5_33 t0 dX5_takeItem_121 rfl ?_
  refine V.iconst dX5_takeItem_124 rfl ki_3 ?_
  refine V.icmp_ne (tgt := 132) hx dX5_takeItem_125 (by decide) rfl (fun hx => ?_) (fun hx => ?_)
  · refine V.iconst dX5_takeItem_132 rfl ki_0 ?_
    obtain rfl := Option.some.inj hx
    exact U.retI rfl rfl rfl rfl dX5_takeItem_133
  · refine V.iconst dX5_takeItem_128 rfl ki_1 ?_
    refine V.goto (q := 133) dX5_takeItem_129 (by decide) ?_
    obtain rfl := Option.some.inj hx
    exact U.retI rfl rfl rfl rfl dX5_takeItem_133
set_option maxRecDepth 100000 in
set_option maxHeartbeats 4000000 in
theorem vX5_takeItem_32 {l : Launch} {G : GG} {EX : State → Prop} (hE : EXB G EX) {r : Int32 × AH} : ∀ (n : Nat) (l0 : Nat) (l2 : Nat) (l3 : Int32) (h : AH) (t0 : KD l0 = 4) (t2 : KD l2 = 1), fX5_takeItem_32 n l0 l2 l3 h = some r → U l G EX mi_X5_takeItem 7 147 (some (.int r.1)) r.2 32 [(0, .ref (G.1 + l0)), (2, .ref (G.1 + l2)), (3, .int l3)] [] h := by
  intro n
  induction n with
  | zero =>
    intro l0 l2 l3 h t0 t2 hx
    have hx : none = some r := hx
    cases hx
  | succ n ih =>
    intro l0 l2 l3 h t0 t2 hx
    rw [fX5_takeItem_32] at hx
    refine V.iload_n (j := 2) dX5_takeItem_32 rfl rfl rfl ?_
    refine V.aload_n (j := 0) dX5_takeItem_33 rfl rfl rfl ?_
    refine U.getI fl_X5_54 t0 dX5_takeItem_34 rfl ?_
    obtain ⟨v5, q4, hx⟩ := ob_some hx
    refine U.callS (As := [.int (hI h l0 1)]) (rest := [.int l3]) (st' := [.int v5, .int l3]) hE.1 (mX5_numbersBehind hE q4) mic_X5_numbersBehind rfl wq_m_X5_57 wq_t_yX5_numbersBehind ⟨Nat.le_of_ble_eq_true rfl, Nat.le_of_ble_eq_true rfl⟩ (Nat.le_of_ble_eq_true rfl) dX5_takeItem_37 rfl rfl rfl ?_
    refine V.icmp_ge (tgt := 116) hx dX5_takeItem_40 (by decide) rfl (fun hx => ?_) (fun hx => ?_)
    · refine V.pick [0] rfl ?_
      exact vX5_takeItem_116 hE l0 h t0 hx
    · refine V.iload_n (j := 2) dX5_takeItem_43 rfl rfl rfl ?_
      refine V.aload_n (j := 0) dX5_takeItem_44 rfl rfl rfl ?_
      refine U.getP fl_X5_15 t0 dX5_takeItem_45 rfl ?_
      refine U.alen (ty_X5_2 t0) (by decide) dX5_takeItem_48 rfl ?_
      refine V.icmp_ge (tgt := 116) hx dX5_takeItem_49 (by decide) rfl (fun hx => ?_) (fun hx => ?_)
      · refine V.pick [0] rfl ?_
        exact vX5_takeItem_116 hE l0 h t0 hx
      · refine V.aload_n (j := 0) dX5_takeItem_52 rfl rfl rfl ?_
        obtain ⟨h9, q8, hx⟩ := ob_some hx
        refine U.callV (As := []) (rest := []) (st' := []) hE.1 (mX5_advance hE t0 q8) mic_X5_advance rfl t0 (by decide) rfl rfl wq_m_X5_30 wq_i_yX5_advance wq_s_yX5_advance ⟨Nat.le_of_ble_eq_true rfl, Nat.le_of_ble_eq_true rfl⟩ (Nat.le_of_ble_eq_true rfl) dX5_takeItem_53 rfl rfl rfl ?_
        refine V.aload_n (j := 0) dX5_takeItem_56 rfl rfl rfl ?_
        refine U.getI fl_X5_33 t0 dX5_takeItem_57 rfl ?_
        refine V.iconst dX5_takeItem_60 rfl ki_2 ?_
        refine V.icmp_ne (tgt := 98) hx dX5_takeItem_61 (by decide) rfl (fun hx => ?_) (fun hx => ?_)
        · refine V.iconst dX5_takeItem_98 rfl ki_0 ?_
          obtain rfl := Option.some.inj hx
          exact U.retI rfl rfl rfl rfl dX5_takeItem_99
        · refine V.aload_n (j := 0) dX5_takeItem_64 rfl rfl rfl ?_
          refine U.getI fl_X5_47 t0 dX5_takeItem_65 rfl ?_
          refine V.aload_n (j := 0) dX5_takeItem_68 rfl rfl rfl ?_
          refine U.getI fl_X5_54 t0 dX5_takeItem_69 rfl ?_
          refine V.iload_n (j := 2) dX5_takeItem_72 rfl rfl rfl ?_
          obtain ⟨v11, q10, hx⟩ := ob_some hx
          refine U.callS (As := [.int (hI h9 l0 1), .int l3]) (rest := [.int (hI h9 l0 7)]) (st' := [.int v11, .int (hI h9 l0 7)]) hE.1 (mX5_least hE q10) mic_X5_least rfl wq_m_X5_61 wq_t_yX5_least ⟨Nat.le_of_ble_eq_true rfl, Nat.le_of_ble_eq_true rfl⟩ (Nat.le_of_ble_eq_true rfl) dX5_takeItem_73 rfl rfl rfl ?_
          refine V.icmp_lt (tgt := 98) hx dX5_takeItem_76 (by decide) rfl (fun hx => ?_) (fun hx => ?_)
          · refine V.iconst dX5_takeItem_98 rfl ki_0 ?_
            obtain rfl := Option.some.inj hx
            exact U.retI rfl rfl rfl rfl dX5_takeItem_99
          · refine V.aload_n (j := 0) dX5_takeItem_79 rfl rfl rfl ?_
            refine U.getI fl_X5_47 t0 dX5_takeItem_80 rfl ?_
            refine V.aload_n (j := 0) dX5_takeItem_83 rfl rfl rfl ?_
            refine U.getI fl_X5_54 t0 dX5_takeItem_84 rfl ?_
            refine V.iload_n (j := 2) dX5_takeItem_87 rfl rfl rfl ?_
            refine V.aload_n (j := 1) dX5_takeItem_88 rfl rfl rfl ?_
            refine U.getI fl_X5_65 t2 dX5_takeItem_89 rfl ?_
            obtain ⟨v13, q12, hx⟩ := ob_some hx
            refine U.callS (As := [.int (hI h9 l0 1), .int l3, .int (hI h9 l2 2)]) (rest := [.int (hI h9 l0 7)]) (st' := [.int v13, .int (hI h9 l0 7)]) hE.1 (mX5_most hE q12) mic_X5_most rfl wq_m_X5_68 wq_t_yX5_most ⟨Nat.le_of_ble_eq_true rfl, Nat.le_of_ble_eq_true rfl⟩ (Nat.le_of_ble_eq_true rfl) dX5_takeItem_92 rfl rfl rfl ?_
            refine V.icmp_le (tgt := 100) hx dX5_takeItem_95 (by decide) rfl (fun hx => ?_) (fun hx => ?_)
            · refine V.aload_n (j := 0) dX5_takeItem_100 rfl rfl rfl ?_
              refine U.getP fl_X5_15 t0 dX5_takeItem_101 rfl ?_
              refine V.iload_n (j := 2) dX5_takeItem_104 rfl rfl rfl ?_
              refine V.aload_n (j := 0) dX5_takeItem_105 rfl rfl rfl ?_
              refine U.getI fl_X5_47 t0 dX5_takeItem_106 rfl ?_
              refine U.iast hx (ty_X5_2 t0) dX5_takeItem_109 rfl (fun h14 hx => ?_)
              refine U.iinc hx (fun v15 => [(3, .int v15), (0, .ref (G.1 + l0)), (2, .ref (G.1 + l2))]) (j := 2) rfl (by decide) (Nat.le_of_ble_eq_true rfl) (fun _ => rfl) dX5_takeItem_110 rfl (fun v15 hx => ?_)
              refine V.goto (q := 32) dX5_takeItem_113 (by decide) ?_
              refine V.pick [1, 2, 0] rfl ?_
              exact ih l0 l2 v15 h14 t0 t2 hx
            · refine V.iconst dX5_takeItem_98 rfl ki_0 ?_
              obtain rfl := Option.some.inj hx
              exact U.retI rfl rfl rfl rfl dX5_takeItem_99
set_option maxRecDepth 100000 in
set_option maxHeartbeats 4000000 in
theorem mX5_takeItem {l : Launch} {G : GG} {EX : State → Prop} (hE : EXB G EX) {th : Nat} {a1 : Int32} {a2 : Nat} {h : AH} (t0 : KD th = 4) (t2 : KD a2 = 1) {r : Int32 × AH} (hx : fX5_takeItem th a1 a2 h = some r) : MetU l G EX mi_X5_takeItem 7 147 [.ref (G.1 + th), .int a1, .ref (G.1 + a2)] h (some (.int r.1)) r.2 := by
  refine MetU.of mic_X5_takeItem.1 (Nat.le_of_ble_eq_true rfl) ?_
  refine show U l G EX mi_X5_takeItem 7 147 (some (.int r.1)) r.2 0 [(0, .ref (G.1 + th)), (1, .int a1), (2, .ref (G.1 + a2))] [] h from ?_
  unfold fX5_takeItem at hx
  refine V.aload_n (j := 0) dX5_takeItem_0 rfl rfl rfl ?_
  refine U.getI fl_X5_33 t0 dX5_takeItem_1 rfl ?_
  refine V.iconst dX5_takeItem_4 rfl ki_1 ?_
  refine V.icmp_ne (tgt := 20) hx dX5_takeItem_5 (by decide) rfl (fun hx => ?_) (fun hx => ?_)
  · refine V.iconst dX5_takeItem_20 rfl ki_0 ?_
    obtain rfl := Option.some.inj hx
    exact U.retI rfl rfl rfl rfl dX5_takeItem_21
  · refine V.aload_n (j := 0) dX5_takeItem_8 rfl rfl rfl ?_
    refine U.getI fl_X5_47 t0 dX5_takeItem_9 rfl ?_
    refine V.iload_n (j := 1) dX5_takeItem_12 rfl rfl rfl ?_
    refine V.aload_n (j := 2) dX5_takeItem_13 rfl rfl rfl ?_
    obtain ⟨v2, q1, hx⟩ := ob_some hx
    refine U.callS (As := [.int (hI h th 7), .int a1, .ref (G.1 + a2)]) (rest := []) (st' := [.int v2]) hE.1 (mX5_mayStand hE t2 q1) mic_X5_mayStand rfl wq_m_X5_50 wq_t_yX5_mayStand ⟨Nat.le_of_ble_eq_true rfl, Nat.le_of_ble_eq_true rfl⟩ (Nat.le_of_ble_eq_true rfl) dX5_takeItem_14 rfl rfl rfl ?_
    refine V.if_ne (tgt := 22) hx dX5_takeItem_17 (by decide) rfl (fun hx => ?_) (fun hx => ?_)
    · refine V.aload_n (j := 0) dX5_takeItem_22 rfl rfl rfl ?_
      refine V.aload_n (j := 0) dX5_takeItem_23 rfl rfl rfl ?_
      refine U.getI fl_X5_47 t0 dX5_takeItem_24 rfl ?_
      refine U.putI hx fl_X5_54 t0 rfl rfl dX5_takeItem_27 rfl (fun h3 hx => ?_)
      refine V.iconst dX5_takeItem_30 rfl ki_0 ?_
      refine V.istore_n [(3, .int (0 : Int32)), (0, .ref (G.1 + th)), (1, .int a1), (2, .ref (G.1 + a2))] dX5_takeItem_31 rfl rfl (Nat.le_of_ble_eq_true rfl) rfl ?_
      refine V.pick [1, 3, 0] rfl ?_
      exact vX5_takeItem_32 hE FU th a2 (0 : Int32) h3 t0 t2 hx
    · refine V.iconst dX5_takeItem_20 rfl ki_0 ?_
      obtain rfl := Option.some.inj hx
      exact U.retI rfl rfl rfl rfl dX5_takeItem_21
set_option maxRecDepth 100000 in
set_option maxHeartbeats 4000000 in
theorem mX2_hasShow {l : Launch} {G : GG} {EX : State → Prop} (hE : EXB G EX) {th : Nat} {a1 : Int32} {h : AH} (t0 : KD th = 1) {r : Int32} (hx : fX2_hasShow th a1 h = some r) : MetU l G EX mi_X2_hasShow 0 0 [.ref (G.1 + th), .int a1] h (some (.int r)) h := by
  refine MetU.of mic_X2_hasShow.1 (Nat.le_of_ble_eq_true rfl) ?_
  refine show U l G EX mi_X2_hasShow 0 0 (some (.int r)) h 0 [(0, .ref (G.1 + th)), (1, .int a1)] [] h from ?_
  unfold fX2_hasShow at hx
  refine V.iload_n (j := 1) dX2_hasShow_0 rfl rfl rfl ?_
  refine V.if_lt (tgt := 16) hx dX2_hasShow_1 (by decide) rfl (fun hx => ?_) (fun hx => ?_)
  · refine V.iconst dX2_hasShow_16 rfl ki_0 ?_
    obtain rfl := Option.some.inj hx
    exact U.retI rfl rfl rfl rfl dX2_hasShow_17
  · refine V.iload_n (j := 1) dX2_hasShow_4 rfl rfl rfl ?_
    refine V.aload_n (j := 0) dX2_hasShow_5 rfl rfl rfl ?_
    refine U.getI fl_X2_40 t0 dX2_hasShow_6 rfl ?_
    refine V.icmp_ge (tgt := 16) hx dX2_hasShow_9 (by decide) rfl (fun hx => ?_) (fun hx => ?_)
    · refine V.iconst dX2_hasShow_16 rfl ki_0 ?_
      obtain rfl := Option.some.inj hx
      exact U.retI rfl rfl rfl rfl dX2_hasShow_17
    · refine V.iconst dX2_hasShow_12 rfl ki_1 ?_
      refine V.goto (q := 17) dX2_hasShow_13 (by decide) ?_
      obtain rfl := Option.some.inj hx
      exact U.retI rfl rfl rfl rfl dX2_hasShow_17
set_option maxRecDepth 100000 in
set_option maxHeartbeats 4000000 in
theorem vX2_onBits_4 {l : Launch} {G : GG} {EX : State → Prop} (hE : EXB G EX) {h : AH} {r : Int32} : ∀ (n : Nat) (l0 : Nat) (l1 : Int32) (l2 : Int32) (t0 : KD l0 = 1), fX2_onBits_4 h n l0 l1 l2 = some r → U l G EX mi_X2_onBits 0 0 (some (.int r)) h 4 [(0, .ref (G.1 + l0)), (1, .int l1), (2, .int l2)] [] h := by
  intro n
  induction n with
  | zero =>
    intro l0 l1 l2 t0 hx
    have hx : none = some r := hx
    cases hx
  | succ n ih =>
    intro l0 l1 l2 t0 hx
    rw [fX2_onBits_4] at hx
    refine V.iload_n (j := 2) dX2_onBits_4 rfl rfl rfl ?_
    refine V.aload_n (j := 0) dX2_onBits_5 rfl rfl rfl ?_
    refine U.getI fl_X2_40 t0 dX2_onBits_6 rfl ?_
    refine V.icmp_ge (tgt := 29) hx dX2_onBits_9 (by decide) rfl (fun hx => ?_) (fun hx => ?_)
    · refine V.iload_n (j := 1) dX2_onBits_29 rfl rfl rfl ?_
      obtain rfl := Option.some.inj hx
      exact U.retI rfl rfl rfl rfl dX2_onBits_30
    · refine V.iload_n (j := 1) dX2_onBits_12 rfl rfl rfl ?_
      refine V.aload_n (j := 0) dX2_onBits_13 rfl rfl rfl ?_
      refine U.getP fl_X2_21 t0 dX2_onBits_14 rfl ?_
      refine V.iload_n (j := 2) dX2_onBits_17 rfl rfl rfl ?_
      refine U.iald hx (ty_X2_7 t0) dX2_onBits_18 rfl (fun hx => ?_)
      refine V.iload_n (j := 2) dX2_onBits_19 rfl rfl rfl ?_
      refine V.ishl dX2_onBits_20 rfl ?_
      refine V.ior dX2_onBits_21 rfl ?_
      refine U.letI hx (fun v1 hx => ?_)
      refine V.istore_n [(1, .int v1), (0, .ref (G.1 + l0)), (2, .int l2)] dX2_onBits_22 rfl rfl (Nat.le_of_ble_eq_true rfl) rfl ?_
      refine U.iinc hx (fun v2 => [(2, .int v2), (1, .int v1), (0, .ref (G.1 + l0))]) (j := 2) rfl (by decide) (Nat.le_of_ble_eq_true rfl) (fun _ => rfl) dX2_onBits_23 rfl (fun v2 hx => ?_)
      refine V.goto (q := 4) dX2_onBits_26 (by decide) ?_
      refine V.pick [2, 1, 0] rfl ?_
      exact ih l0 v1 v2 t0 hx
set_option maxRecDepth 100000 in
set_option maxHeartbeats 4000000 in
theorem mX2_onBits {l : Launch} {G : GG} {EX : State → Prop} (hE : EXB G EX) {th : Nat} {h : AH} (t0 : KD th = 1) {r : Int32} (hx : fX2_onBits th h = some r) : MetU l G EX mi_X2_onBits 0 0 [.ref (G.1 + th)] h (some (.int r)) h := by
  refine MetU.of mic_X2_onBits.1 (Nat.le_of_ble_eq_true rfl) ?_
  refine show U l G EX mi_X2_onBits 0 0 (some (.int r)) h 0 [(0, .ref (G.1 + th))] [] h from ?_
  unfold fX2_onBits at hx
  refine V.iconst dX2_onBits_0 rfl ki_0 ?_
  refine V.istore_n [(1, .int (0 : Int32)), (0, .ref (G.1 + th))] dX2_onBits_1 rfl rfl (Nat.le_of_ble_eq_true rfl) rfl ?_
  refine V.iconst dX2_onBits_2 rfl ki_0 ?_
  refine V.istore_n [(2, .int (0 : Int32)), (1, .int (0 : Int32)), (0, .ref (G.1 + th))] dX2_onBits_3 rfl rfl (Nat.le_of_ble_eq_true rfl) rfl ?_
  refine V.pick [2, 1, 0] rfl ?_
  exact vX2_onBits_4 hE FU th (0 : Int32) (0 : Int32) t0 hx
set_option maxRecDepth 100000 in
set_option maxHeartbeats 4000000 in
theorem mX2_dayStep {l : Launch} {G : GG} {EX : State → Prop} (hE : EXB G EX) {th : Nat} {a1 : Int32} {h : AH} (t0 : KD th = 1) {r : Int32} (hx : fX2_dayStep th a1 h = some r) : MetU l G EX mi_X2_dayStep 0 0 [.ref (G.1 + th), .int a1] h (some (.int r)) h := by
  refine MetU.of mic_X2_dayStep.1 (Nat.le_of_ble_eq_true rfl) ?_
  refine show U l G EX mi_X2_dayStep 0 0 (some (.int r)) h 0 [(0, .ref (G.1 + th)), (1, .int a1)] [] h from ?_
  unfold fX2_dayStep at hx
  refine V.aload_n (j := 0) dX2_dayStep_0 rfl rfl rfl ?_
  refine U.getI fl_X2_33 t0 dX2_dayStep_1 rfl ?_
  refine V.iload_n (j := 1) dX2_dayStep_4 rfl rfl rfl ?_
  refine V.iadd dX2_dayStep_5 rfl ?_
  refine V.bipush dX2_dayStep_6 rfl kb_12 ?_
  refine V.irem dX2_dayStep_8 rfl (by decide) ?_
  obtain rfl := Option.some.inj hx
  exact U.retI rfl rfl rfl rfl dX2_dayStep_9
set_option maxRecDepth 100000 in
set_option maxHeartbeats 4000000 in
theorem mX8_far {l : Launch} {G : GG} {EX : State → Prop} (hE : EXB G EX) {a0 : Int32} {a1 : Int32} {h : AH} {r : Int32} (hx : fX8_far a0 a1 = some r) : MetU l G EX mi_X8_far 1 21 [.int a0, .int a1] h (some (.int r)) h := by
  refine MetU.of mic_X8_far.1 (Nat.le_of_ble_eq_true rfl) ?_
  refine show U l G EX mi_X8_far 1 21 (some (.int r)) h 0 [(0, .int a0), (1, .int a1)] [] h from ?_
  unfold fX8_far at hx
  refine V.iload_n (j := 0) dX8_far_0 rfl rfl rfl ?_
  refine V.bipush dX8_far_1 rfl kb_6 ?_
  refine V.idiv dX8_far_3 rfl (by decide) ?_
  refine V.iload_n (j := 1) dX8_far_4 rfl rfl rfl ?_
  refine V.bipush dX8_far_5 rfl kb_6 ?_
  refine V.idiv dX8_far_7 rfl (by decide) ?_
  refine V.isub dX8_far_8 rfl ?_
  refine U.mabs wq_m_X8_331 (Nat.le_of_ble_eq_true rfl) (Nat.le_of_ble_eq_true rfl) dX8_far_9 rfl ?_
  refine V.iload_n (j := 0) dX8_far_12 rfl rfl rfl ?_
  refine V.bipush dX8_far_13 rfl kb_6 ?_
  refine V.irem dX8_far_15 rfl (by decide) ?_
  refine V.iload_n (j := 1) dX8_far_16 rfl rfl rfl ?_
  refine V.bipush dX8_far_17 rfl kb_6 ?_
  refine V.irem dX8_far_19 rfl (by decide) ?_
  refine V.isub dX8_far_20 rfl ?_
  refine U.mabs wq_m_X8_331 (Nat.le_of_ble_eq_true rfl) (Nat.le_of_ble_eq_true rfl) dX8_far_21 rfl ?_
  refine V.iadd dX8_far_24 rfl ?_
  obtain rfl := Option.some.inj hx
  exact U.retI rfl rfl rfl rfl dX8_far_25
set_option maxRecDepth 100000 in
set_option maxHeartbeats 4000000 in
theorem vX1_pullBy_39 {l : Launch} {G : GG} {EX : State → Prop} (hE : EXB G EX) {h : AH} {r : Int32} : ∀ (l0 : Int32) (l3 : Int32) (l4 : Int32) (l5 : Int32) (s0 : Int32), fX1_pullBy_39 l0 l3 l4 l5 s0 = some r → U l G EX mi_X1_pullBy 1 21 (some (.int r)) h 39 [(0, .int l0), (3, .int l3), (4, .int l4), (5, .int l5)] [.int s0] h := by
  intro l0 l3 l4 l5 s0 hx
  unfold fX1_pullBy_39 at hx
  refine V.istore [(6, .int s0), (0, .int l0), (3, .int l3), (4, .int l4), (5, .int l5)] dX1_pullBy_39 rfl (Nat.le_of_ble_eq_true rfl) rfl ?_
  refine V.bipush dX1_pullBy_41 rfl kb_30 ?_
  refine V.iconst dX1_pullBy_43 rfl ki_2 ?_
  refine V.iload (j := 4) dX1_pullBy_44 rfl rfl ?_
  refine V.imul dX1_pullBy_46 rfl ?_
  refine U.mmin wq_m_X1_13 (Nat.le_of_ble_eq_true rfl) (Nat.le_of_ble_eq_true rfl) dX1_pullBy_47 rfl ?_
  refine U.letI hx (fun v2 hx => ?_)
  refine V.istore [(7, .int v2), (6, .int s0), (0, .int l0), (3, .int l3), (4, .int l4), (5, .int l5)] dX1_pullBy_50 rfl (Nat.le_of_ble_eq_true rfl) rfl ?_
  refine V.iload_n (j := 2) dX1_pullBy_52 rfl rfl rfl ?_
  refine sw_case (ci := 1) hx (by decide) (fun c2 hx => ?_) (fun c2 hx => ?_)
  · refine V.tableIn (tgt := 88) dX1_pullBy_53 (by rw [c2]; decide) (by rw [c2]; decide) (by rw [c2]; rfl) (by decide) ?_
    refine V.iload (j := 5) dX1_pullBy_88 rfl rfl ?_
    obtain rfl := Option.some.inj hx
    exact U.retI rfl rfl rfl rfl dX1_pullBy_90
  refine sw_case (ci := 2) hx (by decide) (fun c3 hx => ?_) (fun c3 hx => ?_)
  · refine V.tableIn (tgt := 91) dX1_pullBy_53 (by rw [c3]; decide) (by rw [c3]; decide) (by rw [c3]; rfl) (by decide) ?_
    refine V.iload (j := 1) dX1_pullBy_91 rfl rfl ?_
    obtain rfl := Option.some.inj hx
    exact U.retI rfl rfl rfl rfl dX1_pullBy_93
  refine sw_case (ci := 3) hx (by decide) (fun c4 hx => ?_) (fun c4 hx => ?_)
  · refine V.tableIn (tgt := 94) dX1_pullBy_53 (by rw [c4]; decide) (by rw [c4]; decide) (by rw [c4]; rfl) (by decide) ?_
    refine V.iload (j := 0) dX1_pullBy_94 rfl rfl ?_
    obtain rfl := Option.some.inj hx
    exact U.retI rfl rfl rfl rfl dX1_pullBy_96
  refine sw_case (ci := 4) hx (by decide) (fun c5 hx => ?_) (fun c5 hx => ?_)
  · refine V.tableIn (tgt := 97) dX1_pullBy_53 (by rw [c5]; decide) (by rw [c5]; decide) (by rw [c5]; rfl) (by decide) ?_
    refine V.iload_n (j := 3) dX1_pullBy_97 rfl rfl rfl ?_
    refine V.bipush dX1_pullBy_98 rfl kb_6 ?_
    refine V.icmp_lt (tgt := 108) hx dX1_pullBy_100 (by decide) rfl (fun hx => ?_) (fun hx => ?_)
    · refine V.iconst dX1_pullBy_108 rfl ki_0 ?_
      obtain rfl := Option.some.inj hx
      exact U.retI rfl rfl rfl rfl dX1_pullBy_109
    · refine V.iload (j := 0) dX1_pullBy_103 rfl rfl ?_
      refine V.goto (q := 109) dX1_pullBy_105 (by decide) ?_
      obtain rfl := Option.some.inj hx
      exact U.retI rfl rfl rfl rfl dX1_pullBy_109
  refine sw_case (ci := 5) hx (by decide) (fun c6 hx => ?_) (fun c6 hx => ?_)
  · refine V.tableIn (tgt := 110) dX1_pullBy_53 (by rw [c6]; decide) (by rw [c6]; decide) (by rw [c6]; rfl) (by decide) ?_
    refine V.iload (j := 1) dX1_pullBy_110 rfl rfl ?_
    refine V.iconst dX1_pullBy_112 rfl ki_1 ?_
    refine V.icmp_lt (tgt := 123) hx dX1_pullBy_113 (by decide) rfl (fun hx => ?_) (fun hx => ?_)
    · refine V.iload (j := 1) dX1_pullBy_123 rfl rfl ?_
      obtain rfl := Option.some.inj hx
      exact U.retI rfl rfl rfl rfl dX1_pullBy_125
    · refine V.iload (j := 1) dX1_pullBy_116 rfl rfl ?_
      refine V.iconst dX1_pullBy_118 rfl ki_1 ?_
      refine V.iadd dX1_pullBy_119 rfl ?_
      refine V.goto (q := 125) dX1_pullBy_120 (by decide) ?_
      obtain rfl := Option.some.inj hx
      exact U.retI rfl rfl rfl rfl dX1_pullBy_125
  refine V.tableOut (tgt := 126) dX1_pullBy_53 (by omega) (by decide) ?_
  refine V.iload (j := 4) dX1_pullBy_126 rfl rfl ?_
  obtain rfl := Option.some.inj hx
  exact U.retI rfl rfl rfl rfl dX1_pullBy_128
set_option maxRecDepth 100000 in
set_option maxHeartbeats 4000000 in
theorem vX1_pullBy_26 {l : Launch} {G : GG} {EX : State → Prop} (hE : EXB G EX) {h : AH} {r : Int32} : ∀ (l0 : Int32) (l2 : Int32) (l3 : Int32) (l4 : Int32) (s0 : Int32), fX1_pullBy_26 l0 l2 l3 l4 s0 = some r → U l G EX mi_X1_pullBy 1 21 (some (.int r)) h 26 [(0, .int l0), (2, .int l2), (3, .int l3), (4, .int l4)] [.int s0] h := by
  intro l0 l2 l3 l4 s0 hx
  unfold fX1_pullBy_26 at hx
  refine V.istore [(5, .int s0), (0, .int l0), (2, .int l2), (3, .int l3), (4, .int l4)] dX1_pullBy_26 rfl (Nat.le_of_ble_eq_true rfl) rfl ?_
  refine V.iload_n (j := 2) dX1_pullBy_28 rfl rfl rfl ?_
  refine V.iconst dX1_pullBy_29 rfl ki_5 ?_
  refine V.icmp_le (tgt := 37) hx dX1_pullBy_30 (by decide) rfl (fun hx => ?_) (fun hx => ?_)
  · refine V.iload (j := 4) dX1_pullBy_37 rfl rfl ?_
    refine V.pick [1, 3, 4, 0] rfl ?_
    exact vX1_pullBy_39 hE l0 l3 l4 s0 l4 hx
  · refine V.iconst dX1_pullBy_33 rfl ki_0 ?_
    refine V.goto (q := 39) dX1_pullBy_34 (by decide) ?_
    refine V.pick [1, 3, 4, 0] rfl ?_
    exact vX1_pullBy_39 hE l0 l3 l4 s0 (0 : Int32) hx
set_option maxRecDepth 100000 in
set_option maxHeartbeats 4000000 in
theorem mX1_pullBy {l : Launch} {G : GG} {EX : State → Prop} (hE : EXB G EX) {a0 : Int32} {a1 : Int32} {a2 : Int32} {a3 : Int32} {h : AH} {r : Int32} (hx : fX1_pullBy a0 a1 a2 a3 = some r) : MetU l G EX mi_X1_pullBy 1 21 [.int a0, .int a1, .int a2, .int a3] h (some (.int r)) h := by
  refine MetU.of mic_X1_pullBy.1 (Nat.le_of_ble_eq_true rfl) ?_
  refine show U l G EX mi_X1_pullBy 1 21 (some (.int r)) h 0 [(0, .int a0), (1, .int a1), (2, .int a2), (3, .int a3)] [] h from ?_
  unfold fX1_pullBy at hx
  refine V.iconst dX1_pullBy_0 rfl ki_0 ?_
  refine V.iconst dX1_pullBy_1 rfl ki_2 ?_
  refine V.iload_n (j := 1) dX1_pullBy_2 rfl rfl rfl ?_
  refine V.imul dX1_pullBy_3 rfl ?_
  refine V.iload_n (j := 2) dX1_pullBy_4 rfl rfl rfl ?_
  refine V.isub dX1_pullBy_5 rfl ?_
  refine U.mmax wq_m_X1_7 (Nat.le_of_ble_eq_true rfl) (Nat.le_of_ble_eq_true rfl) dX1_pullBy_6 rfl ?_
  refine U.letI hx (fun v1 hx => ?_)
  refine V.istore [(4, .int v1), (0, .int a0), (1, .int a1), (2, .int a2), (3, .int a3)] dX1_pullBy_9 rfl (Nat.le_of_ble_eq_true rfl) rfl ?_
  refine V.iload_n (j := 4) dX1_pullBy_11 rfl rfl rfl ?_
  refine V.iconst dX1_pullBy_12 rfl ki_2 ?_
  refine V.irem dX1_pullBy_13 rfl (by decide) ?_
  refine V.if_ne (tgt := 24) hx dX1_pullBy_14 (by decide) rfl (fun hx => ?_) (fun hx => ?_)
  · refine V.iload (j := 0) dX1_pullBy_24 rfl rfl ?_
    refine V.pick [1, 3, 4, 0] rfl ?_
    exact vX1_pullBy_26 hE a0 a2 a3 v1 v1 hx
  · refine V.iload (j := 0) dX1_pullBy_17 rfl rfl ?_
    refine V.iconst dX1_pullBy_19 rfl ki_3 ?_
    refine V.iadd dX1_pullBy_20 rfl ?_
    refine V.goto (q := 26) dX1_pullBy_21 (by decide) ?_
    refine V.pick [1, 3, 4, 0] rfl ?_
    exact vX1_pullBy_26 hE a0 a2 a3 v1 (v1 + (3 : Int32)) hx
set_option maxRecDepth 100000 in
set_option maxHeartbeats 4000000 in
theorem vX2_greatestPull_6 {l : Launch} {G : GG} {EX : State → Prop} (hE : EXB G EX) {h : AH} {r : Int32} : ∀ (n : Nat) (l0 : Nat) (l1 : Int32) (l2 : Int32) (l3 : Int32) (l4 : Int32) (l5 : Int32) (t0 : KD l0 = 1), fX2_greatestPull_6 h n l0 l1 l2 l3 l4 l5 = some r → U l G EX mi_X2_greatestPull 2 48 (some (.int r)) h 6 [(0, .ref (G.1 + l0)), (1, .int l1), (2, .int l2), (3, .int l3), (4, .int l4), (5, .int l5)] [] h := by
  intro n
  induction n with
  | zero =>
    intro l0 l1 l2 l3 l4 l5 t0 hx
    have hx : none = some r := hx
    cases hx
  | succ n ih =>
    intro l0 l1 l2 l3 l4 l5 t0 hx
    rw [fX2_greatestPull_6] at hx
    refine V.iload (j := 5) dX2_greatestPull_6 rfl rfl ?_
    refine V.aload_n (j := 0) dX2_greatestPull_8 rfl rfl rfl ?_
    refine U.getI fl_X2_40 t0 dX2_greatestPull_9 rfl ?_
    refine V.icmp_ge (tgt := 71) hx dX2_greatestPull_12 (by decide) rfl (fun hx => ?_) (fun hx => ?_)
    · refine V.iload (j := 4) dX2_greatestPull_71 rfl rfl ?_
      obtain rfl := Option.some.inj hx
      exact U.retI rfl rfl rfl rfl dX2_greatestPull_73
    · refine V.iload_n (j := 1) dX2_greatestPull_15 rfl rfl rfl ?_
      refine V.iload (j := 5) dX2_greatestPull_16 rfl rfl ?_
      refine V.ishr dX2_greatestPull_18 rfl ?_
      refine V.iconst dX2_greatestPull_19 rfl ki_1 ?_
      refine V.iand dX2_greatestPull_20 rfl ?_
      refine V.iconst dX2_greatestPull_21 rfl ki_1 ?_
      refine V.icmp_ne (tgt := 65) hx dX2_greatestPull_22 (by decide) rfl (fun hx => ?_) (fun hx => ?_)
      · refine U.iinc hx (fun v1 => [(5, .int v1), (0, .ref (G.1 + l0)), (1, .int l1), (2, .int l2), (3, .int l3), (4, .int l4)]) (j := 5) rfl (by decide) (Nat.le_of_ble_eq_true rfl) (fun _ => rfl) dX2_greatestPull_65 rfl (fun v1 hx => ?_)
        refine V.goto (q := 6) dX2_greatestPull_68 (by decide) ?_
        refine V.pick [1, 2, 3, 4, 5, 0] rfl ?_
        exact ih l0 l1 l2 l3 l4 v1 t0 hx
      · refine V.aload_n (j := 0) dX2_greatestPull_25 rfl rfl rfl ?_
        refine U.getP fl_X2_15 t0 dX2_greatestPull_26 rfl ?_
        refine V.iload (j := 5) dX2_greatestPull_29 rfl rfl ?_
        refine U.iald hx (ty_X2_5 t0) dX2_greatestPull_31 rfl (fun hx => ?_)
        refine V.iload_n (j := 2) dX2_greatestPull_32 rfl rfl rfl ?_
        obtain ⟨v3, q2, hx⟩ := ob_some hx
        refine U.callSN (As := [.int (hI h (PC l0 5) (ix l5)), .int l2]) (rest := []) (st' := [.int v3]) hE.1 (mX8_far hE q2) mic_X8_far rfl wq_z_X2_52 wq_t_yX8_far ⟨Nat.le_of_ble_eq_true rfl, Nat.le_of_ble_eq_true rfl⟩ (Nat.le_of_ble_eq_true rfl) dX2_greatestPull_33 rfl rfl rfl ?_
        refine V.istore [(6, .int v3), (0, .ref (G.1 + l0)), (1, .int l1), (2, .int l2), (3, .int l3), (4, .int l4), (5, .int l5)] dX2_greatestPull_36 rfl (Nat.le_of_ble_eq_true rfl) rfl ?_
        refine V.iload (j := 5) dX2_greatestPull_38 rfl rfl ?_
        refine V.aload_n (j := 1) dX2_greatestPull_40 rfl rfl rfl ?_
        refine U.getP fl_X2_9 t0 dX2_greatestPull_41 rfl ?_
        refine V.iload (j := 6) dX2_greatestPull_44 rfl rfl ?_
        refine U.iald hx (ty_X2_4 t0) dX2_greatestPull_46 rfl (fun hx => ?_)
        refine V.aload_n (j := 1) dX2_greatestPull_47 rfl rfl rfl ?_
        refine U.getP fl_X2_18 t0 dX2_greatestPull_48 rfl ?_
        refine V.iload (j := 6) dX2_greatestPull_51 rfl rfl ?_
        refine U.iald hx (ty_X2_6 t0) dX2_greatestPull_53 rfl (fun hx => ?_)
        refine V.iload (j := 0) dX2_greatestPull_54 rfl rfl ?_
        refine V.iload_n (j := 4) dX2_greatestPull_56 rfl rfl rfl ?_
        obtain ⟨v5, q4, hx⟩ := ob_some hx
        refine U.callS (As := [.int (hI h (PC l0 4) (ix l5)), .int (hI h (PC l0 6) (ix l5)), .int v3, .int l3]) (rest := [.int l4]) (st' := [.int v5, .int l4]) hE.1 (mX1_pullBy hE q4) mic_X1_pullBy rfl wq_m_X2_55 wq_t_yX1_pullBy ⟨Nat.le_of_ble_eq_true rfl, Nat.le_of_ble_eq_true rfl⟩ (Nat.le_of_ble_eq_true rfl) dX2_greatestPull_57 rfl rfl rfl ?_
        refine U.mmax wq_m_X2_65 (Nat.le_of_ble_eq_true rfl) (Nat.le_of_ble_eq_true rfl) dX2_greatestPull_60 rfl ?_
        refine U.letI hx (fun v6 hx => ?_)
        refine V.istore [(4, .int v6), (6, .int v3), (0, .ref (G.1 + l0)), (1, .int l1), (2, .int l2), (3, .int l3), (5, .int l5)] dX2_greatestPull_63 rfl (Nat.le_of_ble_eq_true rfl) rfl ?_
        refine U.iinc hx (fun v7 => [(5, .int v7), (4, .int v6), (6, .int v3), (0, .ref (G.1 + l0)), (1, .int l1), (2, .int l2), (3, .int l3)]) (j := 6) rfl (by decide) (Nat.le_of_ble_eq_true rfl) (fun _ => rfl) dX2_greatestPull_65 rfl (fun v7 hx => ?_)
        refine V.goto (q := 6) dX2_greatestPull_68 (by decide) ?_
        refine V.pick [3, 4, 5, 6, 1, 0] rfl ?_
        exact ih l0 l1 l2 l3 v6 v7 t0 hx
set_option maxRecDepth 100000 in
set_option maxHeartbeats 4000000 in
theorem mX2_greatestPull {l : Launch} {G : GG} {EX : State → Prop} (hE : EXB G EX) {th : Nat} {a1 : Int32} {a2 : Int32} {a3 : Int32} {h : AH} (t0 : KD th = 1) {r : Int32} (hx : fX2_greatestPull th a1 a2 a3 h = some r) : MetU l G EX mi_X2_greatestPull 2 48 [.ref (G.1 + th), .int a1, .int a2, .int a3] h (some (.int r)) h := by
  refine MetU.of mic_X2_greatestPull.1 (Nat.le_of_ble_eq_true rfl) ?_
  refine show U l G EX mi_X2_greatestPull 2 48 (some (.int r)) h 0 [(0, .ref (G.1 + th)), (1, .int a1), (2, .int a2), (3, .int a3)] [] h from ?_
  unfold fX2_greatestPull at hx
  refine V.iconst dX2_greatestPull_0 rfl ki_0 ?_
  refine V.istore [(4, .int (0 : Int32)), (0, .ref (G.1 + th)), (1, .int a1), (2, .int a2), (3, .int a3)] dX2_greatestPull_1 rfl (Nat.le_of_ble_eq_true rfl) rfl ?_
  refine V.iconst dX2_greatestPull_3 rfl ki_0 ?_
  refine V.istore [(5, .int (0 : Int32)), (4, .int (0 : Int32)), (0, .ref (G.1 + th)), (1, .int a1), (2, .int a2), (3, .int a3)] dX2_greatestPull_4 rfl (Nat.le_of_ble_eq_true rfl) rfl ?_
  refine V.pick [2, 3, 4, 5, 1, 0] rfl ?_
  exact vX2_greatestPull_6 hE FU th a1 a2 a3 (0 : Int32) (0 : Int32) t0 hx
set_option maxRecDepth 100000 in
set_option maxHeartbeats 4000000 in
theorem vX7_gauge_3 {l : Launch} {G : GG} {EX : State → Prop} (hE : EXB G EX) {r : AH} : ∀ (n : Nat) (l0 : Nat) (l1 : Nat) (l2 : Int32) (l3 : Int32) (l4 : Int32) (h : AH) (t0 : KD l0 = 6) (t1 : KD l1 = 1), fX7_gauge_3 n l0 l1 l2 l3 l4 h = some r → U l G EX mi_X7_gauge 3 74 none r 3 [(0, .ref (G.1 + l0)), (1, .ref (G.1 + l1)), (2, .int l2), (3, .int l3), (4, .int l4)] [] h := by
  intro n
  induction n with
  | zero =>
    intro l0 l1 l2 l3 l4 h t0 t1 hx
    have hx : none = some r := hx
    cases hx
  | succ n ih =>
    intro l0 l1 l2 l3 l4 h t0 t1 hx
    rw [fX7_gauge_3] at hx
    refine V.iload (j := 4) dX7_gauge_3 rfl rfl ?_
    refine V.aload_n (j := 1) dX7_gauge_5 rfl rfl rfl ?_
    refine U.getI fl_X7_15 t1 dX7_gauge_6 rfl ?_
    refine V.icmp_ge (tgt := 38) hx dX7_gauge_9 (by decide) rfl (fun hx => ?_) (fun hx => ?_)
    · obtain rfl := Option.some.inj hx
      exact U.ret0 rfl rfl rfl dX7_gauge_38
    · refine V.aload_n (j := 0) dX7_gauge_12 rfl rfl rfl ?_
      refine U.getP fl_X7_9 t0 dX7_gauge_13 rfl ?_
      refine V.iload (j := 4) dX7_gauge_16 rfl rfl ?_
      refine V.aload_n (j := 1) dX7_gauge_18 rfl rfl rfl ?_
      refine V.iload_n (j := 2) dX7_gauge_19 rfl rfl rfl ?_
      refine V.aload_n (j := 1) dX7_gauge_20 rfl rfl rfl ?_
      refine U.getP fl_X7_21 t1 dX7_gauge_21 rfl ?_
      refine V.iload (j := 4) dX7_gauge_24 rfl rfl ?_
      refine U.iald hx (ty_X2_9 t1) dX7_gauge_26 rfl (fun hx => ?_)
      refine V.iload_n (j := 3) dX7_gauge_27 rfl rfl rfl ?_
      obtain ⟨v2, q1, hx⟩ := ob_some hx
      refine U.callV (As := [.int l2, .int (hI h (PC l1 9) (ix l4)), .int l3]) (rest := [.int l4, .ref (G.1 + (PC l0 0))]) (st' := [.int v2, .int l4, .ref (G.1 + (PC l0 0))]) hE.1 (mX2_greatestPull hE t1 q1) mic_X2_greatestPull rfl t1 (by decide) rfl rfl wq_m_X7_24 wq_i_yX2_greatestPull wq_s_yX2_greatestPull ⟨Nat.le_of_ble_eq_true rfl, Nat.le_of_ble_eq_true rfl⟩ (Nat.le_of_ble_eq_true rfl) dX7_gauge_28 rfl rfl rfl ?_
      refine U.iast hx (ty_X7_0 t0) dX7_gauge_31 rfl (fun h3 hx => ?_)
      refine U.iinc hx (fun v4 => [(4, .int v4), (0, .ref (G.1 + l0)), (1, .ref (G.1 + l1)), (2, .int l2), (3, .int l3)]) (j := 4) rfl (by decide) (Nat.le_of_ble_eq_true rfl) (fun _ => rfl) dX7_gauge_32 rfl (fun v4 hx => ?_)
      refine V.goto (q := 3) dX7_gauge_35 (by decide) ?_
      refine V.pick [1, 2, 3, 4, 0] rfl ?_
      exact ih l0 l1 l2 l3 v4 h3 t0 t1 hx
set_option maxRecDepth 100000 in
set_option maxHeartbeats 4000000 in
theorem mX7_gauge {l : Launch} {G : GG} {EX : State → Prop} (hE : EXB G EX) {th : Nat} {a1 : Nat} {a2 : Int32} {a3 : Int32} {h : AH} (t0 : KD th = 6) (t1 : KD a1 = 1) {r : AH} (hx : fX7_gauge th a1 a2 a3 h = some r) : MetU l G EX mi_X7_gauge 3 74 [.ref (G.1 + th), .ref (G.1 + a1), .int a2, .int a3] h none r := by
  refine MetU.of mic_X7_gauge.1 (Nat.le_of_ble_eq_true rfl) ?_
  refine show U l G EX mi_X7_gauge 3 74 none r 0 [(0, .ref (G.1 + th)), (1, .ref (G.1 + a1)), (2, .int a2), (3, .int a3)] [] h from ?_
  unfold fX7_gauge at hx
  refine V.iconst dX7_gauge_0 rfl ki_0 ?_
  refine V.istore [(4, .int (0 : Int32)), (0, .ref (G.1 + th)), (1, .ref (G.1 + a1)), (2, .int a2), (3, .int a3)] dX7_gauge_1 rfl (Nat.le_of_ble_eq_true rfl) rfl ?_
  refine V.pick [1, 2, 3, 4, 0] rfl ?_
  exact vX7_gauge_3 hE FU th a1 a2 a3 (0 : Int32) h t0 t1 hx
set_option maxRecDepth 100000 in
set_option maxHeartbeats 4000000 in
theorem mX1_notesBy {l : Launch} {G : GG} {EX : State → Prop} (hE : EXB G EX) {a0 : Int32} {a1 : Int32} {h : AH} {r : Int32} (hx : fX1_notesBy a0 a1 = some r) : MetU l G EX mi_X1_notesBy 1 21 [.int a0, .int a1] h (some (.int r)) h := by
  refine MetU.of mic_X1_notesBy.1 (Nat.le_of_ble_eq_true rfl) ?_
  refine show U l G EX mi_X1_notesBy 1 21 (some (.int r)) h 0 [(0, .int a0), (1, .int a1)] [] h from ?_
  unfold fX1_notesBy at hx
  refine V.iconst dX1_notesBy_0 rfl ki_0 ?_
  refine V.bipush dX1_notesBy_1 rfl kb_12 ?_
  refine V.iconst dX1_notesBy_3 rfl ki_2 ?_
  refine V.iload_n (j := 1) dX1_notesBy_4 rfl rfl rfl ?_
  refine V.imul dX1_notesBy_5 rfl ?_
  refine V.isub dX1_notesBy_6 rfl ?_
  refine U.mmax wq_m_X1_7 (Nat.le_of_ble_eq_true rfl) (Nat.le_of_ble_eq_true rfl) dX1_notesBy_7 rfl ?_
  refine U.letI hx (fun v1 hx => ?_)
  refine V.istore_n [(2, .int v1), (0, .int a0), (1, .int a1)] dX1_notesBy_10 rfl rfl (Nat.le_of_ble_eq_true rfl) rfl ?_
  refine V.iload_n (j := 1) dX1_notesBy_11 rfl rfl rfl ?_
  refine sw_case (ci := 3) hx (by decide) (fun c1 hx => ?_) (fun c1 hx => ?_)
  · refine V.lookup (tgt := 40) dX1_notesBy_12 (by decide) (by first | (rw [c1]; done) | (rw [c1]; rfl)) (by decide) ?_
    refine V.iload_n (j := 0) dX1_notesBy_40 rfl rfl rfl ?_
    refine V.iconst dX1_notesBy_41 rfl ki_4 ?_
    refine V.iadd dX1_notesBy_42 rfl ?_
    obtain rfl := Option.some.inj hx
    exact U.retI rfl rfl rfl rfl dX1_notesBy_43
  refine sw_case (ci := 5) hx (by decide) (fun c2 hx => ?_) (fun c2 hx => ?_)
  · refine V.lookup (tgt := 44) dX1_notesBy_12 (by decide) (by first | (rw [c2]; done) | (rw [c2]; rfl)) (by decide) ?_
    refine V.iload_n (j := 0) dX1_notesBy_44 rfl rfl rfl ?_
    refine V.iconst dX1_notesBy_45 rfl ki_1 ?_
    refine V.iadd dX1_notesBy_46 rfl ?_
    refine V.iconst dX1_notesBy_47 rfl ki_2 ?_
    refine V.idiv dX1_notesBy_48 rfl (by decide) ?_
    obtain rfl := Option.some.inj hx
    exact U.retI rfl rfl rfl rfl dX1_notesBy_49
  refine V.lookup (tgt := 50) (off := 38) dX1_notesBy_12 (by decide) (by show Op.lookupswitch.offset [(3, 28), (5, 32)] (38) a0.toInt = (38); rw [osw c1, osw c2]; rfl) (by decide) ?_
  refine V.iload_n (j := 0) dX1_notesBy_50 rfl rfl rfl ?_
  obtain rfl := Option.some.inj hx
  exact U.retI rfl rfl rfl rfl dX1_notesBy_51
set_option maxRecDepth 100000 in
set_option maxHeartbeats 4000000 in
theorem mX1_drawnBy {l : Launch} {G : GG} {EX : State → Prop} (hE : EXB G EX) {a0 : Int32} {a1 : Int32} {h : AH} {r : Int32} (hx : fX1_drawnBy a0 a1 = some r) : MetU l G EX mi_X1_drawnBy 0 0 [.int a0, .int a1] h (some (.int r)) h := by
  refine MetU.of mic_X1_drawnBy.1 (Nat.le_of_ble_eq_true rfl) ?_
  refine show U l G EX mi_X1_drawnBy 0 0 (some (.int r)) h 0 [(0, .int a0), (1, .int a1)] [] h from ?_
  unfold fX1_drawnBy at hx
  refine V.iconst dX1_drawnBy_0 rfl ki_2 ?_
  refine V.iload_n (j := 1) dX1_drawnBy_1 rfl rfl rfl ?_
  refine V.imul dX1_drawnBy_2 rfl ?_
  refine U.letI hx (fun v1 hx => ?_)
  refine V.istore_n [(2, .int v1), (0, .int a0), (1, .int a1)] dX1_drawnBy_3 rfl rfl (Nat.le_of_ble_eq_true rfl) rfl ?_
  refine V.iload_n (j := 0) dX1_drawnBy_4 rfl rfl rfl ?_
  refine V.iconst dX1_drawnBy_5 rfl ki_2 ?_
  refine V.iadd dX1_drawnBy_6 rfl ?_
  refine U.letI hx (fun v2 hx => ?_)
  refine V.istore_n [(3, .int v2), (2, .int v1), (0, .int a0), (1, .int a1)] dX1_drawnBy_7 rfl rfl (Nat.le_of_ble_eq_true rfl) rfl ?_
  refine V.iload_n (j := 2) dX1_drawnBy_8 rfl rfl rfl ?_
  refine sw_case (ci := 1) hx (by decide) (fun c2 hx => ?_) (fun c2 hx => ?_)
  · refine V.tableIn (tgt := 44) dX1_drawnBy_9 (by rw [c2]; decide) (by rw [c2]; decide) (by rw [c2]; rfl) (by decide) ?_
    refine V.iload_n (j := 1) dX1_drawnBy_44 rfl rfl rfl ?_
    obtain rfl := Option.some.inj hx
    exact U.retI rfl rfl rfl rfl dX1_drawnBy_45
  refine sw_case (ci := 2) hx (by decide) (fun c3 hx => ?_) (fun c3 hx => ?_)
  · refine V.tableIn (tgt := 46) dX1_drawnBy_9 (by rw [c3]; decide) (by rw [c3]; decide) (by rw [c3]; rfl) (by decide) ?_
    refine V.iconst dX1_drawnBy_46 rfl ki_0 ?_
    obtain rfl := Option.some.inj hx
    exact U.retI rfl rfl rfl rfl dX1_drawnBy_47
  refine sw_case (ci := 3) hx (by decide) (fun c4 hx => ?_) (fun c4 hx => ?_)
  · refine V.tableIn (tgt := 54) dX1_drawnBy_9 (by rw [c4]; decide) (by rw [c4]; decide) (by rw [c4]; rfl) (by decide) ?_
    refine V.iload_n (j := 3) dX1_drawnBy_54 rfl rfl rfl ?_
    obtain rfl := Option.some.inj hx
    exact U.retI rfl rfl rfl rfl dX1_drawnBy_55
  refine sw_case (ci := 4) hx (by decide) (fun c5 hx => ?_) (fun c5 hx => ?_)
  · refine V.tableIn (tgt := 48) dX1_drawnBy_9 (by rw [c5]; decide) (by rw [c5]; decide) (by rw [c5]; rfl) (by decide) ?_
    refine V.iload_n (j := 0) dX1_drawnBy_48 rfl rfl rfl ?_
    obtain rfl := Option.some.inj hx
    exact U.retI rfl rfl rfl rfl dX1_drawnBy_49
  refine sw_case (ci := 5) hx (by decide) (fun c6 hx => ?_) (fun c6 hx => ?_)
  · refine V.tableIn (tgt := 50) dX1_drawnBy_9 (by rw [c6]; decide) (by rw [c6]; decide) (by rw [c6]; rfl) (by decide) ?_
    refine V.iload_n (j := 0) dX1_drawnBy_50 rfl rfl rfl ?_
    refine V.iconst dX1_drawnBy_51 rfl ki_2 ?_
    refine V.idiv dX1_drawnBy_52 rfl (by decide) ?_
    obtain rfl := Option.some.inj hx
    exact U.retI rfl rfl rfl rfl dX1_drawnBy_53
  refine V.tableOut (tgt := 54) dX1_drawnBy_9 (by omega) (by decide) ?_
  refine V.iload_n (j := 3) dX1_drawnBy_54 rfl rfl rfl ?_
  obtain rfl := Option.some.inj hx
  exact U.retI rfl rfl rfl rfl dX1_drawnBy_55
set_option maxRecDepth 100000 in
set_option maxHeartbeats 4000000 in
theorem mX1_seesBy {l : Launch} {G : GG} {EX : State → Prop} (hE : EXB G EX) {a0 : Int32} {a1 : Int32} {a2 : Int32} {h : AH} {r : Int32} (hx : fX1_seesBy a0 a1 a2 = some r) : MetU l G EX mi_X1_seesBy 2 43 [.int a0, .int a1, .int a2] h (some (.int r)) h := by
  refine MetU.of mic_X1_seesBy.1 (Nat.le_of_ble_eq_true rfl) ?_
  refine show U l G EX mi_X1_seesBy 2 43 (some (.int r)) h 0 [(0, .int a0), (1, .int a1), (2, .int a2)] [] h from ?_
  unfold fX1_seesBy at hx
  refine V.iload_n (j := 0) dX1_seesBy_0 rfl rfl rfl ?_
  refine V.iload_n (j := 1) dX1_seesBy_1 rfl rfl rfl ?_
  obtain ⟨v2, q1, hx⟩ := ob_some hx
  refine U.callS (As := [.int a0, .int a1]) (rest := []) (st' := [.int v2]) hE.1 (mX1_notesBy hE q1) mic_X1_notesBy rfl wq_m_X1_16 wq_t_yX1_notesBy ⟨Nat.le_of_ble_eq_true rfl, Nat.le_of_ble_eq_true rfl⟩ (Nat.le_of_ble_eq_true rfl) dX1_seesBy_2 rfl rfl rfl ?_
  refine V.iload_n (j := 0) dX1_seesBy_5 rfl rfl rfl ?_
  refine V.iload_n (j := 2) dX1_seesBy_6 rfl rfl rfl ?_
  obtain ⟨v4, q3, hx⟩ := ob_some hx
  refine U.callS (As := [.int a0, .int a2]) (rest := [.int v2]) (st' := [.int v4, .int v2]) hE.1 (mX1_drawnBy hE q3) mic_X1_drawnBy rfl wq_m_X1_21 wq_t_yX1_drawnBy ⟨Nat.le_of_ble_eq_true rfl, Nat.le_of_ble_eq_true rfl⟩ (Nat.le_of_ble_eq_true rfl) dX1_seesBy_7 rfl rfl rfl ?_
  refine V.icmp_le (tgt := 17) hx dX1_seesBy_10 (by decide) rfl (fun hx => ?_) (fun hx => ?_)
  · refine V.iconst dX1_seesBy_17 rfl ki_0 ?_
    obtain rfl := Option.some.inj hx
    exact U.retI rfl rfl rfl rfl dX1_seesBy_18
  · refine V.iconst dX1_seesBy_13 rfl ki_1 ?_
    refine V.goto (q := 18) dX1_seesBy_14 (by decide) ?_
    obtain rfl := Option.some.inj hx
    exact U.retI rfl rfl rfl rfl dX1_seesBy_18
set_option maxRecDepth 100000 in
set_option maxHeartbeats 4000000 in
theorem vX7_witnesses_5 {l : Launch} {G : GG} {EX : State → Prop} (hE : EXB G EX) {h : AH} {r : Int32} : ∀ (n : Nat) (l0 : Nat) (l1 : Nat) (l2 : Int32) (l3 : Int32) (l4 : Int32) (t0 : KD l0 = 6) (t1 : KD l1 = 1), fX7_witnesses_5 h n l0 l1 l2 l3 l4 = some r → U l G EX mi_X7_witnesses 3 65 (some (.int r)) h 5 [(0, .ref (G.1 + l0)), (1, .ref (G.1 + l1)), (2, .int l2), (3, .int l3), (4, .int l4)] [] h := by
  intro n
  induction n with
  | zero =>
    intro l0 l1 l2 l3 l4 t0 t1 hx
    have hx : none = some r := hx
    cases hx
  | succ n ih =>
    intro l0 l1 l2 l3 l4 t0 t1 hx
    rw [fX7_witnesses_5] at hx
    refine V.iload (j := 4) dX7_witnesses_5 rfl rfl ?_
    refine V.aload_n (j := 1) dX7_witnesses_7 rfl rfl rfl ?_
    refine U.getI fl_X7_15 t1 dX7_witnesses_8 rfl ?_
    refine V.icmp_ge (tgt := 58) hx dX7_witnesses_11 (by decide) rfl (fun hx => ?_) (fun hx => ?_)
    · refine V.iload_n (j := 3) dX7_witnesses_58 rfl rfl rfl ?_
      obtain rfl := Option.some.inj hx
      exact U.retI rfl rfl rfl rfl dX7_witnesses_59
    · refine V.aload_n (j := 1) dX7_witnesses_14 rfl rfl rfl ?_
      refine U.getP fl_X7_28 t1 dX7_witnesses_15 rfl ?_
      refine V.iload (j := 4) dX7_witnesses_18 rfl rfl ?_
      refine U.iald hx (ty_X2_8 t1) dX7_witnesses_20 rfl (fun hx => ?_)
      refine V.aload_n (j := 1) dX7_witnesses_21 rfl rfl rfl ?_
      refine U.getP fl_X7_21 t1 dX7_witnesses_22 rfl ?_
      refine V.iload (j := 4) dX7_witnesses_25 rfl rfl ?_
      refine U.iald hx (ty_X2_9 t1) dX7_witnesses_27 rfl (fun hx => ?_)
      refine V.iload_n (j := 2) dX7_witnesses_28 rfl rfl rfl ?_
      obtain ⟨v2, q1, hx⟩ := ob_some hx
      refine U.callSN (As := [.int (hI h (PC l1 9) (ix l4)), .int l2]) (rest := [.int (hI h (PC l1 8) (ix l4))]) (st' := [.int v2, .int (hI h (PC l1 8) (ix l4))]) hE.1 (mX8_far hE q1) mic_X8_far rfl wq_z_X7_31 wq_t_yX8_far ⟨Nat.le_of_ble_eq_true rfl, Nat.le_of_ble_eq_true rfl⟩ (Nat.le_of_ble_eq_true rfl) dX7_witnesses_29 rfl rfl rfl ?_
      refine V.aload_n (j := 0) dX7_witnesses_32 rfl rfl rfl ?_
      refine U.getP fl_X7_9 t0 dX7_witnesses_33 rfl ?_
      refine V.iload (j := 4) dX7_witnesses_36 rfl rfl ?_
      refine U.iald hx (ty_X7_0 t0) dX7_witnesses_38 rfl (fun hx => ?_)
      obtain ⟨v4, q3, hx⟩ := ob_some hx
      refine U.callS (As := [.int (hI h (PC l1 8) (ix l4)), .int v2, .int (hI h (PC l0 0) (ix l4))]) (rest := []) (st' := [.int v4]) hE.1 (mX1_seesBy hE q3) mic_X1_seesBy rfl wq_m_X7_35 wq_t_yX1_seesBy ⟨Nat.le_of_ble_eq_true rfl, Nat.le_of_ble_eq_true rfl⟩ (Nat.le_of_ble_eq_true rfl) dX7_witnesses_39 rfl rfl rfl ?_
      refine V.if_eq (tgt := 52) hx dX7_witnesses_42 (by decide) rfl (fun hx => ?_) (fun hx => ?_)
      · refine U.iinc hx (fun v5 => [(4, .int v5), (0, .ref (G.1 + l0)), (1, .ref (G.1 + l1)), (2, .int l2), (3, .int l3)]) (j := 4) rfl (by decide) (Nat.le_of_ble_eq_true rfl) (fun _ => rfl) dX7_witnesses_52 rfl (fun v5 hx => ?_)
        refine V.goto (q := 5) dX7_witnesses_55 (by decide) ?_
        refine V.pick [1, 2, 3, 4, 0] rfl ?_
        exact ih l0 l1 l2 l3 v5 t0 t1 hx
      · refine V.iload_n (j := 3) dX7_witnesses_45 rfl rfl rfl ?_
        refine V.iconst dX7_witnesses_46 rfl ki_1 ?_
        refine V.iload (j := 4) dX7_witnesses_47 rfl rfl ?_
        refine V.ishl dX7_witnesses_49 rfl ?_
        refine V.ior dX7_witnesses_50 rfl ?_
        refine U.letI hx (fun v6 hx => ?_)
        refine V.istore_n [(3, .int v6), (0, .ref (G.1 + l0)), (1, .ref (G.1 + l1)), (2, .int l2), (4, .int l4)] dX7_witnesses_51 rfl rfl (Nat.le_of_ble_eq_true rfl) rfl ?_
        refine U.iinc hx (fun v7 => [(4, .int v7), (3, .int v6), (0, .ref (G.1 + l0)), (1, .ref (G.1 + l1)), (2, .int l2)]) (j := 4) rfl (by decide) (Nat.le_of_ble_eq_true rfl) (fun _ => rfl) dX7_witnesses_52 rfl (fun v7 hx => ?_)
        refine V.goto (q := 5) dX7_witnesses_55 (by decide) ?_
        refine V.pick [2, 3, 4, 1, 0] rfl ?_
        exact ih l0 l1 l2 v6 v7 t0 t1 hx
set_option maxRecDepth 100000 in
set_option maxHeartbeats 4000000 in
theorem mX7_witnesses {l : Launch} {G : GG} {EX : State → Prop} (hE : EXB G EX) {th : Nat} {a1 : Nat} {a2 : Int32} {h : AH} (t0 : KD th = 6) (t1 : KD a1 = 1) {r : Int32} (hx : fX7_witnesses th a1 a2 h = some r) : MetU l G EX mi_X7_witnesses 3 65 [.ref (G.1 + th), .ref (G.1 + a1), .int a2] h (some (.int r)) h := by
  refine MetU.of mic_X7_witnesses.1 (Nat.le_of_ble_eq_true rfl) ?_
  refine show U l G EX mi_X7_witnesses 3 65 (some (.int r)) h 0 [(0, .ref (G.1 + th)), (1, .ref (G.1 + a1)), (2, .int a2)] [] h from ?_
  unfold fX7_witnesses at hx
  refine V.iconst dX7_witnesses_0 rfl ki_0 ?_
  refine V.istore_n [(3, .int (0 : Int32)), (0, .ref (G.1 + th)), (1, .ref (G.1 + a1)), (2, .int a2)] dX7_witnesses_1 rfl rfl (Nat.le_of_ble_eq_true rfl) rfl ?_
  refine V.iconst dX7_witnesses_2 rfl ki_0 ?_
  refine V.istore [(4, .int (0 : Int32)), (3, .int (0 : Int32)), (0, .ref (G.1 + th)), (1, .ref (G.1 + a1)), (2, .int a2)] dX7_witnesses_3 rfl (Nat.le_of_ble_eq_true rfl) rfl ?_
  refine V.pick [2, 3, 4, 1, 0] rfl ?_
  exact vX7_witnesses_5 hE FU th a1 a2 (0 : Int32) (0 : Int32) t0 t1 hx
set_option maxRecDepth 100000 in
set_option maxHeartbeats 4000000 in
theorem mX2_pass {l : Launch} {G : GG} {EX : State → Prop} (hE : EXB G EX) {th : Nat} {a1 : Int32} {h : AH} (t0 : KD th = 1) {r : AH} (hx : fX2_pass th a1 h = some r) : MetU l G EX mi_X2_pass 1 21 [.ref (G.1 + th), .int a1] h none r := by
  refine MetU.of mic_X2_pass.1 (Nat.le_of_ble_eq_true rfl) ?_
  refine show U l G EX mi_X2_pass 1 21 none r 0 [(0, .ref (G.1 + th)), (1, .int a1)] [] h from ?_
  unfold fX2_pass at hx
  refine V.aload_n (j := 0) dX2_pass_0 rfl rfl rfl ?_
  refine V.sipush dX2_pass_1 rfl ks_9999 ?_
  refine V.aload_n (j := 0) dX2_pass_4 rfl rfl rfl ?_
  refine U.getI fl_X2_33 t0 dX2_pass_5 rfl ?_
  refine V.iload_n (j := 1) dX2_pass_8 rfl rfl rfl ?_
  refine V.iadd dX2_pass_9 rfl ?_
  refine U.mmin wq_m_X2_46 (Nat.le_of_ble_eq_true rfl) (Nat.le_of_ble_eq_true rfl) dX2_pass_10 rfl ?_
  refine U.putI hx fl_X2_33 t0 rfl rfl dX2_pass_13 rfl (fun h1 hx => ?_)
  obtain rfl := Option.some.inj hx
  exact U.ret0 rfl rfl rfl dX2_pass_16
set_option maxRecDepth 100000 in
set_option maxHeartbeats 4000000 in
theorem vX7_doingIn_55 {l : Launch} {G : GG} {EX : State → Prop} (hE : EXB G EX) {r : Int32 × AH} : ∀ (l1 : Nat) (l3 : Int32) (h : AH) (t1 : KD l1 = 1), fX7_doingIn_55 l1 l3 h = some r → U l G EX mi_X7_doingIn 4 98 (some (.int r.1)) r.2 55 [(1, .ref (G.1 + l1)), (3, .int l3)] [] h := by
  intro l1 l3 h t1 hx
  unfold fX7_doingIn_55 at hx
  refine V.aload_n (j := 0) dX7_doingIn_55 rfl rfl rfl ?_
  refine V.dup dX7_doingIn_56 rfl rfl ?_
  refine U.getI fl_X7_79 t1 dX7_doingIn_57 rfl ?_
  refine V.iconst dX7_doingIn_60 rfl ki_1 ?_
  refine V.iadd dX7_doingIn_61 rfl ?_
  refine U.putI hx fl_X7_79 t1 rfl rfl dX7_doingIn_62 rfl (fun h9 hx => ?_)
  refine V.aload_n (j := 0) dX7_doingIn_65 rfl rfl rfl ?_
  refine V.iconst dX7_doingIn_66 rfl ki_1 ?_
  obtain ⟨h11, q10, hx⟩ := ob_some hx
  refine U.callV (As := [.int (1 : Int32)]) (rest := []) (st' := []) hE.1 (mX2_pass hE t1 q10) mic_X2_pass rfl t1 (by decide) rfl rfl wq_m_X7_82 wq_i_yX2_pass wq_s_yX2_pass ⟨Nat.le_of_ble_eq_true rfl, Nat.le_of_ble_eq_true rfl⟩ (Nat.le_of_ble_eq_true rfl) dX7_doingIn_67 rfl rfl rfl ?_
  refine V.iload_n (j := 1) dX7_doingIn_70 rfl rfl rfl ?_
  obtain rfl := Option.some.inj hx
  exact U.retI rfl rfl rfl rfl dX7_doingIn_71
set_option maxRecDepth 100000 in
set_option maxHeartbeats 4000000 in
theorem vX7_doingIn_24 {l : Launch} {G : GG} {EX : State → Prop} (hE : EXB G EX) {r : Int32 × AH} : ∀ (n : Nat) (l1 : Nat) (l3 : Int32) (l4 : Int32) (h : AH) (t1 : KD l1 = 1), fX7_doingIn_24 n l1 l3 l4 h = some r → U l G EX mi_X7_doingIn 4 98 (some (.int r.1)) r.2 24 [(1, .ref (G.1 + l1)), (3, .int l3), (4, .int l4)] [] h := by
  intro n
  induction n with
  | zero =>
    intro l1 l3 l4 h t1 hx
    have hx : none = some r := hx
    cases hx
  | succ n ih =>
    intro l1 l3 l4 h t1 hx
    rw [fX7_doingIn_24] at hx
    refine V.iload (j := 2) dX7_doingIn_24 rfl rfl ?_
    refine V.aload_n (j := 0) dX7_doingIn_26 rfl rfl rfl ?_
    refine U.getI fl_X7_15 t1 dX7_doingIn_27 rfl ?_
    refine V.icmp_ge (tgt := 55) hx dX7_doingIn_30 (by decide) rfl (fun hx => ?_) (fun hx => ?_)
    · refine V.pick [0, 1] rfl ?_
      exact vX7_doingIn_55 hE l1 l3 h t1 hx
    · refine V.aload_n (j := 0) dX7_doingIn_33 rfl rfl rfl ?_
      refine U.getP fl_X7_76 t1 dX7_doingIn_34 rfl ?_
      refine V.iload (j := 2) dX7_doingIn_37 rfl rfl ?_
      refine V.dup2 dX7_doingIn_39 rfl rfl rfl ?_
      refine U.iald hx (ty_X2_10 t1) dX7_doingIn_40 rfl (fun hx => ?_)
      refine V.iload_n (j := 1) dX7_doingIn_41 rfl rfl rfl ?_
      refine V.iload (j := 2) dX7_doingIn_42 rfl rfl ?_
      refine V.ishr dX7_doingIn_44 rfl ?_
      refine V.iconst dX7_doingIn_45 rfl ki_1 ?_
      refine V.iand dX7_doingIn_46 rfl ?_
      refine V.iadd dX7_doingIn_47 rfl ?_
      refine U.iast hx (ty_X2_10 t1) dX7_doingIn_48 rfl (fun h12 hx => ?_)
      refine U.iinc hx (fun v13 => [(4, .int v13), (1, .ref (G.1 + l1)), (3, .int l3)]) (j := 2) rfl (by decide) (Nat.le_of_ble_eq_true rfl) (fun _ => rfl) dX7_doingIn_49 rfl (fun v13 hx => ?_)
      refine V.goto (q := 24) dX7_doingIn_52 (by decide) ?_
      refine V.pick [1, 2, 0] rfl ?_
      exact ih l1 l3 v13 h12 t1 hx
set_option maxRecDepth 100000 in
set_option maxHeartbeats 4000000 in
theorem mX7_doingIn {l : Launch} {G : GG} {EX : State → Prop} (hE : EXB G EX) {th : Nat} {a1 : Nat} {a2 : Int32} {h : AH} (t0 : KD th = 6) (t1 : KD a1 = 1) {r : Int32 × AH} (hx : fX7_doingIn th a1 a2 h = some r) : MetU l G EX mi_X7_doingIn 4 98 [.ref (G.1 + th), .ref (G.1 + a1), .int a2] h (some (.int r.1)) r.2 := by
  refine MetU.of mic_X7_doingIn.1 (Nat.le_of_ble_eq_true rfl) ?_
  refine show U l G EX mi_X7_doingIn 4 98 (some (.int r.1)) r.2 0 [(0, .ref (G.1 + th)), (1, .ref (G.1 + a1)), (2, .int a2)] [] h from ?_
  unfold fX7_doingIn at hx
  refine V.aload_n (j := 0) dX7_doingIn_0 rfl rfl rfl ?_
  refine V.aload_n (j := 1) dX7_doingIn_1 rfl rfl rfl ?_
  refine V.aload_n (j := 1) dX7_doingIn_2 rfl rfl rfl ?_
  obtain ⟨v2, q1, hx⟩ := ob_some hx
  refine U.callV (As := []) (rest := [.ref (G.1 + a1), .ref (G.1 + th)]) (st' := [.int v2, .ref (G.1 + a1), .ref (G.1 + th)]) hE.1 (mX2_onBits hE t1 q1) mic_X2_onBits rfl t1 (by decide) rfl rfl wq_m_X7_41 wq_i_yX2_onBits wq_s_yX2_onBits ⟨Nat.le_of_ble_eq_true rfl, Nat.le_of_ble_eq_true rfl⟩ (Nat.le_of_ble_eq_true rfl) dX7_doingIn_3 rfl rfl rfl ?_
  refine V.aload_n (j := 1) dX7_doingIn_6 rfl rfl rfl ?_
  refine V.iconst dX7_doingIn_7 rfl ki_0 ?_
  obtain ⟨v4, q3, hx⟩ := ob_some hx
  refine U.callV (As := [.int (0 : Int32)]) (rest := [.int v2, .ref (G.1 + a1), .ref (G.1 + th)]) (st' := [.int v4, .int v2, .ref (G.1 + a1), .ref (G.1 + th)]) hE.1 (mX2_dayStep hE t1 q3) mic_X2_dayStep rfl t1 (by decide) rfl rfl wq_m_X7_53 wq_i_yX2_dayStep wq_s_yX2_dayStep ⟨Nat.le_of_ble_eq_true rfl, Nat.le_of_ble_eq_true rfl⟩ (Nat.le_of_ble_eq_true rfl) dX7_doingIn_8 rfl rfl rfl ?_
  obtain ⟨h6, q5, hx⟩ := ob_some hx
  refine U.callV (As := [.ref (G.1 + a1), .int v2, .int v4]) (rest := []) (st' := []) hE.1 (mX7_gauge hE t0 t1 q5) mic_X7_gauge rfl t0 (by decide) rfl rfl wq_m_X7_45 wq_i_yX7_gauge wq_s_yX7_gauge ⟨Nat.le_of_ble_eq_true rfl, Nat.le_of_ble_eq_true rfl⟩ (Nat.le_of_ble_eq_true rfl) dX7_doingIn_11 rfl rfl rfl ?_
  refine V.aload_n (j := 0) dX7_doingIn_14 rfl rfl rfl ?_
  refine V.aload_n (j := 1) dX7_doingIn_15 rfl rfl rfl ?_
  refine V.iload_n (j := 2) dX7_doingIn_16 rfl rfl rfl ?_
  obtain ⟨v8, q7, hx⟩ := ob_some hx
  refine U.callV (As := [.ref (G.1 + a1), .int a2]) (rest := []) (st' := [.int v8]) hE.1 (mX7_witnesses hE t0 t1 q7) mic_X7_witnesses rfl t0 (by decide) rfl rfl wq_m_X7_49 wq_i_yX7_witnesses wq_s_yX7_witnesses ⟨Nat.le_of_ble_eq_true rfl, Nat.le_of_ble_eq_true rfl⟩ (Nat.le_of_ble_eq_true rfl) dX7_doingIn_17 rfl rfl rfl ?_
  refine V.istore_n [(3, .int v8), (0, .ref (G.1 + th)), (1, .ref (G.1 + a1)), (2, .int a2)] dX7_doingIn_20 rfl rfl (Nat.le_of_ble_eq_true rfl) rfl ?_
  refine V.iconst dX7_doingIn_21 rfl ki_0 ?_
  refine V.istore [(4, .int (0 : Int32)), (3, .int v8), (0, .ref (G.1 + th)), (1, .ref (G.1 + a1)), (2, .int a2)] dX7_doingIn_22 rfl (Nat.le_of_ble_eq_true rfl) rfl ?_
  refine V.pick [3, 1, 0] rfl ?_
  exact vX7_doingIn_24 hE FU a1 v8 (0 : Int32) h6 t1 hx
