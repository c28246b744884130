set_option maxRecDepth 100000 in
set_option maxHeartbeats 4000000 in
theorem vX8_enough_35 {l : Launch} {G : GG} {EX : State → Prop} (hE : EXB G EX) {r : Int32 × AH} : ∀ (n : Nat) (l0 : Nat) (l1 : Int32) (l2 : Int32) (l3 : Int32) (l4 : Int32) (l5 : Int32) (h : AH) (t0 : KD l0 = 7), fX8_enough_35 n l0 l1 l2 l3 l4 l5 h = some r → U l G EX mi_X8_enough 4 98 (some (.int r.1)) r.2 35 [(0, .ref (G.1 + l0)), (1, .int l1), (2, .int l2), (3, .int l3), (4, .int l4), (5, .int l5)] [] h := by
  intro n
  induction n with
  | zero =>
    intro l0 l1 l2 l3 l4 l5 h t0 hx
    have hx : none = some r := hx
    cases hx
  | succ n ih =>
    intro l0 l1 l2 l3 l4 l5 h t0 hx
    rw [fX8_enough_35] at hx
    refine V.iload (j := 5) dX8_enough_35 rfl rfl ?_
    refine V.iconst dX8_enough_37 rfl ki_1 ?_
    refine V.aload_n (j := 0) dX8_enough_38 rfl rfl rfl ?_
    refine U.getP fl_X8_10 t0 dX8_enough_39 rfl ?_
    refine U.getP fl_X8_60 (ty_X8_0 t0) dX8_enough_42 rfl ?_
    refine U.getI fl_X8_84 (ty_X0_0 (ty_X8_0 t0)) dX8_enough_45 rfl ?_
    refine V.ishl dX8_enough_48 rfl ?_
    refine V.icmp_ge (tgt := 115) hx dX8_enough_49 (by decide) rfl (fun hx => ?_) (fun hx => ?_)
    · refine V.iload_n (j := 2) dX8_enough_115 rfl rfl rfl ?_
      obtain rfl := Option.some.inj hx
      exact U.retI rfl rfl rfl rfl dX8_enough_116
    · refine V.iload (j := 5) dX8_enough_52 rfl rfl ?_
      obtain ⟨v6, q5, hx⟩ := ob_some hx
      refine U.callS (As := [.int l5]) (rest := []) (st' := [.int v6]) hE.1 (mJ6_bitCount_0f7a4 hE q5) mic_J6_bitCount_0f7a4 rfl wq_m_X8_206 wq_t_yJ6_bitCount_0f7a4 ⟨Nat.le_of_ble_eq_true rfl, Nat.le_of_ble_eq_true rfl⟩ (Nat.le_of_ble_eq_true rfl) dX8_enough_54 rfl rfl rfl ?_
      refine V.iload_n (j := 3) dX8_enough_57 rfl rfl rfl ?_
      refine V.icmp_lt (tgt := 64) hx dX8_enough_58 (by decide) rfl (fun hx => ?_) (fun hx => ?_)
      · refine V.aload_n (j := 0) dX8_enough_64 rfl rfl rfl ?_
        refine U.getP fl_X8_34 t0 dX8_enough_65 rfl ?_
        refine V.aload_n (j := 0) dX8_enough_68 rfl rfl rfl ?_
        refine U.getP fl_X8_10 t0 dX8_enough_69 rfl ?_
        refine U.getP fl_X8_60 (ty_X8_0 t0) dX8_enough_72 rfl ?_
        refine V.iload (j := 5) dX8_enough_75 rfl rfl ?_
        refine V.iload (j := 4) dX8_enough_77 rfl rfl ?_
        obtain ⟨h8, q7, hx⟩ := ob_some hx
        refine U.callV (As := [.ref (G.1 + (PC (PC l0 0) 0)), .int l5, .int l4]) (rest := []) (st' := []) hE.1 (mX7_gauge hE (ty_X8_4 t0) (ty_X0_0 (ty_X8_0 t0)) q7) mic_X7_gauge rfl (ty_X8_4 t0) (by decide) rfl rfl wq_m_X8_191 wq_i_yX7_gauge wq_s_yX7_gauge ⟨Nat.le_of_ble_eq_true rfl, Nat.le_of_ble_eq_true rfl⟩ (Nat.le_of_ble_eq_true rfl) dX8_enough_79 rfl rfl rfl ?_
        refine V.aload_n (j := 0) dX8_enough_82 rfl rfl rfl ?_
        refine U.getP fl_X8_34 t0 dX8_enough_83 rfl ?_
        refine V.aload_n (j := 0) dX8_enough_86 rfl rfl rfl ?_
        refine U.getP fl_X8_10 t0 dX8_enough_87 rfl ?_
        refine U.getP fl_X8_60 (ty_X8_0 t0) dX8_enough_90 rfl ?_
        refine V.iload_n (j := 1) dX8_enough_93 rfl rfl rfl ?_
        obtain ⟨v10, q9, hx⟩ := ob_some hx
        refine U.callV (As := [.ref (G.1 + (PC (PC l0 0) 0)), .int l1]) (rest := []) (st' := [.int v10]) hE.1 (mX7_witnesses hE (ty_X8_4 t0) (ty_X0_0 (ty_X8_0 t0)) q9) mic_X7_witnesses rfl (ty_X8_4 t0) (by decide) rfl rfl wq_m_X8_195 wq_i_yX7_witnesses wq_s_yX7_witnesses ⟨Nat.le_of_ble_eq_true rfl, Nat.le_of_ble_eq_true rfl⟩ (Nat.le_of_ble_eq_true rfl) dX8_enough_94 rfl rfl rfl ?_
        refine V.if_ne (tgt := 109) hx dX8_enough_97 (by decide) rfl (fun hx => ?_) (fun hx => ?_)
        · refine U.iinc hx (fun v11 => [(5, .int v11), (0, .ref (G.1 + l0)), (1, .int l1), (2, .int l2), (3, .int l3), (4, .int l4)]) (j := 5) rfl (by decide) (Nat.le_of_ble_eq_true rfl) (fun _ => rfl) dX8_enough_109 rfl (fun v11 hx => ?_)
          refine V.goto (q := 35) dX8_enough_112 (by decide) ?_
          refine V.pick [1, 2, 3, 4, 5, 0] rfl ?_
          exact ih l0 l1 l2 l3 l4 v11 h8 t0 hx
        · refine V.iload (j := 5) dX8_enough_100 rfl rfl ?_
          refine V.istore_n [(2, .int l5), (0, .ref (G.1 + l0)), (1, .int l1), (3, .int l3), (4, .int l4), (5, .int l5)] dX8_enough_102 rfl rfl (Nat.le_of_ble_eq_true rfl) rfl ?_
          refine V.iload (j := 5) dX8_enough_103 rfl rfl ?_
          obtain ⟨v13, q12, hx⟩ := ob_some hx
          refine U.callS (As := [.int l5]) (rest := []) (st' := [.int v13]) hE.1 (mJ6_bitCount_0f7a4 hE q12) mic_J6_bitCount_0f7a4 rfl wq_m_X8_206 wq_t_yJ6_bitCount_0f7a4 ⟨Nat.le_of_ble_eq_true rfl, Nat.le_of_ble_eq_true rfl⟩ (Nat.le_of_ble_eq_true rfl) dX8_enough_105 rfl rfl rfl ?_
          refine V.istore_n [(3, .int v13), (2, .int l5), (0, .ref (G.1 + l0)), (1, .int l1), (4, .int l4), (5, .int l5)] dX8_enough_108 rfl rfl (Nat.le_of_ble_eq_true rfl) rfl ?_
          refine U.iinc hx (fun v14 => [(5, .int v14), (3, .int v13), (2, .int l5), (0, .ref (G.1 + l0)), (1, .int l1), (4, .int l4)]) (j := 5) rfl (by decide) (Nat.le_of_ble_eq_true rfl) (fun _ => rfl) dX8_enough_109 rfl (fun v14 hx => ?_)
          refine V.goto (q := 35) dX8_enough_112 (by decide) ?_
          refine V.pick [3, 4, 2, 1, 5, 0] rfl ?_
          exact ih l0 l1 l5 v13 l4 v14 h8 t0 hx
      · refine V.goto (q := 109) dX8_enough_61 (by decide) ?_
        refine U.iinc hx (fun v15 => [(5, .int v15), (0, .ref (G.1 + l0)), (1, .int l1), (2, .int l2), (3, .int l3), (4, .int l4)]) (j := 5) rfl (by decide) (Nat.le_of_ble_eq_true rfl) (fun _ => rfl) dX8_enough_109 rfl (fun v15 hx => ?_)
        refine V.goto (q := 35) dX8_enough_112 (by decide) ?_
        refine V.pick [1, 2, 3, 4, 5, 0] rfl ?_
        exact ih l0 l1 l2 l3 l4 v15 h t0 hx
set_option maxRecDepth 100000 in
set_option maxHeartbeats 4000000 in
theorem mX8_enough {l : Launch} {G : GG} {EX : State → Prop} (hE : EXB G EX) {th : Nat} {a1 : Int32} {h : AH} (t0 : KD th = 7) {r : Int32 × AH} (hx : fX8_enough th a1 h = some r) : MetU l G EX mi_X8_enough 4 98 [.ref (G.1 + th), .int a1] h (some (.int r.1)) r.2 := by
  refine MetU.of mic_X8_enough.1 (Nat.le_of_ble_eq_true rfl) ?_
  refine show U l G EX mi_X8_enough 4 98 (some (.int r.1)) r.2 0 [(0, .ref (G.1 + th)), (1, .int a1)] [] h from ?_
  unfold fX8_enough at hx
  refine V.iload_n (j := 1) dX8_enough_0 rfl rfl rfl ?_
  obtain ⟨v2, q1, hx⟩ := ob_some hx
  refine U.callS (As := [.int a1]) (rest := []) (st' := [.int v2]) hE.1 (mX8_isCell hE q1) mic_X8_isCell rfl wq_m_X8_74 wq_t_yX8_isCell ⟨Nat.le_of_ble_eq_true rfl, Nat.le_of_ble_eq_true rfl⟩ (Nat.le_of_ble_eq_true rfl) dX8_enough_1 rfl rfl rfl ?_
  refine V.if_ne (tgt := 14) hx dX8_enough_4 (by decide) rfl (fun hx => ?_) (fun hx => ?_)
  · refine V.iconst dX8_enough_14 rfl ki_m1 ?_
    refine V.istore_n [(2, .int (-1 : Int32)), (0, .ref (G.1 + th)), (1, .int a1)] dX8_enough_15 rfl rfl (Nat.le_of_ble_eq_true rfl) rfl ?_
    refine V.bipush dX8_enough_16 rfl kb_6 ?_
    refine V.istore_n [(3, .int (6 : Int32)), (2, .int (-1 : Int32)), (0, .ref (G.1 + th)), (1, .int a1)] dX8_enough_18 rfl rfl (Nat.le_of_ble_eq_true rfl) rfl ?_
    refine V.aload_n (j := 2) dX8_enough_19 rfl rfl rfl ?_
    refine U.getP fl_X8_10 t0 dX8_enough_20 rfl ?_
    refine U.getP fl_X8_60 (ty_X8_0 t0) dX8_enough_23 rfl ?_
    refine V.iconst dX8_enough_26 rfl ki_0 ?_
    obtain ⟨v4, q3, hx⟩ := ob_some hx
    refine U.callV (As := [.int (0 : Int32)]) (rest := []) (st' := [.int v4]) hE.1 (mX2_dayStep hE (ty_X0_0 (ty_X8_0 t0)) q3) mic_X2_dayStep rfl (ty_X0_0 (ty_X8_0 t0)) (by decide) rfl rfl wq_m_X8_160 wq_i_yX2_dayStep wq_s_yX2_dayStep ⟨Nat.le_of_ble_eq_true rfl, Nat.le_of_ble_eq_true rfl⟩ (Nat.le_of_ble_eq_true rfl) dX8_enough_27 rfl rfl rfl ?_
    refine V.istore [(4, .int v4), (3, .int (6 : Int32)), (2, .int (-1 : Int32)), (0, .ref (G.1 + th)), (1, .int a1)] dX8_enough_30 rfl (Nat.le_of_ble_eq_true rfl) rfl ?_
    refine V.iconst dX8_enough_32 rfl ki_0 ?_
    refine V.istore [(5, .int (0 : Int32)), (4, .int v4), (3, .int (6 : Int32)), (2, .int (-1 : Int32)), (0, .ref (G.1 + th)), (1, .int a1)] dX8_enough_33 rfl (Nat.le_of_ble_eq_true rfl) rfl ?_
    refine V.pick [4, 5, 3, 2, 1, 0] rfl ?_
    exact vX8_enough_35 hE FU th a1 (-1 : Int32) (6 : Int32) v4 (0 : Int32) h t0 hx
  · refine V.aload_n (j := 0) dX8_enough_7 rfl rfl rfl ?_
    refine V.bipush dX8_enough_8 rfl kb_m2 ?_
    obtain ⟨v18, h17, q16, hx⟩ := ob2_some hx
    refine U.callV (As := [.int (-2 : Int32)]) (rest := []) (st' := [.int v18]) hE.1 (mX8_refuse hE t0 q16) mic_X8_refuse rfl t0 (by decide) rfl rfl wq_m_X8_80 wq_i_yX8_refuse wq_s_yX8_refuse ⟨Nat.le_of_ble_eq_true rfl, Nat.le_of_ble_eq_true rfl⟩ (Nat.le_of_ble_eq_true rfl) dX8_enough_10 rfl rfl rfl ?_
    obtain rfl := Option.some.inj hx
    exact U.retI rfl rfl rfl rfl dX8_enough_13
set_option maxRecDepth 100000 in
set_option maxHeartbeats 4000000 in
theorem vX7_whoSeesWithShowAt_96 {l : Launch} {G : GG} {EX : State → Prop} (hE : EXB G EX) {r : Int32 × AH} : ∀ (l0 : Nat) (l1 : Nat) (l2 : Int32) (h : AH) (t0 : KD l0 = 6) (t1 : KD l1 = 1), fX7_whoSeesWithShowAt_96 l0 l1 l2 h = some r → U l G EX mi_X7_whoSeesWithShowAt 4 98 (some (.int r.1)) r.2 96 [(0, .ref (G.1 + l0)), (1, .ref (G.1 + l1)), (2, .int l2)] [] h := by
  intro l0 l1 l2 h t0 t1 hx
  unfold fX7_whoSeesWithShowAt_96 at hx
  refine V.aload_n (j := 0) dX7_whoSeesWithShowAt_96 rfl rfl rfl ?_
  refine V.aload_n (j := 1) dX7_whoSeesWithShowAt_97 rfl rfl rfl ?_
  refine V.iload_n (j := 2) dX7_whoSeesWithShowAt_98 rfl rfl rfl ?_
  obtain ⟨v8, q7, hx⟩ := ob_some hx
  refine U.callV (As := [.ref (G.1 + l1), .int l2]) (rest := []) (st' := [.int v8]) hE.1 (mX7_witnesses hE t0 t1 q7) mic_X7_witnesses rfl t0 (by decide) rfl rfl wq_m_X7_49 wq_i_yX7_witnesses wq_s_yX7_witnesses ⟨Nat.le_of_ble_eq_true rfl, Nat.le_of_ble_eq_true rfl⟩ (Nat.le_of_ble_eq_true rfl) dX7_whoSeesWithShowAt_99 rfl rfl rfl ?_
  obtain rfl := Option.some.inj hx
  exact U.retI rfl rfl rfl rfl dX7_whoSeesWithShowAt_102
set_option maxRecDepth 100000 in
set_option maxHeartbeats 4000000 in
theorem vX7_whoSeesWithShowAt_27 {l : Launch} {G : GG} {EX : State → Prop} (hE : EXB G EX) {r : Int32 × AH} : ∀ (n : Nat) (l0 : Nat) (l1 : Nat) (l2 : Int32) (l3 : Int32) (l4 : Int32) (l5 : Int32) (l6 : Int32) (h : AH) (t0 : KD l0 = 6) (t1 : KD l1 = 1), fX7_whoSeesWithShowAt_27 n l0 l1 l2 l3 l4 l5 l6 h = some r → U l G EX mi_X7_whoSeesWithShowAt 4 98 (some (.int r.1)) r.2 27 [(0, .ref (G.1 + l0)), (1, .ref (G.1 + l1)), (2, .int l2), (3, .int l3), (4, .int l4), (5, .int l5), (6, .int l6)] [] h := by
  intro n
  induction n with
  | zero =>
    intro l0 l1 l2 l3 l4 l5 l6 h t0 t1 hx
    have hx : none = some r := hx
    cases hx
  | succ n ih =>
    intro l0 l1 l2 l3 l4 l5 l6 h t0 t1 hx
    rw [fX7_whoSeesWithShowAt_27] at hx
    refine V.iload (j := 6) dX7_whoSeesWithShowAt_27 rfl rfl ?_
    refine V.aload_n (j := 1) dX7_whoSeesWithShowAt_29 rfl rfl rfl ?_
    refine U.getI fl_X7_15 t1 dX7_whoSeesWithShowAt_30 rfl ?_
    refine V.icmp_ge (tgt := 96) hx dX7_whoSeesWithShowAt_33 (by decide) rfl (fun hx => ?_) (fun hx => ?_)
    · refine V.pick [0, 1, 2] rfl ?_
      exact vX7_whoSeesWithShowAt_96 hE l0 l1 l2 h t0 t1 hx
    · refine V.iload (j := 4) dX7_whoSeesWithShowAt_36 rfl rfl ?_
      refine V.aload_n (j := 1) dX7_whoSeesWithShowAt_38 rfl rfl rfl ?_
      refine U.getP fl_X7_21 t1 dX7_whoSeesWithShowAt_39 rfl ?_
      refine V.iload (j := 6) dX7_whoSeesWithShowAt_42 rfl rfl ?_
      refine U.iald hx (ty_X2_9 t1) dX7_whoSeesWithShowAt_44 rfl (fun hx => ?_)
      obtain ⟨v10, q9, hx⟩ := ob_some hx
      refine U.callSN (As := [.int l4, .int (hI h (PC l1 9) (ix l6))]) (rest := []) (st' := [.int v10]) hE.1 (mX8_far hE q9) mic_X8_far rfl wq_z_X7_31 wq_t_yX8_far ⟨Nat.le_of_ble_eq_true rfl, Nat.le_of_ble_eq_true rfl⟩ (Nat.le_of_ble_eq_true rfl) dX7_whoSeesWithShowAt_45 rfl rfl rfl ?_
      refine V.istore [(7, .int v10), (0, .ref (G.1 + l0)), (1, .ref (G.1 + l1)), (2, .int l2), (3, .int l3), (4, .int l4), (5, .int l5), (6, .int l6)] dX7_whoSeesWithShowAt_48 rfl (Nat.le_of_ble_eq_true rfl) rfl ?_
      refine V.aload_n (j := 2) dX7_whoSeesWithShowAt_50 rfl rfl rfl ?_
      refine U.getP fl_X7_57 t1 dX7_whoSeesWithShowAt_51 rfl ?_
      refine V.iload_n (j := 4) dX7_whoSeesWithShowAt_54 rfl rfl rfl ?_
      refine U.iald hx (ty_X2_4 t1) dX7_whoSeesWithShowAt_55 rfl (fun hx => ?_)
      refine V.aload_n (j := 2) dX7_whoSeesWithShowAt_56 rfl rfl rfl ?_
      refine U.getP fl_X7_60 t1 dX7_whoSeesWithShowAt_57 rfl ?_
      refine V.iload_n (j := 4) dX7_whoSeesWithShowAt_60 rfl rfl rfl ?_
      refine U.iald hx (ty_X2_6 t1) dX7_whoSeesWithShowAt_61 rfl (fun hx => ?_)
      refine V.iload (j := 0) dX7_whoSeesWithShowAt_62 rfl rfl ?_
      refine V.iload (j := 6) dX7_whoSeesWithShowAt_64 rfl rfl ?_
      obtain ⟨v12, q11, hx⟩ := ob_some hx
      refine U.callS (As := [.int (hI h (PC l1 4) (ix l3)), .int (hI h (PC l1 6) (ix l3)), .int v10, .int l5]) (rest := []) (st' := [.int v12]) hE.1 (mX1_pullBy hE q11) mic_X1_pullBy rfl wq_m_X7_63 wq_t_yX1_pullBy ⟨Nat.le_of_ble_eq_true rfl, Nat.le_of_ble_eq_true rfl⟩ (Nat.le_of_ble_eq_true rfl) dX7_whoSeesWithShowAt_66 rfl rfl rfl ?_
      refine V.istore [(8, .int v12), (7, .int v10), (0, .ref (G.1 + l0)), (1, .ref (G.1 + l1)), (2, .int l2), (3, .int l3), (4, .int l4), (5, .int l5), (6, .int l6)] dX7_whoSeesWithShowAt_69 rfl (Nat.le_of_ble_eq_true rfl) rfl ?_
      refine V.aload_n (j := 2) dX7_whoSeesWithShowAt_71 rfl rfl rfl ?_
      refine U.getP fl_X7_9 t0 dX7_whoSeesWithShowAt_72 rfl ?_
      refine V.iload (j := 8) dX7_whoSeesWithShowAt_75 rfl rfl ?_
      refine V.aload_n (j := 2) dX7_whoSeesWithShowAt_77 rfl rfl rfl ?_
      refine U.getP fl_X7_9 t0 dX7_whoSeesWithShowAt_78 rfl ?_
      refine V.iload (j := 8) dX7_whoSeesWithShowAt_81 rfl rfl ?_
      refine U.iald hx (ty_X7_0 t0) dX7_whoSeesWithShowAt_83 rfl (fun hx => ?_)
      refine V.iload (j := 0) dX7_whoSeesWithShowAt_84 rfl rfl ?_
      refine U.mmax wq_m_X7_67 (Nat.le_of_ble_eq_true rfl) (Nat.le_of_ble_eq_true rfl) dX7_whoSeesWithShowAt_86 rfl ?_
      refine U.iast hx (ty_X7_0 t0) dX7_whoSeesWithShowAt_89 rfl (fun h13 hx => ?_)
      refine U.iinc hx (fun v14 => [(6, .int v14), (8, .int v12), (7, .int v10), (0, .ref (G.1 + l0)), (1, .ref (G.1 + l1)), (2, .int l2), (3, .int l3), (4, .int l4), (5, .int l5)]) (j := 8) rfl (by decide) (Nat.le_of_ble_eq_true rfl) (fun _ => rfl) dX7_whoSeesWithShowAt_90 rfl (fun v14 hx => ?_)
      refine V.goto (q := 27) dX7_whoSeesWithShowAt_93 (by decide) ?_
      refine V.pick [3, 4, 5, 6, 7, 8, 0] rfl ?_
      exact ih l0 l1 l2 l3 l4 l5 v14 h13 t0 t1 hx
set_option maxRecDepth 100000 in
set_option maxHeartbeats 4000000 in
theorem mX7_whoSeesWithShowAt {l : Launch} {G : GG} {EX : State → Prop} (hE : EXB G EX) {th : Nat} {a1 : Nat} {a2 : Int32} {a3 : Int32} {a4 : Int32} {h : AH} (t0 : KD th = 6) (t1 : KD a1 = 1) {r : Int32 × AH} (hx : fX7_whoSeesWithShowAt th a1 a2 a3 a4 h = some r) : MetU l G EX mi_X7_whoSeesWithShowAt 4 98 [.ref (G.1 + th), .ref (G.1 + a1), .int a2, .int a3, .int a4] h (some (.int r.1)) r.2 := by
  refine MetU.of mic_X7_whoSeesWithShowAt.1 (Nat.le_of_ble_eq_true rfl) ?_
  refine show U l G EX mi_X7_whoSeesWithShowAt 4 98 (some (.int r.1)) r.2 0 [(0, .ref (G.1 + th)), (1, .ref (G.1 + a1)), (2, .int a2), (3, .int a3), (4, .int a4)] [] h from ?_
  unfold fX7_whoSeesWithShowAt at hx
  refine V.aload_n (j := 1) dX7_whoSeesWithShowAt_0 rfl rfl rfl ?_
  refine V.iconst dX7_whoSeesWithShowAt_1 rfl ki_0 ?_
  obtain ⟨v2, q1, hx⟩ := ob_some hx
  refine U.callV (As := [.int (0 : Int32)]) (rest := []) (st' := [.int v2]) hE.1 (mX2_dayStep hE t1 q1) mic_X2_dayStep rfl t1 (by decide) rfl rfl wq_m_X7_53 wq_i_yX2_dayStep wq_s_yX2_dayStep ⟨Nat.le_of_ble_eq_true rfl, Nat.le_of_ble_eq_true rfl⟩ (Nat.le_of_ble_eq_true rfl) dX7_whoSeesWithShowAt_2 rfl rfl rfl ?_
  refine V.istore [(5, .int v2), (0, .ref (G.1 + th)), (1, .ref (G.1 + a1)), (2, .int a2), (3, .int a3), (4, .int a4)] dX7_whoSeesWithShowAt_5 rfl (Nat.le_of_ble_eq_true rfl) rfl ?_
  refine V.aload_n (j := 1) dX7_whoSeesWithShowAt_7 rfl rfl rfl ?_
  refine V.aload_n (j := 2) dX7_whoSeesWithShowAt_8 rfl rfl rfl ?_
  refine V.aload_n (j := 2) dX7_whoSeesWithShowAt_9 rfl rfl rfl ?_
  obtain ⟨v4, q3, hx⟩ := ob_some hx
  refine U.callV (As := []) (rest := [.ref (G.1 + a1), .ref (G.1 + th)]) (st' := [.int v4, .ref (G.1 + a1), .ref (G.1 + th)]) hE.1 (mX2_onBits hE t1 q3) mic_X2_onBits rfl t1 (by decide) rfl rfl wq_m_X7_41 wq_i_yX2_onBits wq_s_yX2_onBits ⟨Nat.le_of_ble_eq_true rfl, Nat.le_of_ble_eq_true rfl⟩ (Nat.le_of_ble_eq_true rfl) dX7_whoSeesWithShowAt_10 rfl rfl rfl ?_
  refine V.iconst dX7_whoSeesWithShowAt_13 rfl ki_1 ?_
  refine V.iload_n (j := 4) dX7_whoSeesWithShowAt_14 rfl rfl rfl ?_
  refine V.ishl dX7_whoSeesWithShowAt_15 rfl ?_
  refine V.iconst dX7_whoSeesWithShowAt_16 rfl ki_m1 ?_
  refine V.ixor dX7_whoSeesWithShowAt_17 rfl ?_
  refine V.iand dX7_whoSeesWithShowAt_18 rfl ?_
  refine V.iload (j := 0) dX7_whoSeesWithShowAt_19 rfl rfl ?_
  obtain ⟨h6, q5, hx⟩ := ob_some hx
  refine U.callV (As := [.ref (G.1 + a1), .int (v4 &&& ((jshl (1 : Int32) a3) ^^^ (-1 : Int32))), .int v2]) (rest := []) (st' := []) hE.1 (mX7_gauge hE t0 t1 q5) mic_X7_gauge rfl t0 (by decide) rfl rfl wq_m_X7_45 wq_i_yX7_gauge wq_s_yX7_gauge ⟨Nat.le_of_ble_eq_true rfl, Nat.le_of_ble_eq_true rfl⟩ (Nat.le_of_ble_eq_true rfl) dX7_whoSeesWithShowAt_21 rfl rfl rfl ?_
  refine V.iconst dX7_whoSeesWithShowAt_24 rfl ki_0 ?_
  refine V.istore [(6, .int (0 : Int32)), (5, .int v2), (0, .ref (G.1 + th)), (1, .ref (G.1 + a1)), (2, .int a2), (3, .int a3), (4, .int a4)] dX7_whoSeesWithShowAt_25 rfl (Nat.le_of_ble_eq_true rfl) rfl ?_
  refine V.pick [2, 3, 4, 5, 6, 1, 0] rfl ?_
  exact vX7_whoSeesWithShowAt_27 hE FU th a1 a2 a3 a4 v2 (0 : Int32) h6 t0 t1 hx
set_option maxRecDepth 100000 in
set_option maxHeartbeats 4000000 in
theorem vX8_place_30 {l : Launch} {G : GG} {EX : State → Prop} (hE : EXB G EX) {r : Int32 × AH} : ∀ (l0 : Nat) (h : AH) (t0 : KD l0 = 7), fX8_place_30 l0 h = some r → U l G EX mi_X8_place 5 126 (some (.int r.1)) r.2 30 [(0, .ref (G.1 + l0))] [] h := by
  intro l0 h t0 hx
  unfold fX8_place_30 at hx
  refine V.aload_n (j := 0) dX8_place_30 rfl rfl rfl ?_
  refine V.bipush dX8_place_31 rfl kb_m2 ?_
  obtain ⟨v5, h4, q3, hx⟩ := ob2_some hx
  refine U.callV (As := [.int (-2 : Int32)]) (rest := []) (st' := [.int v5]) hE.1 (mX8_refuse hE t0 q3) mic_X8_refuse rfl t0 (by decide) rfl rfl wq_m_X8_80 wq_i_yX8_refuse wq_s_yX8_refuse ⟨Nat.le_of_ble_eq_true rfl, Nat.le_of_ble_eq_true rfl⟩ (Nat.le_of_ble_eq_true rfl) dX8_place_33 rfl rfl rfl ?_
  obtain rfl := Option.some.inj hx
  exact U.retI rfl rfl rfl rfl dX8_place_36
set_option maxRecDepth 100000 in
set_option maxHeartbeats 4000000 in
theorem vX8_place_98 {l : Launch} {G : GG} {EX : State → Prop} (hE : EXB G EX) {r : Int32 × AH} : ∀ (l3 : Int32) (l4 : Int32) (l5 : Int32) (h : AH), fX8_place_98 l3 l4 l5 h = some r → U l G EX mi_X8_place 5 126 (some (.int r.1)) r.2 98 [(3, .int l3), (4, .int l4), (5, .int l5)] [] h := by
  intro l3 l4 l5 h hx
  unfold fX8_place_98 at hx
  refine V.iload_n (j := 0) dX8_place_98 rfl rfl rfl ?_
  refine V.if_ne (tgt := 107) hx dX8_place_99 (by decide) rfl (fun hx => ?_) (fun hx => ?_)
  · refine V.iload (j := 2) dX8_place_107 rfl rfl ?_
    obtain rfl := Option.some.inj hx
    exact U.retI rfl rfl rfl rfl dX8_place_109
  · refine V.iload (j := 1) dX8_place_102 rfl rfl ?_
    refine V.goto (q := 109) dX8_place_104 (by decide) ?_
    obtain rfl := Option.some.inj hx
    exact U.retI rfl rfl rfl rfl dX8_place_109
set_option maxRecDepth 100000 in
set_option maxHeartbeats 4000000 in
theorem vX8_place_47 {l : Launch} {G : GG} {EX : State → Prop} (hE : EXB G EX) {r : Int32 × AH} : ∀ (n : Nat) (l0 : Nat) (l1 : Int32) (l2 : Int32) (l3 : Int32) (l4 : Int32) (l5 : Int32) (l6 : Int32) (h : AH) (t0 : KD l0 = 7), fX8_place_47 n l0 l1 l2 l3 l4 l5 l6 h = some r → U l G EX mi_X8_place 5 126 (some (.int r.1)) r.2 47 [(0, .ref (G.1 + l0)), (1, .int l1), (2, .int l2), (3, .int l3), (4, .int l4), (5, .int l5), (6, .int l6)] [] h := by
  intro n
  induction n with
  | zero =>
    intro l0 l1 l2 l3 l4 l5 l6 h t0 hx
    have hx : none = some r := hx
    cases hx
  | succ n ih =>
    intro l0 l1 l2 l3 l4 l5 l6 h t0 hx
    rw [fX8_place_47] at hx
    refine V.iload (j := 6) dX8_place_47 rfl rfl ?_
    refine V.bipush dX8_place_49 rfl kb_30 ?_
    refine V.icmp_ge (tgt := 98) hx dX8_place_51 (by decide) rfl (fun hx => ?_) (fun hx => ?_)
    · refine V.pick [3, 4, 5] rfl ?_
      exact vX8_place_98 hE l3 l4 l5 h hx
    · refine V.aload_n (j := 0) dX8_place_54 rfl rfl rfl ?_
      refine U.getP fl_X8_34 t0 dX8_place_55 rfl ?_
      refine V.aload_n (j := 0) dX8_place_58 rfl rfl rfl ?_
      refine U.getP fl_X8_10 t0 dX8_place_59 rfl ?_
      refine U.getP fl_X8_60 (ty_X8_0 t0) dX8_place_62 rfl ?_
      refine V.iload_n (j := 2) dX8_place_65 rfl rfl rfl ?_
      refine V.iload_n (j := 1) dX8_place_66 rfl rfl rfl ?_
      refine V.iload (j := 6) dX8_place_67 rfl rfl ?_
      obtain ⟨v12, h11, q10, hx⟩ := ob2_some hx
      refine U.callV (As := [.ref (G.1 + (PC (PC l0 0) 0)), .int l2, .int l1, .int l6]) (rest := []) (st' := [.int v12]) hE.1 (mX7_whoSeesWithShowAt hE (ty_X8_4 t0) (ty_X0_0 (ty_X8_0 t0)) q10) mic_X7_whoSeesWithShowAt rfl (ty_X8_4 t0) (by decide) rfl rfl wq_m_X8_209 wq_i_yX7_whoSeesWithShowAt wq_s_yX7_whoSeesWithShowAt ⟨Nat.le_of_ble_eq_true rfl, Nat.le_of_ble_eq_true rfl⟩ (Nat.le_of_ble_eq_true rfl) dX8_place_69 rfl rfl rfl ?_
      obtain ⟨v14, q13, hx⟩ := ob_some hx
      refine U.callS (As := [.int v12]) (rest := []) (st' := [.int v14]) hE.1 (mJ6_bitCount_0f7a4 hE q13) mic_J6_bitCount_0f7a4 rfl wq_m_X8_206 wq_t_yJ6_bitCount_0f7a4 ⟨Nat.le_of_ble_eq_true rfl, Nat.le_of_ble_eq_true rfl⟩ (Nat.le_of_ble_eq_true rfl) dX8_place_72 rfl rfl rfl ?_
      refine V.istore [(7, .int v14), (0, .ref (G.1 + l0)), (1, .int l1), (2, .int l2), (3, .int l3), (4, .int l4), (5, .int l5), (6, .int l6)] dX8_place_75 rfl (Nat.le_of_ble_eq_true rfl) rfl ?_
      refine V.iload (j := 0) dX8_place_77 rfl rfl ?_
      refine V.iload (j := 6) dX8_place_79 rfl rfl ?_
      refine V.icmp_ge (tgt := 92) hx dX8_place_81 (by decide) rfl (fun hx => ?_) (fun hx => ?_)
      · refine U.iinc hx (fun v15 => [(6, .int v15), (7, .int v14), (0, .ref (G.1 + l0)), (1, .int l1), (2, .int l2), (3, .int l3), (4, .int l4), (5, .int l5)]) (j := 7) rfl (by decide) (Nat.le_of_ble_eq_true rfl) (fun _ => rfl) dX8_place_92 rfl (fun v15 hx => ?_)
        refine V.goto (q := 47) dX8_place_95 (by decide) ?_
        refine V.pick [2, 3, 4, 5, 6, 7, 0] rfl ?_
        exact ih l0 l1 l2 l3 l4 l5 v15 h11 t0 hx
      · refine V.iload (j := 0) dX8_place_84 rfl rfl ?_
        refine V.istore [(5, .int v14), (7, .int v14), (0, .ref (G.1 + l0)), (1, .int l1), (2, .int l2), (3, .int l3), (4, .int l4), (6, .int l6)] dX8_place_86 rfl (Nat.le_of_ble_eq_true rfl) rfl ?_
        refine V.iload (j := 7) dX8_place_88 rfl rfl ?_
        refine V.istore [(4, .int l6), (5, .int v14), (7, .int v14), (0, .ref (G.1 + l0)), (1, .int l1), (2, .int l2), (3, .int l3), (6, .int l6)] dX8_place_90 rfl (Nat.le_of_ble_eq_true rfl) rfl ?_
        refine U.iinc hx (fun v16 => [(6, .int v16), (4, .int l6), (5, .int v14), (7, .int v14), (0, .ref (G.1 + l0)), (1, .int l1), (2, .int l2), (3, .int l3)]) (j := 7) rfl (by decide) (Nat.le_of_ble_eq_true rfl) (fun _ => rfl) dX8_place_92 rfl (fun v16 hx => ?_)
        refine V.goto (q := 47) dX8_place_95 (by decide) ?_
        refine V.pick [4, 5, 6, 7, 1, 2, 0] rfl ?_
        exact ih l0 l1 l2 l3 l6 v14 v16 h11 t0 hx
set_option maxRecDepth 100000 in
set_option maxHeartbeats 4000000 in
theorem mX8_place {l : Launch} {G : GG} {EX : State → Prop} (hE : EXB G EX) {th : Nat} {a1 : Int32} {a2 : Int32} {a3 : Int32} {h : AH} (t0 : KD th = 7) {r : Int32 × AH} (hx : fX8_place th a1 a2 a3 h = some r) : MetU l G EX mi_X8_place 5 126 [.ref (G.1 + th), .int a1, .int a2, .int a3] h (some (.int r.1)) r.2 := by
  refine MetU.of mic_X8_place.1 (Nat.le_of_ble_eq_true rfl) ?_
  refine show U l G EX mi_X8_place 5 126 (some (.int r.1)) r.2 0 [(0, .ref (G.1 + th)), (1, .int a1), (2, .int a2), (3, .int a3)] [] h from ?_
  unfold fX8_place at hx
  refine V.aload_n (j := 0) dX8_place_0 rfl rfl rfl ?_
  refine U.getP fl_X8_10 t0 dX8_place_1 rfl ?_
  refine U.getP fl_X8_60 (ty_X8_0 t0) dX8_place_4 rfl ?_
  refine V.iload_n (j := 1) dX8_place_7 rfl rfl rfl ?_
  obtain ⟨v2, q1, hx⟩ := ob_some hx
  refine U.callV (As := [.int a1]) (rest := []) (st' := [.int v2]) hE.1 (mX2_hasShow hE (ty_X0_0 (ty_X8_0 t0)) q1) mic_X2_hasShow rfl (ty_X0_0 (ty_X8_0 t0)) (by decide) rfl rfl wq_m_X8_136 wq_i_yX2_hasShow wq_s_yX2_hasShow ⟨Nat.le_of_ble_eq_true rfl, Nat.le_of_ble_eq_true rfl⟩ (Nat.le_of_ble_eq_true rfl) dX8_place_8 rfl rfl rfl ?_
  refine V.if_eq (tgt := 30) hx dX8_place_11 (by decide) rfl (fun hx => ?_) (fun hx => ?_)
  · refine V.pick [0] rfl ?_
    exact vX8_place_30 hE th h t0 hx
  · refine V.iload_n (j := 2) dX8_place_14 rfl rfl rfl ?_
    obtain ⟨v7, q6, hx⟩ := ob_some hx
    refine U.callS (As := [.int a2]) (rest := []) (st' := [.int v7]) hE.1 (mX8_isCell hE q6) mic_X8_isCell rfl wq_m_X8_74 wq_t_yX8_isCell ⟨Nat.le_of_ble_eq_true rfl, Nat.le_of_ble_eq_true rfl⟩ (Nat.le_of_ble_eq_true rfl) dX8_place_15 rfl rfl rfl ?_
    refine V.if_eq (tgt := 30) hx dX8_place_18 (by decide) rfl (fun hx => ?_) (fun hx => ?_)
    · refine V.pick [0] rfl ?_
      exact vX8_place_30 hE th h t0 hx
    · refine V.iload_n (j := 3) dX8_place_21 rfl rfl rfl ?_
      refine V.iconst dX8_place_22 rfl ki_0 ?_
      refine V.iconst dX8_place_23 rfl ki_1 ?_
      obtain ⟨v9, q8, hx⟩ := ob_some hx
      refine U.callS (As := [.int a3, .int (0 : Int32), .int (1 : Int32)]) (rest := []) (st' := [.int v9]) hE.1 (mX8_within hE q8) mic_X8_within rfl wq_m_X8_104 wq_t_yX8_within ⟨Nat.le_of_ble_eq_true rfl, Nat.le_of_ble_eq_true rfl⟩ (Nat.le_of_ble_eq_true rfl) dX8_place_24 rfl rfl rfl ?_
      refine V.if_ne (tgt := 37) hx dX8_place_27 (by decide) rfl (fun hx => ?_) (fun hx => ?_)
      · refine V.iconst dX8_place_37 rfl ki_m1 ?_
        refine V.istore [(4, .int (-1 : Int32)), (0, .ref (G.1 + th)), (1, .int a1), (2, .int a2), (3, .int a3)] dX8_place_38 rfl (Nat.le_of_ble_eq_true rfl) rfl ?_
        refine V.bipush dX8_place_40 rfl kb_7 ?_
        refine V.istore [(5, .int (7 : Int32)), (4, .int (-1 : Int32)), (0, .ref (G.1 + th)), (1, .int a1), (2, .int a2), (3, .int a3)] dX8_place_42 rfl (Nat.le_of_ble_eq_true rfl) rfl ?_
        refine V.iconst dX8_place_44 rfl ki_0 ?_
        refine V.istore [(6, .int (0 : Int32)), (5, .int (7 : Int32)), (4, .int (-1 : Int32)), (0, .ref (G.1 + th)), (1, .int a1), (2, .int a2), (3, .int a3)] dX8_place_45 rfl (Nat.le_of_ble_eq_true rfl) rfl ?_
        refine V.pick [3, 4, 5, 6, 2, 1, 0] rfl ?_
        exact vX8_place_47 hE FU th a1 a2 a3 (-1 : Int32) (7 : Int32) (0 : Int32) h t0 hx
      · refine V.pick [0] rfl ?_
        exact vX8_place_30 hE th h t0 hx
set_option maxRecDepth 100000 in
set_option maxHeartbeats 4000000 in
theorem vX8_planCells_4 {l : Launch} {G : GG} {EX : State → Prop} (hE : EXB G EX) {h : AH} {r : Int32} : ∀ (n : Nat) (l1 : Int32) (l2 : Int32), fX8_planCells_4 n l1 l2 = some r → U l G EX mi_X8_planCells 1 22 (some (.int r)) h 4 [(1, .int l1), (2, .int l2)] [] h := by
  intro n
  induction n with
  | zero =>
    intro l1 l2 hx
    have hx : none = some r := hx
    cases hx
  | succ n ih =>
    intro l1 l2 hx
    rw [fX8_planCells_4] at hx
    refine V.iload_n (j := 1) dX8_planCells_4 rfl rfl rfl ?_
    refine V.iconst dX8_planCells_5 rfl ki_4 ?_
    refine V.icmp_gt (tgt := 42) hx dX8_planCells_6 (by decide) rfl (fun hx => ?_) (fun hx => ?_)
    · refine V.iconst dX8_planCells_42 rfl ki_0 ?_
      obtain rfl := Option.some.inj hx
      exact U.retI rfl rfl rfl rfl dX8_planCells_43
    · refine V.iload_n (j := 0) dX8_planCells_9 rfl rfl rfl ?_
      refine V.bipush dX8_planCells_10 rfl kb_100 ?_
      refine V.irem dX8_planCells_12 rfl (by decide) ?_
      refine V.bipush dX8_planCells_13 rfl kb_11 ?_
      refine V.bipush dX8_planCells_15 rfl kb_40 ?_
      obtain ⟨v2, q1, hx⟩ := ob_some hx
      refine U.callS (As := [.int (jrem l1 (100 : Int32)), .int (11 : Int32), .int (40 : Int32)]) (rest := []) (st' := [.int v2]) hE.1 (mX8_within hE q1) mic_X8_within rfl wq_m_X8_104 wq_t_yX8_within ⟨Nat.le_of_ble_eq_true rfl, Nat.le_of_ble_eq_true rfl⟩ (Nat.le_of_ble_eq_true rfl) dX8_planCells_17 rfl rfl rfl ?_
      refine V.if_ne (tgt := 25) hx dX8_planCells_20 (by decide) rfl (fun hx => ?_) (fun hx => ?_)
      · refine V.iload_n (j := 0) dX8_planCells_25 rfl rfl rfl ?_
        refine V.bipush dX8_planCells_26 rfl kb_100 ?_
        refine V.idiv dX8_planCells_28 rfl (by decide) ?_
        refine U.letI hx (fun v3 hx => ?_)
        refine V.istore_n [(1, .int v3), (2, .int l2)] dX8_planCells_29 rfl rfl (Nat.le_of_ble_eq_true rfl) rfl ?_
        refine V.iload_n (j := 0) dX8_planCells_30 rfl rfl rfl ?_
        refine V.if_ne (tgt := 36) hx dX8_planCells_31 (by decide) rfl (fun hx => ?_) (fun hx => ?_)
        · refine U.iinc hx (fun v4 => [(2, .int v4), (1, .int v3)]) (j := 1) rfl (by decide) (Nat.le_of_ble_eq_true rfl) (fun _ => rfl) dX8_planCells_36 rfl (fun v4 hx => ?_)
          refine V.goto (q := 4) dX8_planCells_39 (by decide) ?_
          refine V.pick [1, 0] rfl ?_
          exact ih v3 v4 hx
        · refine V.iload_n (j := 1) dX8_planCells_34 rfl rfl rfl ?_
          obtain rfl := Option.some.inj hx
          exact U.retI rfl rfl rfl rfl dX8_planCells_35
      · refine V.iconst dX8_planCells_23 rfl ki_0 ?_
        obtain rfl := Option.some.inj hx
        exact U.retI rfl rfl rfl rfl dX8_planCells_24
set_option maxRecDepth 100000 in
set_option maxHeartbeats 4000000 in
theorem mX8_planCells {l : Launch} {G : GG} {EX : State → Prop} (hE : EXB G EX) {a0 : Int32} {h : AH} {r : Int32} (hx : fX8_planCells a0 = some r) : MetU l G EX mi_X8_planCells 1 22 [.int a0] h (some (.int r)) h := by
  refine MetU.of mic_X8_planCells.1 (Nat.le_of_ble_eq_true rfl) ?_
  refine show U l G EX mi_X8_planCells 1 22 (some (.int r)) h 0 [(0, .int a0)] [] h from ?_
  unfold fX8_planCells at hx
  refine V.iload_n (j := 0) dX8_planCells_0 rfl rfl rfl ?_
  refine V.istore_n [(1, .int a0), (0, .int a0)] dX8_planCells_1 rfl rfl (Nat.le_of_ble_eq_true rfl) rfl ?_
  refine V.iconst dX8_planCells_2 rfl ki_1 ?_
  refine V.istore_n [(2, .int (1 : Int32)), (1, .int a0), (0, .int a0)] dX8_planCells_3 rfl rfl (Nat.le_of_ble_eq_true rfl) rfl ?_
  refine V.pick [1, 0] rfl ?_
  exact vX8_planCells_4 hE FU a0 (1 : Int32) hx
set_option maxRecDepth 100000 in
set_option maxHeartbeats 4000000 in
theorem mX4_openAt {l : Launch} {G : GG} {EX : State → Prop} (hE : EXB G EX) {th : Nat} {a1 : Int32} {a2 : Int32} {h : AH} (t0 : KD th = 3) {r : AH} (hx : fX4_openAt th a1 a2 h = some r) : MetU l G EX mi_X4_openAt 0 0 [.ref (G.1 + th), .int a1, .int a2] h none r := by
  refine MetU.of mic_X4_openAt.1 (Nat.le_of_ble_eq_true rfl) ?_
  refine show U l G EX mi_X4_openAt 0 0 none r 0 [(0, .ref (G.1 + th)), (1, .int a1), (2, .int a2)] [] h from ?_
  unfold fX4_openAt at hx
  refine V.iload_n (j := 1) dX4_openAt_0 rfl rfl rfl ?_
  refine V.if_lt (tgt := 20) hx dX4_openAt_1 (by decide) rfl (fun hx => ?_) (fun hx => ?_)
  · obtain rfl := Option.some.inj hx
    exact U.ret0 rfl rfl rfl dX4_openAt_20
  · refine V.iload_n (j := 1) dX4_openAt_4 rfl rfl rfl ?_
    refine V.aload_n (j := 0) dX4_openAt_5 rfl rfl rfl ?_
    refine U.getP fl_X4_9 t0 dX4_openAt_6 rfl ?_
    refine U.alen (ty_X4_0 t0) (by decide) dX4_openAt_9 rfl ?_
    refine V.icmp_ge (tgt := 20) hx dX4_openAt_10 (by decide) rfl (fun hx => ?_) (fun hx => ?_)
    · obtain rfl := Option.some.inj hx
      exact U.ret0 rfl rfl rfl dX4_openAt_20
    · refine V.aload_n (j := 0) dX4_openAt_13 rfl rfl rfl ?_
      refine U.getP fl_X4_9 t0 dX4_openAt_14 rfl ?_
      refine V.iload_n (j := 1) dX4_openAt_17 rfl rfl rfl ?_
      refine V.iload_n (j := 2) dX4_openAt_18 rfl rfl rfl ?_
      refine U.iast hx (ty_X4_0 t0) dX4_openAt_19 rfl (fun h1 hx => ?_)
      obtain rfl := Option.some.inj hx
      exact U.ret0 rfl rfl rfl dX4_openAt_20
set_option maxRecDepth 100000 in
set_option maxHeartbeats 4000000 in
theorem mX4_upTo {l : Launch} {G : GG} {EX : State → Prop} (hE : EXB G EX) {a0 : Int32} {h : AH} {r : Int32} (hx : fX4_upTo a0 = some r) : MetU l G EX mi_X4_upTo 0 0 [.int a0] h (some (.int r)) h := by
  refine MetU.of mic_X4_upTo.1 (Nat.le_of_ble_eq_true rfl) ?_
  refine show U l G EX mi_X4_upTo 0 0 (some (.int r)) h 0 [(0, .int a0)] [] h from ?_
  unfold fX4_upTo at hx
  refine V.iconst dX4_upTo_0 rfl ki_1 ?_
  refine V.iload_n (j := 0) dX4_upTo_1 rfl rfl rfl ?_
  refine V.iconst dX4_upTo_2 rfl ki_1 ?_
  refine V.iadd dX4_upTo_3 rfl ?_
  refine V.ishl dX4_upTo_4 rfl ?_
  refine V.iconst dX4_upTo_5 rfl ki_1 ?_
  refine V.isub dX4_upTo_6 rfl ?_
  obtain rfl := Option.some.inj hx
  exact U.retI rfl rfl rfl rfl dX4_upTo_7
set_option maxRecDepth 100000 in
set_option maxHeartbeats 4000000 in
theorem vX4_stepsTogether_42 {l : Launch} {G : GG} {EX : State → Prop} (hE : EXB G EX) {h : AH} {r : Int32} : ∀ (l3 : Int32), fX4_stepsTogether_42 h l3 = some r → U l G EX mi_X4_stepsTogether 1 20 (some (.int r)) h 42 [(3, .int l3)] [] h := by
  intro l3 hx
  unfold fX4_stepsTogether_42 at hx
  refine V.iload_n (j := 0) dX4_stepsTogether_42 rfl rfl rfl ?_
  obtain ⟨v2, q1, hx⟩ := ob_some hx
  refine U.callS (As := [.int l3]) (rest := []) (st' := [.int v2]) hE.1 (mJ6_bitCount_0f7a4 hE q1) mic_J6_bitCount_0f7a4 rfl wq_m_X4_39 wq_t_yJ6_bitCount_0f7a4 ⟨Nat.le_of_ble_eq_true rfl, Nat.le_of_ble_eq_true rfl⟩ (Nat.le_of_ble_eq_true rfl) dX4_stepsTogether_43 rfl rfl rfl ?_
  obtain rfl := Option.some.inj hx
  exact U.retI rfl rfl rfl rfl dX4_stepsTogether_46
set_option maxRecDepth 100000 in
set_option maxHeartbeats 4000000 in
theorem vX4_stepsTogether_5 {l : Launch} {G : GG} {EX : State → Prop} (hE : EXB G EX) {h : AH} {r : Int32} : ∀ (n : Nat) (l0 : Nat) (l1 : Int32) (l2 : Int32) (l3 : Int32) (l4 : Int32) (t0 : KD l0 = 3), fX4_stepsTogether_5 h n l0 l1 l2 l3 l4 = some r → U l G EX mi_X4_stepsTogether 1 20 (some (.int r)) h 5 [(0, .ref (G.1 + l0)), (1, .int l1), (2, .int l2), (3, .int l3), (4, .int l4)] [] h := by
  intro n
  induction n with
  | zero =>
    intro l0 l1 l2 l3 l4 t0 hx
    have hx : none = some r := hx
    cases hx
  | succ n ih =>
    intro l0 l1 l2 l3 l4 t0 hx
    rw [fX4_stepsTogether_5] at hx
    refine V.iload (j := 4) dX4_stepsTogether_5 rfl rfl ?_
    refine V.aload_n (j := 0) dX4_stepsTogether_7 rfl rfl rfl ?_
    refine U.getI fl_X4_23 t0 dX4_stepsTogether_8 rfl ?_
    refine V.icmp_ge (tgt := 42) hx dX4_stepsTogether_11 (by decide) rfl (fun hx => ?_) (fun hx => ?_)
    · refine V.pick [3] rfl ?_
      exact vX4_stepsTogether_42 hE l3 hx
    · refine V.iload_n (j := 1) dX4_stepsTogether_14 rfl rfl rfl ?_
      refine V.iload (j := 4) dX4_stepsTogether_15 rfl rfl ?_
      refine V.ishr dX4_stepsTogether_17 rfl ?_
      refine V.iconst dX4_stepsTogether_18 rfl ki_1 ?_
      refine V.iand dX4_stepsTogether_19 rfl ?_
      refine V.iconst dX4_stepsTogether_20 rfl ki_1 ?_
      refine V.icmp_ne (tgt := 36) hx dX4_stepsTogether_21 (by decide) rfl (fun hx => ?_) (fun hx => ?_)
      · refine U.iinc hx (fun v3 => [(4, .int v3), (0, .ref (G.1 + l0)), (1, .int l1), (2, .int l2), (3, .int l3)]) (j := 4) rfl (by decide) (Nat.le_of_ble_eq_true rfl) (fun _ => rfl) dX4_stepsTogether_36 rfl (fun v3 hx => ?_)
        refine V.goto (q := 5) dX4_stepsTogether_39 (by decide) ?_
        refine V.pick [1, 2, 3, 4, 0] rfl ?_
        exact ih l0 l1 l2 l3 v3 t0 hx
      · refine V.iload_n (j := 3) dX4_stepsTogether_24 rfl rfl rfl ?_
        refine V.aload_n (j := 0) dX4_stepsTogether_25 rfl rfl rfl ?_
        refine U.getP fl_X4_9 t0 dX4_stepsTogether_26 rfl ?_
        refine V.iload (j := 4) dX4_stepsTogether_29 rfl rfl ?_
        refine U.iald hx (ty_X4_0 t0) dX4_stepsTogether_31 rfl (fun hx => ?_)
        refine V.iload_n (j := 2) dX4_stepsTogether_32 rfl rfl rfl ?_
        refine V.iand dX4_stepsTogether_33 rfl ?_
        refine V.ior dX4_stepsTogether_34 rfl ?_
        refine U.letI hx (fun v4 hx => ?_)
        refine V.istore_n [(3, .int v4), (0, .ref (G.1 + l0)), (1, .int l1), (2, .int l2), (4, .int l4)] dX4_stepsTogether_35 rfl rfl (Nat.le_of_ble_eq_true rfl) rfl ?_
        refine U.iinc hx (fun v5 => [(4, .int v5), (3, .int v4), (0, .ref (G.1 + l0)), (1, .int l1), (2, .int l2)]) (j := 4) rfl (by decide) (Nat.le_of_ble_eq_true rfl) (fun _ => rfl) dX4_stepsTogether_36 rfl (fun v5 hx => ?_)
        refine V.goto (q := 5) dX4_stepsTogether_39 (by decide) ?_
        refine V.pick [2, 3, 4, 1, 0] rfl ?_
        exact ih l0 l1 l2 v4 v5 t0 hx
set_option maxRecDepth 100000 in
set_option maxHeartbeats 4000000 in
theorem mX4_stepsTogether {l : Launch} {G : GG} {EX : State → Prop} (hE : EXB G EX) {th : Nat} {a1 : Int32} {a2 : Int32} {h : AH} (t0 : KD th = 3) {r : Int32} (hx : fX4_stepsTogether th a1 a2 h = some r) : MetU l G EX mi_X4_stepsTogether 1 20 [.ref (G.1 + th), .int a1, .int a2] h (some (.int r)) h := by
  refine MetU.of mic_X4_stepsTogether.1 (Nat.le_of_ble_eq_true rfl) ?_
  refine show U l G EX mi_X4_stepsTogether 1 20 (some (.int r)) h 0 [(0, .ref (G.1 + th)), (1, .int a1), (2, .int a2)] [] h from ?_
  unfold fX4_stepsTogether at hx
  refine V.iconst dX4_stepsTogether_0 rfl ki_0 ?_
  refine V.istore_n [(3, .int (0 : Int32)), (0, .ref (G.1 + th)), (1, .int a1), (2, .int a2)] dX4_stepsTogether_1 rfl rfl (Nat.le_of_ble_eq_true rfl) rfl ?_
  refine V.iconst dX4_stepsTogether_2 rfl ki_0 ?_
  refine V.istore [(4, .int (0 : Int32)), (3, .int (0 : Int32)), (0, .ref (G.1 + th)), (1, .int a1), (2, .int a2)] dX4_stepsTogether_3 rfl (Nat.le_of_ble_eq_true rfl) rfl ?_
  refine V.pick [2, 3, 4, 1, 0] rfl ?_
  exact vX4_stepsTogether_5 hE FU th a1 a2 (0 : Int32) (0 : Int32) t0 hx
set_option maxRecDepth 100000 in
set_option maxHeartbeats 4000000 in
theorem vX4_canFill_2 {l : Launch} {G : GG} {EX : State → Prop} (hE : EXB G EX) {h : AH} {r : Int32} : ∀ (n : Nat) (l0 : Nat) (l1 : Int32) (l2 : Int32) (l3 : Int32) (t0 : KD l0 = 3), fX4_canFill_2 h n l0 l1 l2 l3 = some r → U l G EX mi_X4_canFill 2 44 (some (.int r)) h 2 [(0, .ref (G.1 + l0)), (1, .int l1), (2, .int l2), (3, .int l3)] [] h := by
  intro n
  induction n with
  | zero =>
    intro l0 l1 l2 l3 t0 hx
    have hx : none = some r := hx
    cases hx
  | succ n ih =>
    intro l0 l1 l2 l3 t0 hx
    rw [fX4_canFill_2] at hx
    refine V.iload_n (j := 3) dX4_canFill_2 rfl rfl rfl ?_
    refine V.iconst dX4_canFill_3 rfl ki_1 ?_
    refine V.aload_n (j := 0) dX4_canFill_4 rfl rfl rfl ?_
    refine U.getI fl_X4_23 t0 dX4_canFill_5 rfl ?_
    refine V.ishl dX4_canFill_8 rfl ?_
    refine V.icmp_ge (tgt := 41) hx dX4_canFill_9 (by decide) rfl (fun hx => ?_) (fun hx => ?_)
    · refine V.iconst dX4_canFill_41 rfl ki_1 ?_
      obtain rfl := Option.some.inj hx
      exact U.retI rfl rfl rfl rfl dX4_canFill_42
    · refine V.iload_n (j := 3) dX4_canFill_12 rfl rfl rfl ?_
      obtain ⟨v2, q1, hx⟩ := ob_some hx
      refine U.callS (As := [.int l3]) (rest := []) (st' := [.int v2]) hE.1 (mJ6_numberOfTrailingZeros_0f7a4 hE q1) mic_J6_numberOfTrailingZeros_0f7a4 rfl wq_m_X4_31 wq_t_yJ6_numberOfTrailingZeros_0f7a4 ⟨Nat.le_of_ble_eq_true rfl, Nat.le_of_ble_eq_true rfl⟩ (Nat.le_of_ble_eq_true rfl) dX4_canFill_13 rfl rfl rfl ?_
      refine V.iload_n (j := 1) dX4_canFill_16 rfl rfl rfl ?_
      refine V.icmp_lt (tgt := 35) hx dX4_canFill_17 (by decide) rfl (fun hx => ?_) (fun hx => ?_)
      · refine U.iinc hx (fun v3 => [(3, .int v3), (0, .ref (G.1 + l0)), (1, .int l1), (2, .int l2)]) (j := 3) rfl (by decide) (Nat.le_of_ble_eq_true rfl) (fun _ => rfl) dX4_canFill_35 rfl (fun v3 hx => ?_)
        refine V.goto (q := 2) dX4_canFill_38 (by decide) ?_
        refine V.pick [1, 2, 3, 0] rfl ?_
        exact ih l0 l1 l2 v3 t0 hx
      · refine V.aload_n (j := 0) dX4_canFill_20 rfl rfl rfl ?_
        refine V.iload_n (j := 3) dX4_canFill_21 rfl rfl rfl ?_
        refine V.iload_n (j := 2) dX4_canFill_22 rfl rfl rfl ?_
        obtain ⟨v5, q4, hx⟩ := ob_some hx
        refine U.callV (As := [.int l3, .int l2]) (rest := []) (st' := [.int v5]) hE.1 (mX4_stepsTogether hE t0 q4) mic_X4_stepsTogether rfl t0 (by decide) rfl rfl wq_m_X4_36 wq_i_yX4_stepsTogether wq_s_yX4_stepsTogether ⟨Nat.le_of_ble_eq_true rfl, Nat.le_of_ble_eq_true rfl⟩ (Nat.le_of_ble_eq_true rfl) dX4_canFill_23 rfl rfl rfl ?_
        refine V.iload_n (j := 3) dX4_canFill_26 rfl rfl rfl ?_
        obtain ⟨v7, q6, hx⟩ := ob_some hx
        refine U.callS (As := [.int l3]) (rest := [.int v5]) (st' := [.int v7, .int v5]) hE.1 (mJ6_bitCount_0f7a4 hE q6) mic_J6_bitCount_0f7a4 rfl wq_m_X4_39 wq_t_yJ6_bitCount_0f7a4 ⟨Nat.le_of_ble_eq_true rfl, Nat.le_of_ble_eq_true rfl⟩ (Nat.le_of_ble_eq_true rfl) dX4_canFill_27 rfl rfl rfl ?_
        refine V.icmp_ge (tgt := 35) hx dX4_canFill_30 (by decide) rfl (fun hx => ?_) (fun hx => ?_)
        · refine U.iinc hx (fun v8 => [(3, .int v8), (0, .ref (G.1 + l0)), (1, .int l1), (2, .int l2)]) (j := 3) rfl (by decide) (Nat.le_of_ble_eq_true rfl) (fun _ => rfl) dX4_canFill_35 rfl (fun v8 hx => ?_)
          refine V.goto (q := 2) dX4_canFill_38 (by decide) ?_
          refine V.pick [1, 2, 3, 0] rfl ?_
          exact ih l0 l1 l2 v8 t0 hx
        · refine V.iconst dX4_canFill_33 rfl ki_0 ?_
          obtain rfl := Option.some.inj hx
          exact U.retI rfl rfl rfl rfl dX4_canFill_34
set_option maxRecDepth 100000 in
set_option maxHeartbeats 4000000 in
theorem mX4_canFill {l : Launch} {G : GG} {EX : State → Prop} (hE : EXB G EX) {th : Nat} {a1 : Int32} {a2 : Int32} {h : AH} (t0 : KD th = 3) {r : Int32} (hx : fX4_canFill th a1 a2 h = some r) : MetU l G EX mi_X4_canFill 2 44 [.ref (G.1 + th), .int a1, .int a2] h (some (.int r)) h := by
  refine MetU.of mic_X4_canFill.1 (Nat.le_of_ble_eq_true rfl) ?_
  refine show U l G EX mi_X4_canFill 2 44 (some (.int r)) h 0 [(0, .ref (G.1 + th)), (1, .int a1), (2, .int a2)] [] h from ?_
  unfold fX4_canFill at hx
  refine V.iconst dX4_canFill_0 rfl ki_1 ?_
  refine V.istore_n [(3, .int (1 : Int32)), (0, .ref (G.1 + th)), (1, .int a1), (2, .int a2)] dX4_canFill_1 rfl rfl (Nat.le_of_ble_eq_true rfl) rfl ?_
  refine V.pick [1, 2, 3, 0] rfl ?_
  exact vX4_canFill_2 hE FU th a1 a2 (1 : Int32) t0 hx
set_option maxRecDepth 100000 in
set_option maxHeartbeats 4000000 in
theorem vX4_soonestLast_2 {l : Launch} {G : GG} {EX : State → Prop} (hE : EXB G EX) {h : AH} {r : Int32} : ∀ (n : Nat) (l0 : Nat) (l1 : Int32) (t0 : KD l0 = 3), fX4_soonestLast_2 h n l0 l1 = some r → U l G EX mi_X4_soonestLast 3 67 (some (.int r)) h 2 [(0, .ref (G.1 + l0)), (1, .int l1)] [] h := by
  intro n
  induction n with
  | zero =>
    intro l0 l1 t0 hx
    have hx : none = some r := hx
    cases hx
  | succ n ih =>
    intro l0 l1 t0 hx
    rw [fX4_soonestLast_2] at hx
    refine V.iload_n (j := 1) dX4_soonestLast_2 rfl rfl rfl ?_
    refine V.bipush dX4_soonestLast_3 rfl kb_24 ?_
    refine V.icmp_ge (tgt := 28) hx dX4_soonestLast_5 (by decide) rfl (fun hx => ?_) (fun hx => ?_)
    · refine V.iconst dX4_soonestLast_28 rfl ki_m1 ?_
      obtain rfl := Option.some.inj hx
      exact U.retI rfl rfl rfl rfl dX4_soonestLast_29
    · refine V.aload_n (j := 0) dX4_soonestLast_8 rfl rfl rfl ?_
      refine V.iconst dX4_soonestLast_9 rfl ki_0 ?_
      refine V.iload_n (j := 1) dX4_soonestLast_10 rfl rfl rfl ?_
      obtain ⟨v2, q1, hx⟩ := ob_some hx
      refine U.callS (As := [.int l1]) (rest := [.int (0 : Int32), .ref (G.1 + l0)]) (st' := [.int v2, .int (0 : Int32), .ref (G.1 + l0)]) hE.1 (mX4_upTo hE q1) mic_X4_upTo rfl wq_m_X4_15 wq_t_yX4_upTo ⟨Nat.le_of_ble_eq_true rfl, Nat.le_of_ble_eq_true rfl⟩ (Nat.le_of_ble_eq_true rfl) dX4_soonestLast_11 rfl rfl rfl ?_
      obtain ⟨v4, q3, hx⟩ := ob_some hx
      refine U.callV (As := [.int (0 : Int32), .int v2]) (rest := []) (st' := [.int v4]) hE.1 (mX4_canFill hE t0 q3) mic_X4_canFill rfl t0 (by decide) rfl rfl wq_m_X4_19 wq_i_yX4_canFill wq_s_yX4_canFill ⟨Nat.le_of_ble_eq_true rfl, Nat.le_of_ble_eq_true rfl⟩ (Nat.le_of_ble_eq_true rfl) dX4_soonestLast_14 rfl rfl rfl ?_
      refine V.if_eq (tgt := 22) hx dX4_soonestLast_17 (by decide) rfl (fun hx => ?_) (fun hx => ?_)
      · refine U.iinc hx (fun v5 => [(1, .int v5), (0, .ref (G.1 + l0))]) (j := 1) rfl (by decide) (Nat.le_of_ble_eq_true rfl) (fun _ => rfl) dX4_soonestLast_22 rfl (fun v5 hx => ?_)
        refine V.goto (q := 2) dX4_soonestLast_25 (by decide) ?_
        refine V.pick [1, 0] rfl ?_
        exact ih l0 v5 t0 hx
      · refine V.iload_n (j := 1) dX4_soonestLast_20 rfl rfl rfl ?_
        obtain rfl := Option.some.inj hx
        exact U.retI rfl rfl rfl rfl dX4_soonestLast_21
set_option maxRecDepth 100000 in
set_option maxHeartbeats 4000000 in
theorem mX4_soonestLast {l : Launch} {G : GG} {EX : State → Prop} (hE : EXB G EX) {th : Nat} {h : AH} (t0 : KD th = 3) {r : Int32} (hx : fX4_soonestLast th h = some r) : MetU l G EX mi_X4_soonestLast 3 67 [.ref (G.1 + th)] h (some (.int r)) h := by
  refine MetU.of mic_X4_soonestLast.1 (Nat.le_of_ble_eq_true rfl) ?_
  refine show U l G EX mi_X4_soonestLast 3 67 (some (.int r)) h 0 [(0, .ref (G.1 + th))] [] h from ?_
  unfold fX4_soonestLast at hx
  refine V.iconst dX4_soonestLast_0 rfl ki_0 ?_
  refine V.istore_n [(1, .int (0 : Int32)), (0, .ref (G.1 + th))] dX4_soonestLast_1 rfl rfl (Nat.le_of_ble_eq_true rfl) rfl ?_
  refine V.pick [1, 0] rfl ?_
  exact vX4_soonestLast_2 hE FU th (0 : Int32) t0 hx
set_option maxRecDepth 100000 in
set_option maxHeartbeats 4000000 in
theorem vX4_firstStep_2 {l : Launch} {G : GG} {EX : State → Prop} (hE : EXB G EX) {h : AH} {r : Int32} : ∀ (n : Nat) (l0 : Nat) (l1 : Int32) (l2 : Int32) (l3 : Int32) (t0 : KD l0 = 3), fX4_firstStep_2 h n l0 l1 l2 l3 = some r → U l G EX mi_X4_firstStep 3 67 (some (.int r)) h 2 [(0, .ref (G.1 + l0)), (1, .int l1), (2, .int l2), (3, .int l3)] [] h := by
  intro n
  induction n with
  | zero =>
    intro l0 l1 l2 l3 t0 hx
    have hx : none = some r := hx
    cases hx
  | succ n ih =>
    intro l0 l1 l2 l3 t0 hx
    rw [fX4_firstStep_2] at hx
    refine V.iload_n (j := 3) dX4_firstStep_2 rfl rfl rfl ?_
    refine V.bipush dX4_firstStep_3 rfl kb_24 ?_
    refine V.icmp_ge (tgt := 48) hx dX4_firstStep_5 (by decide) rfl (fun hx => ?_) (fun hx => ?_)
    · refine V.iconst dX4_firstStep_48 rfl ki_m1 ?_
      obtain rfl := Option.some.inj hx
      exact U.retI rfl rfl rfl rfl dX4_firstStep_49
    · refine V.aload_n (j := 0) dX4_firstStep_8 rfl rfl rfl ?_
      refine U.getP fl_X4_9 t0 dX4_firstStep_9 rfl ?_
      refine V.iload_n (j := 1) dX4_firstStep_12 rfl rfl rfl ?_
      refine U.iald hx (ty_X4_0 t0) dX4_firstStep_13 rfl (fun hx => ?_)
      refine V.iload_n (j := 2) dX4_firstStep_14 rfl rfl rfl ?_
      refine V.iand dX4_firstStep_15 rfl ?_
      refine V.iconst dX4_firstStep_16 rfl ki_1 ?_
      refine V.iload_n (j := 3) dX4_firstStep_17 rfl rfl rfl ?_
      refine V.ishl dX4_firstStep_18 rfl ?_
      refine V.iand dX4_firstStep_19 rfl ?_
      refine V.if_eq (tgt := 42) hx dX4_firstStep_20 (by decide) rfl (fun hx => ?_) (fun hx => ?_)
      · refine U.iinc hx (fun v1 => [(3, .int v1), (0, .ref (G.1 + l0)), (1, .int l1), (2, .int l2)]) (j := 3) rfl (by decide) (Nat.le_of_ble_eq_true rfl) (fun _ => rfl) dX4_firstStep_42 rfl (fun v1 hx => ?_)
        refine V.goto (q := 2) dX4_firstStep_45 (by decide) ?_
        refine V.pick [1, 2, 3, 0] rfl ?_
        exact ih l0 l1 l2 v1 t0 hx
      · refine V.aload_n (j := 0) dX4_firstStep_23 rfl rfl rfl ?_
        refine V.iload_n (j := 1) dX4_firstStep_24 rfl rfl rfl ?_
        refine V.iconst dX4_firstStep_25 rfl ki_1 ?_
        refine V.iadd dX4_firstStep_26 rfl ?_
        refine V.iload_n (j := 2) dX4_firstStep_27 rfl rfl rfl ?_
        refine V.iconst dX4_firstStep_28 rfl ki_1 ?_
        refine V.iload_n (j := 3) dX4_firstStep_29 rfl rfl rfl ?_
        refine V.ishl dX4_firstStep_30 rfl ?_
        refine V.iconst dX4_firstStep_31 rfl ki_m1 ?_
        refine V.ixor dX4_firstStep_32 rfl ?_
        refine V.iand dX4_firstStep_33 rfl ?_
        obtain ⟨v3, q2, hx⟩ := ob_some hx
        refine U.callV (As := [.int (l1 + (1 : Int32)), .int (l2 &&& ((jshl (1 : Int32) l3) ^^^ (-1 : Int32)))]) (rest := []) (st' := [.int v3]) hE.1 (mX4_canFill hE t0 q2) mic_X4_canFill rfl t0 (by decide) rfl rfl wq_m_X4_19 wq_i_yX4_canFill wq_s_yX4_canFill ⟨Nat.le_of_ble_eq_true rfl, Nat.le_of_ble_eq_true rfl⟩ (Nat.le_of_ble_eq_true rfl) dX4_firstStep_34 rfl rfl rfl ?_
        refine V.if_eq (tgt := 42) hx dX4_firstStep_37 (by decide) rfl (fun hx => ?_) (fun hx => ?_)
        · refine U.iinc hx (fun v4 => [(3, .int v4), (0, .ref (G.1 + l0)), (1, .int l1), (2, .int l2)]) (j := 3) rfl (by decide) (Nat.le_of_ble_eq_true rfl) (fun _ => rfl) dX4_firstStep_42 rfl (fun v4 hx => ?_)
          refine V.goto (q := 2) dX4_firstStep_45 (by decide) ?_
          refine V.pick [1, 2, 3, 0] rfl ?_
          exact ih l0 l1 l2 v4 t0 hx
        · refine V.iload_n (j := 3) dX4_firstStep_40 rfl rfl rfl ?_
          obtain rfl := Option.some.inj hx
          exact U.retI rfl rfl rfl rfl dX4_firstStep_41
set_option maxRecDepth 100000 in
set_option maxHeartbeats 4000000 in
theorem mX4_firstStep {l : Launch} {G : GG} {EX : State → Prop} (hE : EXB G EX) {th : Nat} {a1 : Int32} {a2 : Int32} {h : AH} (t0 : KD th = 3) {r : Int32} (hx : fX4_firstStep th a1 a2 h = some r) : MetU l G EX mi_X4_firstStep 3 67 [.ref (G.1 + th), .int a1, .int a2] h (some (.int r)) h := by
  refine MetU.of mic_X4_firstStep.1 (Nat.le_of_ble_eq_true rfl) ?_
  refine show U l G EX mi_X4_firstStep 3 67 (some (.int r)) h 0 [(0, .ref (G.1 + th)), (1, .int a1), (2, .int a2)] [] h from ?_
  unfold fX4_firstStep at hx
  refine V.iconst dX4_firstStep_0 rfl ki_0 ?_
  refine V.istore_n [(3, .int (0 : Int32)), (0, .ref (G.1 + th)), (1, .int a1), (2, .int a2)] dX4_firstStep_1 rfl rfl (Nat.le_of_ble_eq_true rfl) rfl ?_
  refine V.pick [1, 2, 3, 0] rfl ?_
  exact vX4_firstStep_2 hE FU th a1 a2 (0 : Int32) t0 hx
set_option maxRecDepth 100000 in
set_option maxHeartbeats 4000000 in
theorem vX4_stepOf_11 {l : Launch} {G : GG} {EX : State → Prop} (hE : EXB G EX) {h : AH} {r : Int32} : ∀ (n : Nat) (l0 : Nat) (l1 : Int32) (l3 : Int32) (l4 : Int32) (l5 : Int32) (t0 : KD l0 = 3), fX4_stepOf_11 h n l0 l1 l3 l4 l5 = some r → U l G EX mi_X4_stepOf 4 90 (some (.int r)) h 11 [(0, .ref (G.1 + l0)), (1, .int l1), (3, .int l3), (4, .int l4), (5, .int l5)] [] h := by
  intro n
  induction n with
  | zero =>
    intro l0 l1 l3 l4 l5 t0 hx
    have hx : none = some r := hx
    cases hx
  | succ n ih =>
    intro l0 l1 l3 l4 l5 t0 hx
    rw [fX4_stepOf_11] at hx
    refine V.iload (j := 4) dX4_stepOf_11 rfl rfl ?_
    refine V.iload_n (j := 1) dX4_stepOf_13 rfl rfl rfl ?_
    refine V.icmp_gt (tgt := 58) hx dX4_stepOf_14 (by decide) rfl (fun hx => ?_) (fun hx => ?_)
    · refine V.iload (j := 3) dX4_stepOf_58 rfl rfl ?_
      obtain rfl := Option.some.inj hx
      exact U.retI rfl rfl rfl rfl dX4_stepOf_60
    · refine V.iload (j := 4) dX4_stepOf_17 rfl rfl ?_
      refine V.aload_n (j := 0) dX4_stepOf_19 rfl rfl rfl ?_
      refine U.getI fl_X4_23 t0 dX4_stepOf_20 rfl ?_
      refine V.icmp_ge (tgt := 58) hx dX4_stepOf_23 (by decide) rfl (fun hx => ?_) (fun hx => ?_)
      · refine V.iload (j := 3) dX4_stepOf_58 rfl rfl ?_
        obtain rfl := Option.some.inj hx
        exact U.retI rfl rfl rfl rfl dX4_stepOf_60
      · refine V.aload_n (j := 0) dX4_stepOf_26 rfl rfl rfl ?_
        refine V.iload (j := 4) dX4_stepOf_27 rfl rfl ?_
        refine V.iload_n (j := 2) dX4_stepOf_29 rfl rfl rfl ?_
        obtain ⟨v4, q3, hx⟩ := ob_some hx
        refine U.callV (As := [.int l5, .int l3]) (rest := []) (st' := [.int v4]) hE.1 (mX4_firstStep hE t0 q3) mic_X4_firstStep rfl t0 (by decide) rfl rfl wq_m_X4_27 wq_i_yX4_firstStep wq_s_yX4_firstStep ⟨Nat.le_of_ble_eq_true rfl, Nat.le_of_ble_eq_true rfl⟩ (Nat.le_of_ble_eq_true rfl) dX4_stepOf_30 rfl rfl rfl ?_
        refine V.istore [(4, .int v4), (0, .ref (G.1 + l0)), (1, .int l1), (3, .int l3), (5, .int l5)] dX4_stepOf_33 rfl (Nat.le_of_ble_eq_true rfl) rfl ?_
        refine V.iload (j := 0) dX4_stepOf_35 rfl rfl ?_
        refine V.iconst dX4_stepOf_37 rfl ki_m1 ?_
        refine V.icmp_ne (tgt := 43) hx dX4_stepOf_38 (by decide) rfl (fun hx => ?_) (fun hx => ?_)
        · refine V.iload_n (j := 3) dX4_stepOf_43 rfl rfl rfl ?_
          refine V.iconst dX4_stepOf_44 rfl ki_1 ?_
          refine V.iload (j := 0) dX4_stepOf_45 rfl rfl ?_
          refine V.ishl dX4_stepOf_47 rfl ?_
          refine V.iconst dX4_stepOf_48 rfl ki_m1 ?_
          refine V.ixor dX4_stepOf_49 rfl ?_
          refine V.iand dX4_stepOf_50 rfl ?_
          refine U.letI hx (fun v5 hx => ?_)
          refine V.istore_n [(3, .int v5), (4, .int v4), (0, .ref (G.1 + l0)), (1, .int l1), (5, .int l5)] dX4_stepOf_51 rfl rfl (Nat.le_of_ble_eq_true rfl) rfl ?_
          refine U.iinc hx (fun v6 => [(5, .int v6), (3, .int v5), (4, .int v4), (0, .ref (G.1 + l0)), (1, .int l1)]) (j := 4) rfl (by decide) (Nat.le_of_ble_eq_true rfl) (fun _ => rfl) dX4_stepOf_52 rfl (fun v6 hx => ?_)
          refine V.goto (q := 11) dX4_stepOf_55 (by decide) ?_
          refine V.pick [3, 4, 1, 2, 0] rfl ?_
          exact ih l0 l1 v5 v4 v6 t0 hx
        · refine V.iconst dX4_stepOf_41 rfl ki_m1 ?_
          obtain rfl := Option.some.inj hx
          exact U.retI rfl rfl rfl rfl dX4_stepOf_42
set_option maxRecDepth 100000 in
set_option maxHeartbeats 4000000 in
theorem mX4_stepOf {l : Launch} {G : GG} {EX : State → Prop} (hE : EXB G EX) {th : Nat} {a1 : Int32} {a2 : Int32} {h : AH} (t0 : KD th = 3) {r : Int32} (hx : fX4_stepOf th a1 a2 h = some r) : MetU l G EX mi_X4_stepOf 4 90 [.ref (G.1 + th), .int a1, .int a2] h (some (.int r)) h := by
  refine MetU.of mic_X4_stepOf.1 (Nat.le_of_ble_eq_true rfl) ?_
  refine show U l G EX mi_X4_stepOf 4 90 (some (.int r)) h 0 [(0, .ref (G.1 + th)), (1, .int a1), (2, .int a2)] [] h from ?_
  unfold fX4_stepOf at hx
  refine V.iload_n (j := 2) dX4_stepOf_0 rfl rfl rfl ?_
  obtain ⟨v2, q1, hx⟩ := ob_some hx
  refine U.callS (As := [.int a2]) (rest := []) (st' := [.int v2]) hE.1 (mX4_upTo hE q1) mic_X4_upTo rfl wq_m_X4_15 wq_t_yX4_upTo ⟨Nat.le_of_ble_eq_true rfl, Nat.le_of_ble_eq_true rfl⟩ (Nat.le_of_ble_eq_true rfl) dX4_stepOf_1 rfl rfl rfl ?_
  refine V.istore_n [(3, .int v2), (0, .ref (G.1 + th)), (1, .int a1), (2, .int a2)] dX4_stepOf_4 rfl rfl (Nat.le_of_ble_eq_true rfl) rfl ?_
  refine V.iconst dX4_stepOf_5 rfl ki_m1 ?_
  refine V.istore [(4, .int (-1 : Int32)), (3, .int v2), (0, .ref (G.1 + th)), (1, .int a1), (2, .int a2)] dX4_stepOf_6 rfl (Nat.le_of_ble_eq_true rfl) rfl ?_
  refine V.iconst dX4_stepOf_8 rfl ki_0 ?_
  refine V.istore [(5, .int (0 : Int32)), (4, .int (-1 : Int32)), (3, .int v2), (0, .ref (G.1 + th)), (1, .int a1), (2, .int a2)] dX4_stepOf_9 rfl (Nat.le_of_ble_eq_true rfl) rfl ?_
  refine V.pick [3, 4, 2, 1, 0] rfl ?_
  exact vX4_stepOf_11 hE FU th a1 v2 (-1 : Int32) (0 : Int32) t0 hx
set_option maxRecDepth 100000 in
set_option maxHeartbeats 4000000 in
theorem vX8_plan_14 {l : Launch} {G : GG} {EX : State → Prop} (hE : EXB G EX) {r : Int32 × AH} : ∀ (l0 : Nat) (h : AH) (t0 : KD l0 = 7), fX8_plan_14 l0 h = some r → U l G EX mi_X8_plan 6 145 (some (.int r.1)) r.2 14 [(0, .ref (G.1 + l0))] [] h := by
  intro l0 h t0 hx
  unfold fX8_plan_14 at hx
  refine V.aload_n (j := 0) dX8_plan_14 rfl rfl rfl ?_
  refine V.bipush dX8_plan_15 rfl kb_m2 ?_
  obtain ⟨v5, h4, q3, hx⟩ := ob2_some hx
  refine U.callV (As := [.int (-2 : Int32)]) (rest := []) (st' := [.int v5]) hE.1 (mX8_refuse hE t0 q3) mic_X8_refuse rfl t0 (by decide) rfl rfl wq_m_X8_80 wq_i_yX8_refuse wq_s_yX8_refuse ⟨Nat.le_of_ble_eq_true rfl, Nat.le_of_ble_eq_true rfl⟩ (Nat.le_of_ble_eq_true rfl) dX8_plan_17 rfl rfl rfl ?_
  refine V.pop dX8_plan_20 rfl rfl ?_
  refine V.bipush dX8_plan_21 rfl kb_m10 ?_
  obtain rfl := Option.some.inj hx
  exact U.retI rfl rfl rfl rfl dX8_plan_23
set_option maxRecDepth 100000 in
set_option maxHeartbeats 4000000 in
theorem vX8_plan_89 {l : Launch} {G : GG} {EX : State → Prop} (hE : EXB G EX) {r : Int32 × AH} : ∀ (l0 : Nat) (l2 : Int32) (l3 : Int32) (h : AH) (t0 : KD l0 = 7), fX8_plan_89 l0 l2 l3 h = some r → U l G EX mi_X8_plan 6 145 (some (.int r.1)) r.2 89 [(0, .ref (G.1 + l0)), (2, .int l2), (3, .int l3)] [] h := by
  intro l0 l2 l3 h t0 hx
  unfold fX8_plan_89 at hx
  refine V.aload_n (j := 0) dX8_plan_89 rfl rfl rfl ?_
  refine U.getP fl_X8_48 t0 dX8_plan_90 rfl ?_
  obtain ⟨v9, q8, hx⟩ := ob_some hx
  refine U.callV (As := []) (rest := []) (st' := [.int v9]) hE.1 (mX4_soonestLast hE (ty_X8_6 t0) q8) mic_X4_soonestLast rfl (ty_X8_6 t0) (by decide) rfl rfl wq_m_X8_223 wq_i_yX4_soonestLast wq_s_yX4_soonestLast ⟨Nat.le_of_ble_eq_true rfl, Nat.le_of_ble_eq_true rfl⟩ (Nat.le_of_ble_eq_true rfl) dX8_plan_93 rfl rfl rfl ?_
  refine V.istore [(5, .int v9), (0, .ref (G.1 + l0)), (2, .int l2), (3, .int l3)] dX8_plan_96 rfl (Nat.le_of_ble_eq_true rfl) rfl ?_
  refine V.iload (j := 0) dX8_plan_98 rfl rfl ?_
  refine V.iconst dX8_plan_100 rfl ki_m1 ?_
  refine V.icmp_ne (tgt := 106) hx dX8_plan_101 (by decide) rfl (fun hx => ?_) (fun hx => ?_)
  · refine V.iload_n (j := 2) dX8_plan_106 rfl rfl rfl ?_
    refine V.iconst dX8_plan_107 rfl ki_m1 ?_
    refine V.icmp_ne (tgt := 116) hx dX8_plan_108 (by decide) rfl (fun hx => ?_) (fun hx => ?_)
    · refine V.iload_n (j := 2) dX8_plan_116 rfl rfl rfl ?_
      refine V.iload_n (j := 3) dX8_plan_117 rfl rfl rfl ?_
      refine V.icmp_ge (tgt := 134) hx dX8_plan_118 (by decide) rfl (fun hx => ?_) (fun hx => ?_)
      · refine V.bipush dX8_plan_134 rfl kb_m5 ?_
        obtain rfl := Option.some.inj hx
        exact U.retI rfl rfl rfl rfl dX8_plan_136
      · refine V.aload_n (j := 1) dX8_plan_121 rfl rfl rfl ?_
        refine U.getP fl_X8_48 t0 dX8_plan_122 rfl ?_
        refine V.iload_n (j := 2) dX8_plan_125 rfl rfl rfl ?_
        refine V.iload (j := 0) dX8_plan_126 rfl rfl ?_
        obtain ⟨v11, q10, hx⟩ := ob_some hx
        refine U.callV (As := [.int l2, .int v9]) (rest := []) (st' := [.int v11]) hE.1 (mX4_stepOf hE (ty_X8_6 t0) q10) mic_X4_stepOf rfl (ty_X8_6 t0) (by decide) rfl rfl wq_m_X8_226 wq_i_yX4_stepOf wq_s_yX4_stepOf ⟨Nat.le_of_ble_eq_true rfl, Nat.le_of_ble_eq_true rfl⟩ (Nat.le_of_ble_eq_true rfl) dX8_plan_128 rfl rfl rfl ?_
        refine V.goto (q := 136) dX8_plan_131 (by decide) ?_
        obtain rfl := Option.some.inj hx
        exact U.retI rfl rfl rfl rfl dX8_plan_136
    · refine V.iload (j := 0) dX8_plan_111 rfl rfl ?_
      refine V.iconst dX8_plan_113 rfl ki_1 ?_
      refine V.iadd dX8_plan_114 rfl ?_
      obtain rfl := Option.some.inj hx
      exact U.retI rfl rfl rfl rfl dX8_plan_115
  · refine V.iconst dX8_plan_104 rfl ki_m1 ?_
    obtain rfl := Option.some.inj hx
    exact U.retI rfl rfl rfl rfl dX8_plan_105
set_option maxRecDepth 100000 in
set_option maxHeartbeats 4000000 in
theorem vX8_plan_40 {l : Launch} {G : GG} {EX : State → Prop} (hE : EXB G EX) {r : Int32 × AH} : ∀ (n : Nat) (l0 : Nat) (l2 : Int32) (l3 : Int32) (l4 : Int32) (l5 : Int32) (h : AH) (t0 : KD l0 = 7), fX8_plan_40 n l0 l2 l3 l4 l5 h = some r → U l G EX mi_X8_plan 6 145 (some (.int r.1)) r.2 40 [(0, .ref (G.1 + l0)), (2, .int l2), (3, .int l3), (4, .int l4), (5, .int l5)] [] h := by
  intro n
  induction n with
  | zero =>
    intro l0 l2 l3 l4 l5 h t0 hx
    have hx : none = some r := hx
    cases hx
  | succ n ih =>
    intro l0 l2 l3 l4 l5 h t0 hx
    rw [fX8_plan_40] at hx
    refine V.iload (j := 4) dX8_plan_40 rfl rfl ?_
    refine V.if_lt (tgt := 89) hx dX8_plan_42 (by decide) rfl (fun hx => ?_) (fun hx => ?_)
    · refine V.pick [0, 1, 2] rfl ?_
      exact vX8_plan_89 hE l0 l2 l3 h t0 hx
    · refine V.aload_n (j := 0) dX8_plan_45 rfl rfl rfl ?_
      refine U.getP fl_X8_48 t0 dX8_plan_46 rfl ?_
      refine V.iload (j := 4) dX8_plan_49 rfl rfl ?_
      refine V.aload_n (j := 0) dX8_plan_51 rfl rfl rfl ?_
      refine U.getP fl_X8_34 t0 dX8_plan_52 rfl ?_
      refine V.aload_n (j := 0) dX8_plan_55 rfl rfl rfl ?_
      refine U.getP fl_X8_10 t0 dX8_plan_56 rfl ?_
      refine U.getP fl_X8_60 (ty_X8_0 t0) dX8_plan_59 rfl ?_
      refine V.iload (j := 3) dX8_plan_62 rfl rfl ?_
      refine V.bipush dX8_plan_64 rfl kb_100 ?_
      refine V.irem dX8_plan_66 rfl (by decide) ?_
      refine V.bipush dX8_plan_67 rfl kb_11 ?_
      refine V.isub dX8_plan_69 rfl ?_
      obtain ⟨v14, h13, q12, hx⟩ := ob2_some hx
      refine U.callV (As := [.ref (G.1 + (PC (PC l0 0) 0)), .int ((jrem l4 (100 : Int32)) - (11 : Int32))]) (rest := [.int l5, .ref (G.1 + (PC l0 6))]) (st' := [.int v14, .int l5, .ref (G.1 + (PC l0 6))]) hE.1 (mX7_openSteps hE (ty_X8_4 t0) (ty_X0_0 (ty_X8_0 t0)) q12) mic_X7_openSteps rfl (ty_X8_4 t0) (by decide) rfl rfl wq_m_X8_198 wq_i_yX7_openSteps wq_s_yX7_openSteps ⟨Nat.le_of_ble_eq_true rfl, Nat.le_of_ble_eq_true rfl⟩ (Nat.le_of_ble_eq_true rfl) dX8_plan_70 rfl rfl rfl ?_
      obtain ⟨h16, q15, hx⟩ := ob_some hx
      refine U.callV (As := [.int l5, .int v14]) (rest := []) (st' := []) hE.1 (mX4_openAt hE (ty_X8_6 t0) q15) mic_X4_openAt rfl (ty_X8_6 t0) (by decide) rfl rfl wq_m_X8_219 wq_i_yX4_openAt wq_s_yX4_openAt ⟨Nat.le_of_ble_eq_true rfl, Nat.le_of_ble_eq_true rfl⟩ (Nat.le_of_ble_eq_true rfl) dX8_plan_73 rfl rfl rfl ?_
      refine V.iload (j := 3) dX8_plan_76 rfl rfl ?_
      refine V.bipush dX8_plan_78 rfl kb_100 ?_
      refine V.idiv dX8_plan_80 rfl (by decide) ?_
      refine U.letI hx (fun v17 hx => ?_)
      refine V.istore [(4, .int v17), (0, .ref (G.1 + l0)), (2, .int l2), (3, .int l3), (5, .int l5)] dX8_plan_81 rfl (Nat.le_of_ble_eq_true rfl) rfl ?_
      refine U.iinc hx (fun v18 => [(5, .int v18), (4, .int v17), (0, .ref (G.1 + l0)), (2, .int l2), (3, .int l3)]) (j := 4) rfl (by decide) (Nat.le_of_ble_eq_true rfl) (fun _ => rfl) dX8_plan_83 rfl (fun v18 hx => ?_)
      refine V.goto (q := 40) dX8_plan_86 (by decide) ?_
      refine V.pick [2, 3, 4, 1, 0] rfl ?_
      exact ih l0 l2 l3 v17 v18 h16 t0 hx
set_option maxRecDepth 100000 in
set_option maxHeartbeats 4000000 in
theorem mX8_plan {l : Launch} {G : GG} {EX : State → Prop} (hE : EXB G EX) {th : Nat} {a1 : Int32} {a2 : Int32} {h : AH} (t0 : KD th = 7) {r : Int32 × AH} (hx : fX8_plan th a1 a2 h = some r) : MetU l G EX mi_X8_plan 6 145 [.ref (G.1 + th), .int a1, .int a2] h (some (.int r.1)) r.2 := by
  refine MetU.of mic_X8_plan.1 (Nat.le_of_ble_eq_true rfl) ?_
  refine show U l G EX mi_X8_plan 6 145 (some (.int r.1)) r.2 0 [(0, .ref (G.1 + th)), (1, .int a1), (2, .int a2)] [] h from ?_
  unfold fX8_plan at hx
  refine V.iload_n (j := 1) dX8_plan_0 rfl rfl rfl ?_
  obtain ⟨v2, q1, hx⟩ := ob_some hx
  refine U.callS (As := [.int a1]) (rest := []) (st' := [.int v2]) hE.1 (mX8_planCells hE q1) mic_X8_planCells rfl wq_m_X8_213 wq_t_yX8_planCells ⟨Nat.le_of_ble_eq_true rfl, Nat.le_of_ble_eq_true rfl⟩ (Nat.le_of_ble_eq_true rfl) dX8_plan_1 rfl rfl rfl ?_
  refine V.istore_n [(3, .int v2), (0, .ref (G.1 + th)), (1, .int a1), (2, .int a2)] dX8_plan_4 rfl rfl (Nat.le_of_ble_eq_true rfl) rfl ?_
  refine V.iload_n (j := 0) dX8_plan_5 rfl rfl rfl ?_
  refine V.if_eq (tgt := 14) hx dX8_plan_6 (by decide) rfl (fun hx => ?_) (fun hx => ?_)
  · refine V.pick [1] rfl ?_
    exact vX8_plan_14 hE th h t0 hx
  · refine V.iload_n (j := 3) dX8_plan_9 rfl rfl rfl ?_
    refine V.iconst dX8_plan_10 rfl ki_m1 ?_
    refine V.icmp_ge (tgt := 24) hx dX8_plan_11 (by decide) rfl (fun hx => ?_) (fun hx => ?_)
    · refine V.aload_n (j := 1) dX8_plan_24 rfl rfl rfl ?_
      refine U.getP fl_X8_48 t0 dX8_plan_25 rfl ?_
      refine V.iload_n (j := 0) dX8_plan_28 rfl rfl rfl ?_
      refine U.putI hx fl_X8_216 (ty_X8_6 t0) rfl rfl dX8_plan_29 rfl (fun h6 hx => ?_)
      refine V.iload_n (j := 2) dX8_plan_32 rfl rfl rfl ?_
      refine V.istore [(4, .int a1), (3, .int v2), (0, .ref (G.1 + th)), (1, .int a1), (2, .int a2)] dX8_plan_33 rfl (Nat.le_of_ble_eq_true rfl) rfl ?_
      refine V.iload_n (j := 1) dX8_plan_35 rfl rfl rfl ?_
      refine V.iconst dX8_plan_36 rfl ki_1 ?_
      refine V.isub dX8_plan_37 rfl ?_
      refine U.letI hx (fun v7 hx => ?_)
      refine V.istore [(5, .int v7), (4, .int a1), (3, .int v2), (0, .ref (G.1 + th)), (1, .int a1), (2, .int a2)] dX8_plan_38 rfl (Nat.le_of_ble_eq_true rfl) rfl ?_
      refine V.pick [3, 5, 2, 1, 0] rfl ?_
      exact vX8_plan_40 hE FU th a2 v2 a1 v7 h6 t0 hx
    · refine V.pick [1] rfl ?_
      exact vX8_plan_14 hE th h t0 hx
set_option maxRecDepth 100000 in
set_option maxHeartbeats 4000000 in
theorem vX8_cellsSeenFrom_53 {l : Launch} {G : GG} {EX : State → Prop} (hE : EXB G EX) {h : AH} {r : Int32} : ∀ (n : Nat) (l2 : Int32) (l3 : Int32) (l4 : Int32) (l5 : Int32) (l6 : Int32), fX8_cellsSeenFrom_53 h n l2 l3 l4 l5 l6 = some r → U l G EX mi_X8_cellsSeenFrom 3 74 (some (.int r)) h 53 [(2, .int l2), (3, .int l3), (4, .int l4), (5, .int l5), (6, .int l6)] [] h := by
  intro n
  induction n with
  | zero =>
    intro l2 l3 l4 l5 l6 hx
    have hx : none = some r := hx
    cases hx
  | succ n ih =>
    intro l2 l3 l4 l5 l6 hx
    rw [fX8_cellsSeenFrom_53] at hx
    refine V.iload (j := 4) dX8_cellsSeenFrom_53 rfl rfl ?_
    refine V.bipush dX8_cellsSeenFrom_55 rfl kb_30 ?_
    refine V.icmp_ge (tgt := 84) hx dX8_cellsSeenFrom_57 (by decide) rfl (fun hx => ?_) (fun hx => ?_)
    · refine V.iload (j := 3) dX8_cellsSeenFrom_84 rfl rfl ?_
      obtain rfl := Option.some.inj hx
      exact U.retI rfl rfl rfl rfl dX8_cellsSeenFrom_86
    · refine V.iload_n (j := 1) dX8_cellsSeenFrom_60 rfl rfl rfl ?_
      refine V.iload_n (j := 0) dX8_cellsSeenFrom_61 rfl rfl rfl ?_
      refine V.iload (j := 4) dX8_cellsSeenFrom_62 rfl rfl ?_
      obtain ⟨v9, q8, hx⟩ := ob_some hx
      refine U.callS (As := [.int l2, .int l6]) (rest := [.int l3]) (st' := [.int v9, .int l3]) hE.1 (mX8_far hE q8) mic_X8_far rfl wq_m_X8_336 wq_t_yX8_far ⟨Nat.le_of_ble_eq_true rfl, Nat.le_of_ble_eq_true rfl⟩ (Nat.le_of_ble_eq_true rfl) dX8_cellsSeenFrom_64 rfl rfl rfl ?_
      refine V.iload (j := 2) dX8_cellsSeenFrom_67 rfl rfl ?_
      obtain ⟨v11, q10, hx⟩ := ob_some hx
      refine U.callS (As := [.int l3, .int v9, .int l4]) (rest := []) (st' := [.int v11]) hE.1 (mX1_seesBy hE q10) mic_X1_seesBy rfl wq_m_X8_339 wq_t_yX1_seesBy ⟨Nat.le_of_ble_eq_true rfl, Nat.le_of_ble_eq_true rfl⟩ (Nat.le_of_ble_eq_true rfl) dX8_cellsSeenFrom_69 rfl rfl rfl ?_
      refine V.if_eq (tgt := 78) hx dX8_cellsSeenFrom_72 (by decide) rfl (fun hx => ?_) (fun hx => ?_)
      · refine U.iinc hx (fun v12 => [(6, .int v12), (2, .int l2), (3, .int l3), (4, .int l4), (5, .int l5)]) (j := 4) rfl (by decide) (Nat.le_of_ble_eq_true rfl) (fun _ => rfl) dX8_cellsSeenFrom_78 rfl (fun v12 hx => ?_)
        refine V.goto (q := 53) dX8_cellsSeenFrom_81 (by decide) ?_
        refine V.pick [1, 2, 3, 4, 0] rfl ?_
        exact ih l2 l3 l4 l5 v12 hx
      · refine U.iinc hx (fun v13 => [(5, .int v13), (2, .int l2), (3, .int l3), (4, .int l4), (6, .int l6)]) (j := 3) rfl (by decide) (Nat.le_of_ble_eq_true rfl) (fun _ => rfl) dX8_cellsSeenFrom_75 rfl (fun v13 hx => ?_)
        refine U.iinc hx (fun v14 => [(6, .int v14), (5, .int v13), (2, .int l2), (3, .int l3), (4, .int l4)]) (j := 4) rfl (by decide) (Nat.le_of_ble_eq_true rfl) (fun _ => rfl) dX8_cellsSeenFrom_78 rfl (fun v14 hx => ?_)
        refine V.goto (q := 53) dX8_cellsSeenFrom_81 (by decide) ?_
        refine V.pick [2, 3, 4, 1, 0] rfl ?_
        exact ih l2 l3 l4 v13 v14 hx
set_option maxRecDepth 100000 in
set_option maxHeartbeats 4000000 in
theorem mX8_cellsSeenFrom {l : Launch} {G : GG} {EX : State → Prop} (hE : EXB G EX) {th : Nat} {a1 : Int32} {a2 : Int32} {h : AH} (t0 : KD th = 7) {r : Int32} (hx : fX8_cellsSeenFrom th a1 a2 h = some r) : MetU l G EX mi_X8_cellsSeenFrom 3 74 [.ref (G.1 + th), .int a1, .int a2] h (some (.int r)) h := by
  refine MetU.of mic_X8_cellsSeenFrom.1 (Nat.le_of_ble_eq_true rfl) ?_
  refine show U l G EX mi_X8_cellsSeenFrom 3 74 (some (.int r)) h 0 [(0, .ref (G.1 + th)), (1, .int a1), (2, .int a2)] [] h from ?_
  unfold fX8_cellsSeenFrom at hx
  refine V.aload_n (j := 0) dX8_cellsSeenFrom_0 rfl rfl rfl ?_
  refine U.getP fl_X8_10 t0 dX8_cellsSeenFrom_1 rfl ?_
  refine U.getP fl_X8_60 (ty_X8_0 t0) dX8_cellsSeenFrom_4 rfl ?_
  refine U.getP fl_X8_173 (ty_X0_0 (ty_X8_0 t0)) dX8_cellsSeenFrom_7 rfl ?_
  refine V.iload_n (j := 1) dX8_cellsSeenFrom_10 rfl rfl rfl ?_
  refine U.iald hx (ty_X2_8 (ty_X0_0 (ty_X8_0 t0))) dX8_cellsSeenFrom_11 rfl (fun hx => ?_)
  refine U.letI hx (fun v1 hx => ?_)
  refine V.istore_n [(3, .int v1), (0, .ref (G.1 + th)), (1, .int a1), (2, .int a2)] dX8_cellsSeenFrom_12 rfl rfl (Nat.le_of_ble_eq_true rfl) rfl ?_
  refine V.aload_n (j := 1) dX8_cellsSeenFrom_13 rfl rfl rfl ?_
  refine U.getP fl_X8_10 t0 dX8_cellsSeenFrom_14 rfl ?_
  refine U.getP fl_X8_60 (ty_X8_0 t0) dX8_cellsSeenFrom_17 rfl ?_
  refine V.aload_n (j := 1) dX8_cellsSeenFrom_20 rfl rfl rfl ?_
  refine U.getP fl_X8_10 t0 dX8_cellsSeenFrom_21 rfl ?_
  refine U.getP fl_X8_60 (ty_X8_0 t0) dX8_cellsSeenFrom_24 rfl ?_
  obtain ⟨v3, q2, hx⟩ := ob_some hx
  refine U.callV (As := []) (rest := [.ref (G.1 + (PC (PC th 0) 0))]) (st' := [.int v3, .ref (G.1 + (PC (PC th 0) 0))]) hE.1 (mX2_onBits hE (ty_X0_0 (ty_X8_0 t0)) q2) mic_X2_onBits rfl (ty_X0_0 (ty_X8_0 t0)) (by decide) rfl rfl wq_m_X8_166 wq_i_yX2_onBits wq_s_yX2_onBits ⟨Nat.le_of_ble_eq_true rfl, Nat.le_of_ble_eq_true rfl⟩ (Nat.le_of_ble_eq_true rfl) dX8_cellsSeenFrom_27 rfl rfl rfl ?_
  refine V.iload_n (j := 3) dX8_cellsSeenFrom_30 rfl rfl rfl ?_
  refine V.aload_n (j := 1) dX8_cellsSeenFrom_31 rfl rfl rfl ?_
  refine U.getP fl_X8_10 t0 dX8_cellsSeenFrom_32 rfl ?_
  refine U.getP fl_X8_60 (ty_X8_0 t0) dX8_cellsSeenFrom_35 rfl ?_
  refine V.iconst dX8_cellsSeenFrom_38 rfl ki_0 ?_
  obtain ⟨v5, q4, hx⟩ := ob_some hx
  refine U.callV (As := [.int (0 : Int32)]) (rest := [.int a2, .int v3, .ref (G.1 + (PC (PC th 0) 0))]) (st' := [.int v5, .int a2, .int v3, .ref (G.1 + (PC (PC th 0) 0))]) hE.1 (mX2_dayStep hE (ty_X0_0 (ty_X8_0 t0)) q4) mic_X2_dayStep rfl (ty_X0_0 (ty_X8_0 t0)) (by decide) rfl rfl wq_m_X8_160 wq_i_yX2_dayStep wq_s_yX2_dayStep ⟨Nat.le_of_ble_eq_true rfl, Nat.le_of_ble_eq_true rfl⟩ (Nat.le_of_ble_eq_true rfl) dX8_cellsSeenFrom_39 rfl rfl rfl ?_
  obtain ⟨v7, q6, hx⟩ := ob_some hx
  refine U.callV (As := [.int v3, .int a2, .int v5]) (rest := []) (st' := [.int v7]) hE.1 (mX2_greatestPull hE (ty_X0_0 (ty_X8_0 t0)) q6) mic_X2_greatestPull rfl (ty_X0_0 (ty_X8_0 t0)) (by decide) rfl rfl wq_m_X8_176 wq_i_yX2_greatestPull wq_s_yX2_greatestPull ⟨Nat.le_of_ble_eq_true rfl, Nat.le_of_ble_eq_true rfl⟩ (Nat.le_of_ble_eq_true rfl) dX8_cellsSeenFrom_42 rfl rfl rfl ?_
  refine V.istore [(4, .int v7), (3, .int v1), (0, .ref (G.1 + th)), (1, .int a1), (2, .int a2)] dX8_cellsSeenFrom_45 rfl (Nat.le_of_ble_eq_true rfl) rfl ?_
  refine V.iconst dX8_cellsSeenFrom_47 rfl ki_0 ?_
  refine V.istore [(5, .int (0 : Int32)), (4, .int v7), (3, .int v1), (0, .ref (G.1 + th)), (1, .int a1), (2, .int a2)] dX8_cellsSeenFrom_48 rfl (Nat.le_of_ble_eq_true rfl) rfl ?_
  refine V.iconst dX8_cellsSeenFrom_50 rfl ki_0 ?_
  refine V.istore [(6, .int (0 : Int32)), (5, .int (0 : Int32)), (4, .int v7), (3, .int v1), (0, .ref (G.1 + th)), (1, .int a1), (2, .int a2)] dX8_cellsSeenFrom_51 rfl (Nat.le_of_ble_eq_true rfl) rfl ?_
  refine V.pick [6, 3, 2, 1, 0] rfl ?_
  exact vX8_cellsSeenFrom_53 hE FU a2 v1 v7 (0 : Int32) (0 : Int32) hx
set_option maxRecDepth 100000 in
set_option maxHeartbeats 4000000 in
theorem vX8_guard_23 {l : Launch} {G : GG} {EX : State → Prop} (hE : EXB G EX) {r : Int32 × AH} : ∀ (l0 : Nat) (h : AH) (t0 : KD l0 = 7), fX8_guard_23 l0 h = some r → U l G EX mi_X8_guard 4 100 (some (.int r.1)) r.2 23 [(0, .ref (G.1 + l0))] [] h := by
  intro l0 h t0 hx
  unfold fX8_guard_23 at hx
  refine V.aload_n (j := 0) dX8_guard_23 rfl rfl rfl ?_
  refine V.bipush dX8_guard_24 rfl kb_m2 ?_
  obtain ⟨v5, h4, q3, hx⟩ := ob2_some hx
  refine U.callV (As := [.int (-2 : Int32)]) (rest := []) (st' := [.int v5]) hE.1 (mX8_refuse hE t0 q3) mic_X8_refuse rfl t0 (by decide) rfl rfl wq_m_X8_80 wq_i_yX8_refuse wq_s_yX8_refuse ⟨Nat.le_of_ble_eq_true rfl, Nat.le_of_ble_eq_true rfl⟩ (Nat.le_of_ble_eq_true rfl) dX8_guard_26 rfl rfl rfl ?_
  obtain rfl := Option.some.inj hx
  exact U.retI rfl rfl rfl rfl dX8_guard_29
set_option maxRecDepth 100000 in
set_option maxHeartbeats 4000000 in
theorem vX8_guard_74 {l : Launch} {G : GG} {EX : State → Prop} (hE : EXB G EX) {r : Int32 × AH} : ∀ (l2 : Int32) (l3 : Int32) (l4 : Int32) (h : AH), fX8_guard_74 l2 l3 l4 h = some r → U l G EX mi_X8_guard 4 100 (some (.int r.1)) r.2 74 [(2, .int l2), (3, .int l3), (4, .int l4)] [] h := by
  intro l2 l3 l4 h hx
  unfold fX8_guard_74 at hx
  refine V.iload_n (j := 0) dX8_guard_74 rfl rfl rfl ?_
  refine V.if_ne (tgt := 82) hx dX8_guard_75 (by decide) rfl (fun hx => ?_) (fun hx => ?_)
  · refine V.iload (j := 2) dX8_guard_82 rfl rfl ?_
    obtain rfl := Option.some.inj hx
    exact U.retI rfl rfl rfl rfl dX8_guard_84
  · refine V.iload_n (j := 1) dX8_guard_78 rfl rfl rfl ?_
    refine V.goto (q := 84) dX8_guard_79 (by decide) ?_
    obtain rfl := Option.some.inj hx
    exact U.retI rfl rfl rfl rfl dX8_guard_84
set_option maxRecDepth 100000 in
set_option maxHeartbeats 4000000 in
theorem vX8_guard_38 {l : Launch} {G : GG} {EX : State → Prop} (hE : EXB G EX) {r : Int32 × AH} : ∀ (n : Nat) (l0 : Nat) (l1 : Int32) (l2 : Int32) (l3 : Int32) (l4 : Int32) (l5 : Int32) (h : AH) (t0 : KD l0 = 7), fX8_guard_38 n l0 l1 l2 l3 l4 l5 h = some r → U l G EX mi_X8_guard 4 100 (some (.int r.1)) r.2 38 [(0, .ref (G.1 + l0)), (1, .int l1), (2, .int l2), (3, .int l3), (4, .int l4), (5, .int l5)] [] h := by
  intro n
  induction n with
  | zero =>
    intro l0 l1 l2 l3 l4 l5 h t0 hx
    have hx : none = some r := hx
    cases hx
  | succ n ih =>
    intro l0 l1 l2 l3 l4 l5 h t0 hx
    rw [fX8_guard_38] at hx
    refine V.iload (j := 5) dX8_guard_38 rfl rfl ?_
    refine V.bipush dX8_guard_40 rfl kb_30 ?_
    refine V.icmp_ge (tgt := 74) hx dX8_guard_42 (by decide) rfl (fun hx => ?_) (fun hx => ?_)
    · refine V.pick [2, 3, 4] rfl ?_
      exact vX8_guard_74 hE l2 l3 l4 h hx
    · refine V.aload_n (j := 0) dX8_guard_45 rfl rfl rfl ?_
      refine V.iload_n (j := 1) dX8_guard_46 rfl rfl rfl ?_
      refine V.iload (j := 5) dX8_guard_47 rfl rfl ?_
      obtain ⟨v9, q8, hx⟩ := ob_some hx
      refine U.callV (As := [.int l1, .int l5]) (rest := []) (st' := [.int v9]) hE.1 (mX8_cellsSeenFrom hE t0 q8) mic_X8_cellsSeenFrom rfl t0 (by decide) rfl rfl wq_m_X8_229 wq_i_yX8_cellsSeenFrom wq_s_yX8_cellsSeenFrom ⟨Nat.le_of_ble_eq_true rfl, Nat.le_of_ble_eq_true rfl⟩ (Nat.le_of_ble_eq_true rfl) dX8_guard_49 rfl rfl rfl ?_
      refine V.istore [(6, .int v9), (0, .ref (G.1 + l0)), (1, .int l1), (2, .int l2), (3, .int l3), (4, .int l4), (5, .int l5)] dX8_guard_52 rfl (Nat.le_of_ble_eq_true rfl) rfl ?_
      refine V.iload (j := 0) dX8_guard_54 rfl rfl ?_
      refine V.iload (j := 5) dX8_guard_56 rfl rfl ?_
      refine V.icmp_le (tgt := 68) hx dX8_guard_58 (by decide) rfl (fun hx => ?_) (fun hx => ?_)
      · refine U.iinc hx (fun v10 => [(5, .int v10), (6, .int v9), (0, .ref (G.1 + l0)), (1, .int l1), (2, .int l2), (3, .int l3), (4, .int l4)]) (j := 6) rfl (by decide) (Nat.le_of_ble_eq_true rfl) (fun _ => rfl) dX8_guard_68 rfl (fun v10 hx => ?_)
        refine V.goto (q := 38) dX8_guard_71 (by decide) ?_
        refine V.pick [2, 3, 4, 5, 6, 0] rfl ?_
        exact ih l0 l1 l2 l3 l4 v10 h t0 hx
      · refine V.iload (j := 0) dX8_guard_61 rfl rfl ?_
        refine V.istore [(4, .int v9), (6, .int v9), (0, .ref (G.1 + l0)), (1, .int l1), (2, .int l2), (3, .int l3), (5, .int l5)] dX8_guard_63 rfl (Nat.le_of_ble_eq_true rfl) rfl ?_
        refine V.iload (j := 6) dX8_guard_65 rfl rfl ?_
        refine V.istore_n [(3, .int l5), (4, .int v9), (6, .int v9), (0, .ref (G.1 + l0)), (1, .int l1), (2, .int l2), (5, .int l5)] dX8_guard_67 rfl rfl (Nat.le_of_ble_eq_true rfl) rfl ?_
        refine U.iinc hx (fun v11 => [(5, .int v11), (3, .int l5), (4, .int v9), (6, .int v9), (0, .ref (G.1 + l0)), (1, .int l1), (2, .int l2)]) (j := 6) rfl (by decide) (Nat.le_of_ble_eq_true rfl) (fun _ => rfl) dX8_guard_68 rfl (fun v11 hx => ?_)
        refine V.goto (q := 38) dX8_guard_71 (by decide) ?_
        refine V.pick [4, 5, 6, 1, 2, 0] rfl ?_
        exact ih l0 l1 l2 l5 v9 v11 h t0 hx
set_option maxRecDepth 100000 in
set_option maxHeartbeats 4000000 in
theorem mX8_guard {l : Launch} {G : GG} {EX : State → Prop} (hE : EXB G EX) {th : Nat} {a1 : Int32} {a2 : Int32} {h : AH} (t0 : KD th = 7) {r : Int32 × AH} (hx : fX8_guard th a1 a2 h = some r) : MetU l G EX mi_X8_guard 4 100 [.ref (G.1 + th), .int a1, .int a2] h (some (.int r.1)) r.2 := by
  refine MetU.of mic_X8_guard.1 (Nat.le_of_ble_eq_true rfl) ?_
  refine show U l G EX mi_X8_guard 4 100 (some (.int r.1)) r.2 0 [(0, .ref (G.1 + th)), (1, .int a1), (2, .int a2)] [] h from ?_
  unfold fX8_guard at hx
  refine V.aload_n (j := 0) dX8_guard_0 rfl rfl rfl ?_
  refine U.getP fl_X8_10 t0 dX8_guard_1 rfl ?_
  refine U.getP fl_X8_60 (ty_X8_0 t0) dX8_guard_4 rfl ?_
  refine V.iload_n (j := 1) dX8_guard_7 rfl rfl rfl ?_
  obtain ⟨v2, q1, hx⟩ := ob_some hx
  refine U.callV (As := [.int a1]) (rest := []) (st' := [.int v2]) hE.1 (mX2_hasWatcher hE (ty_X0_0 (ty_X8_0 t0)) q1) mic_X2_hasWatcher rfl (ty_X0_0 (ty_X8_0 t0)) (by decide) rfl rfl wq_m_X8_145 wq_i_yX2_hasWatcher wq_s_yX2_hasWatcher ⟨Nat.le_of_ble_eq_true rfl, Nat.le_of_ble_eq_true rfl⟩ (Nat.le_of_ble_eq_true rfl) dX8_guard_8 rfl rfl rfl ?_
  refine V.if_eq (tgt := 23) hx dX8_guard_11 (by decide) rfl (fun hx => ?_) (fun hx => ?_)
  · refine V.pick [0] rfl ?_
    exact vX8_guard_23 hE th h t0 hx
  · refine V.iload_n (j := 2) dX8_guard_14 rfl rfl rfl ?_
    refine V.iconst dX8_guard_15 rfl ki_0 ?_
    refine V.iconst dX8_guard_16 rfl ki_1 ?_
    obtain ⟨v7, q6, hx⟩ := ob_some hx
    refine U.callS (As := [.int a2, .int (0 : Int32), .int (1 : Int32)]) (rest := []) (st' := [.int v7]) hE.1 (mX8_within hE q6) mic_X8_within rfl wq_m_X8_104 wq_t_yX8_within ⟨Nat.le_of_ble_eq_true rfl, Nat.le_of_ble_eq_true rfl⟩ (Nat.le_of_ble_eq_true rfl) dX8_guard_17 rfl rfl rfl ?_
    refine V.if_ne (tgt := 30) hx dX8_guard_20 (by decide) rfl (fun hx => ?_) (fun hx => ?_)
    · refine V.iconst dX8_guard_30 rfl ki_m1 ?_
      refine V.istore_n [(3, .int (-1 : Int32)), (0, .ref (G.1 + th)), (1, .int a1), (2, .int a2)] dX8_guard_31 rfl rfl (Nat.le_of_ble_eq_true rfl) rfl ?_
      refine V.iconst dX8_guard_32 rfl ki_m1 ?_
      refine V.istore [(4, .int (-1 : Int32)), (3, .int (-1 : Int32)), (0, .ref (G.1 + th)), (1, .int a1), (2, .int a2)] dX8_guard_33 rfl (Nat.le_of_ble_eq_true rfl) rfl ?_
      refine V.iconst dX8_guard_35 rfl ki_0 ?_
      refine V.istore [(5, .int (0 : Int32)), (4, .int (-1 : Int32)), (3, .int (-1 : Int32)), (0, .ref (G.1 + th)), (1, .int a1), (2, .int a2)] dX8_guard_36 rfl (Nat.le_of_ble_eq_true rfl) rfl ?_
      refine V.pick [3, 4, 5, 2, 1, 0] rfl ?_
      exact vX8_guard_38 hE FU th a1 a2 (-1 : Int32) (-1 : Int32) (0 : Int32) h t0 hx
    · refine V.pick [0] rfl ?_
      exact vX8_guard_23 hE th h t0 hx
set_option maxRecDepth 100000 in
set_option maxHeartbeats 4000000 in
theorem vX6_add_77 {l : Launch} {G : GG} {EX : State → Prop} (hE : EXB G EX) {r : Int32 × AH} : ∀ (l0 : Nat) (h : AH) (t0 : KD l0 = 5), fX6_add_77 l0 h = some r → U l G EX mi_X6_add 0 0 (some (.int r.1)) r.2 77 [(0, .ref (G.1 + l0))] [] h := by
  intro l0 h t0 hx
  unfold fX6_add_77 at hx
  refine V.aload_n (j := 0) dX6_add_77 rfl rfl rfl ?_
  refine U.getI fl_X6_15 t0 dX6_add_78 rfl ?_
  obtain rfl := Option.some.inj hx
  exact U.retI rfl rfl rfl rfl dX6_add_81
set_option maxRecDepth 100000 in
set_option maxHeartbeats 4000000 in
theorem mX6_add {l : Launch} {G : GG} {EX : State → Prop} (hE : EXB G EX) {th : Nat} {a1 : Int32} {a2 : Int32} {a3 : Int32} {a4 : Int32} {a5 : Int32} {h : AH} (t0 : KD th = 5) {r : Int32 × AH} (hx : fX6_add th a1 a2 a3 a4 a5 h = some r) : MetU l G EX mi_X6_add 0 0 [.ref (G.1 + th), .int a1, .int a2, .int a3, .int a4, .int a5] h (some (.int r.1)) r.2 := by
  refine MetU.of mic_X6_add.1 (Nat.le_of_ble_eq_true rfl) ?_
  refine show U l G EX mi_X6_add 0 0 (some (.int r.1)) r.2 0 [(0, .ref (G.1 + th)), (1, .int a1), (2, .int a2), (3, .int a3), (4, .int a4), (5, .int a5)] [] h from ?_
  unfold fX6_add at hx
  refine V.aload_n (j := 0) dX6_add_0 rfl rfl rfl ?_
  refine U.getI fl_X6_15 t0 dX6_add_1 rfl ?_
  refine V.bipush dX6_add_4 rfl kb_6 ?_
  refine V.icmp_ge (tgt := 77) hx dX6_add_6 (by decide) rfl (fun hx => ?_) (fun hx => ?_)
  · refine V.pick [0] rfl ?_
    exact vX6_add_77 hE th h t0 hx
  · refine V.aload_n (j := 0) dX6_add_9 rfl rfl rfl ?_
    refine U.getI fl_X6_15 t0 dX6_add_10 rfl ?_
    refine V.iconst dX6_add_13 rfl ki_5 ?_
    refine V.imul dX6_add_14 rfl ?_
    refine U.letI hx (fun v1 hx => ?_)
    refine V.istore [(6, .int v1), (0, .ref (G.1 + th)), (1, .int a1), (2, .int a2), (3, .int a3), (4, .int a4), (5, .int a5)] dX6_add_15 rfl (Nat.le_of_ble_eq_true rfl) rfl ?_
    refine V.aload_n (j := 1) dX6_add_17 rfl rfl rfl ?_
    refine U.getP fl_X6_9 t0 dX6_add_18 rfl ?_
    refine V.iload (j := 0) dX6_add_21 rfl rfl ?_
    refine V.iload_n (j := 2) dX6_add_23 rfl rfl rfl ?_
    refine U.iast hx (ty_X6_0 t0) dX6_add_24 rfl (fun h2 hx => ?_)
    refine V.aload_n (j := 1) dX6_add_25 rfl rfl rfl ?_
    refine U.getP fl_X6_9 t0 dX6_add_26 rfl ?_
    refine V.iload (j := 0) dX6_add_29 rfl rfl ?_
    refine V.iconst dX6_add_31 rfl ki_1 ?_
    refine V.iadd dX6_add_32 rfl ?_
    refine V.iload_n (j := 3) dX6_add_33 rfl rfl rfl ?_
    refine U.iast hx (ty_X6_0 t0) dX6_add_34 rfl (fun h3 hx => ?_)
    refine V.aload_n (j := 1) dX6_add_35 rfl rfl rfl ?_
    refine U.getP fl_X6_9 t0 dX6_add_36 rfl ?_
    refine V.iload (j := 0) dX6_add_39 rfl rfl ?_
    refine V.iconst dX6_add_41 rfl ki_2 ?_
    refine V.iadd dX6_add_42 rfl ?_
    refine V.iload_n (j := 4) dX6_add_43 rfl rfl rfl ?_
    refine U.iast hx (ty_X6_0 t0) dX6_add_44 rfl (fun h4 hx => ?_)
    refine V.aload_n (j := 1) dX6_add_45 rfl rfl rfl ?_
    refine U.getP fl_X6_9 t0 dX6_add_46 rfl ?_
    refine V.iload (j := 0) dX6_add_49 rfl rfl ?_
    refine V.iconst dX6_add_51 rfl ki_3 ?_
    refine V.iadd dX6_add_52 rfl ?_
    refine V.iload (j := 5) dX6_add_53 rfl rfl ?_
    refine U.iast hx (ty_X6_0 t0) dX6_add_55 rfl (fun h5 hx => ?_)
    refine V.aload_n (j := 1) dX6_add_56 rfl rfl rfl ?_
    refine U.getP fl_X6_9 t0 dX6_add_57 rfl ?_
    refine V.iload (j := 0) dX6_add_60 rfl rfl ?_
    refine V.iconst dX6_add_62 rfl ki_4 ?_
    refine V.iadd dX6_add_63 rfl ?_
    refine V.iload (j := 6) dX6_add_64 rfl rfl ?_
    refine U.iast hx (ty_X6_0 t0) dX6_add_66 rfl (fun h6 hx => ?_)
    refine V.aload_n (j := 1) dX6_add_67 rfl rfl rfl ?_
    refine V.dup dX6_add_68 rfl rfl ?_
    refine U.getI fl_X6_15 t0 dX6_add_69 rfl ?_
    refine V.iconst dX6_add_72 rfl ki_1 ?_
    refine V.iadd dX6_add_73 rfl ?_
    refine U.putI hx fl_X6_15 t0 rfl rfl dX6_add_74 rfl (fun h7 hx => ?_)
    refine V.pick [1] rfl ?_
    exact vX6_add_77 hE th h7 t0 hx
set_option maxRecDepth 100000 in
set_option maxHeartbeats 4000000 in
theorem vX8_saw_29 {l : Launch} {G : GG} {EX : State → Prop} (hE : EXB G EX) {r : Int32 × AH} : ∀ (l0 : Nat) (h : AH) (t0 : KD l0 = 7), fX8_saw_29 l0 h = some r → U l G EX mi_X8_saw 2 42 (some (.int r.1)) r.2 29 [(0, .ref (G.1 + l0))] [] h := by
  intro l0 h t0 hx
  unfold fX8_saw_29 at hx
  refine V.aload_n (j := 0) dX8_saw_29 rfl rfl rfl ?_
  refine V.bipush dX8_saw_30 rfl kb_m2 ?_
  obtain ⟨v5, h4, q3, hx⟩ := ob2_some hx
  refine U.callV (As := [.int (-2 : Int32)]) (rest := []) (st' := [.int v5]) hE.1 (mX8_refuse hE t0 q3) mic_X8_refuse rfl t0 (by decide) rfl rfl wq_m_X8_80 wq_i_yX8_refuse wq_s_yX8_refuse ⟨Nat.le_of_ble_eq_true rfl, Nat.le_of_ble_eq_true rfl⟩ (Nat.le_of_ble_eq_true rfl) dX8_saw_32 rfl rfl rfl ?_
  obtain rfl := Option.some.inj hx
  exact U.retI rfl rfl rfl rfl dX8_saw_35
set_option maxRecDepth 100000 in
set_option maxHeartbeats 4000000 in
theorem mX8_saw {l : Launch} {G : GG} {EX : State → Prop} (hE : EXB G EX) {th : Nat} {a1 : Int32} {a2 : Int32} {h : AH} (t0 : KD th = 7) {r : Int32 × AH} (hx : fX8_saw th a1 a2 h = some r) : MetU l G EX mi_X8_saw 2 42 [.ref (G.1 + th), .int a1, .int a2] h (some (.int r.1)) r.2 := by
  refine MetU.of mic_X8_saw.1 (Nat.le_of_ble_eq_true rfl) ?_
  refine show U l G EX mi_X8_saw 2 42 (some (.int r.1)) r.2 0 [(0, .ref (G.1 + th)), (1, .int a1), (2, .int a2)] [] h from ?_
  unfold fX8_saw at hx
  refine V.iload_n (j := 1) dX8_saw_0 rfl rfl rfl ?_
  obtain ⟨v2, q1, hx⟩ := ob_some hx
  refine U.callS (As := [.int a1]) (rest := []) (st' := [.int v2]) hE.1 (mX8_isDayStep hE q1) mic_X8_isDayStep rfl wq_m_X8_188 wq_t_yX8_isDayStep ⟨Nat.le_of_ble_eq_true rfl, Nat.le_of_ble_eq_true rfl⟩ (Nat.le_of_ble_eq_true rfl) dX8_saw_1 rfl rfl rfl ?_
  refine V.if_eq (tgt := 29) hx dX8_saw_4 (by decide) rfl (fun hx => ?_) (fun hx => ?_)
  · refine V.pick [0] rfl ?_
    exact vX8_saw_29 hE th h t0 hx
  · refine V.iload_n (j := 2) dX8_saw_7 rfl rfl rfl ?_
    refine V.iconst dX8_saw_8 rfl ki_0 ?_
    refine V.iconst dX8_saw_9 rfl ki_1 ?_
    refine V.aload_n (j := 0) dX8_saw_10 rfl rfl rfl ?_
    refine U.getP fl_X8_10 t0 dX8_saw_11 rfl ?_
    refine U.getP fl_X8_60 (ty_X8_0 t0) dX8_saw_14 rfl ?_
    refine U.getI fl_X8_63 (ty_X0_0 (ty_X8_0 t0)) dX8_saw_17 rfl ?_
    refine V.ishl dX8_saw_20 rfl ?_
    refine V.iconst dX8_saw_21 rfl ki_1 ?_
    refine V.isub dX8_saw_22 rfl ?_
    obtain ⟨v7, q6, hx⟩ := ob_some hx
    refine U.callS (As := [.int a2, .int (0 : Int32), .int ((jshl (1 : Int32) (hI h (PC (PC th 0) 0) 3)) - (1 : Int32))]) (rest := []) (st' := [.int v7]) hE.1 (mX8_within hE q6) mic_X8_within rfl wq_m_X8_104 wq_t_yX8_within ⟨Nat.le_of_ble_eq_true rfl, Nat.le_of_ble_eq_true rfl⟩ (Nat.le_of_ble_eq_true rfl) dX8_saw_23 rfl rfl rfl ?_
    refine V.if_ne (tgt := 36) hx dX8_saw_26 (by decide) rfl (fun hx => ?_) (fun hx => ?_)
    · refine V.aload_n (j := 0) dX8_saw_36 rfl rfl rfl ?_
      refine U.getP fl_X8_10 t0 dX8_saw_37 rfl ?_
      refine U.getP fl_X8_232 (ty_X8_0 t0) dX8_saw_40 rfl ?_
      refine U.getI fl_X8_236 (ty_X0_2 (ty_X8_0 t0)) dX8_saw_43 rfl ?_
      refine V.bipush dX8_saw_46 rfl kb_6 ?_
      refine V.icmp_lt (tgt := 58) hx dX8_saw_48 (by decide) rfl (fun hx => ?_) (fun hx => ?_)
      · refine V.aload_n (j := 0) dX8_saw_58 rfl rfl rfl ?_
        refine U.getP fl_X8_10 t0 dX8_saw_59 rfl ?_
        refine U.getP fl_X8_232 (ty_X8_0 t0) dX8_saw_62 rfl ?_
        refine V.iload_n (j := 1) dX8_saw_65 rfl rfl rfl ?_
        refine V.iload_n (j := 2) dX8_saw_66 rfl rfl rfl ?_
        refine V.iconst dX8_saw_67 rfl ki_0 ?_
        refine V.iconst dX8_saw_68 rfl ki_0 ?_
        refine V.iconst dX8_saw_69 rfl ki_0 ?_
        obtain ⟨v10, h9, q8, hx⟩ := ob2_some hx
        refine U.callV (As := [.int a1, .int a2, .int (0 : Int32), .int (0 : Int32), .int (0 : Int32)]) (rest := []) (st' := [.int v10]) hE.1 (mX6_add hE (ty_X0_2 (ty_X8_0 t0)) q8) mic_X6_add rfl (ty_X0_2 (ty_X8_0 t0)) (by decide) rfl rfl wq_m_X8_239 wq_i_yX6_add wq_s_yX6_add ⟨Nat.le_of_ble_eq_true rfl, Nat.le_of_ble_eq_true rfl⟩ (Nat.le_of_ble_eq_true rfl) dX8_saw_70 rfl rfl rfl ?_
        obtain rfl := Option.some.inj hx
        exact U.retI rfl rfl rfl rfl dX8_saw_73
      · refine V.aload_n (j := 0) dX8_saw_51 rfl rfl rfl ?_
        refine V.bipush dX8_saw_52 rfl kb_m4 ?_
        obtain ⟨v13, h12, q11, hx⟩ := ob2_some hx
        refine U.callV (As := [.int (-4 : Int32)]) (rest := []) (st' := [.int v13]) hE.1 (mX8_refuse hE t0 q11) mic_X8_refuse rfl t0 (by decide) rfl rfl wq_m_X8_80 wq_i_yX8_refuse wq_s_yX8_refuse ⟨Nat.le_of_ble_eq_true rfl, Nat.le_of_ble_eq_true rfl⟩ (Nat.le_of_ble_eq_true rfl) dX8_saw_54 rfl rfl rfl ?_
        obtain rfl := Option.some.inj hx
        exact U.retI rfl rfl rfl rfl dX8_saw_57
    · refine V.pick [0] rfl ?_
      exact vX8_saw_29 hE th h t0 hx
set_option maxRecDepth 100000 in
set_option maxHeartbeats 4000000 in
theorem mX6_told {l : Launch} {G : GG} {EX : State → Prop} (hE : EXB G EX) {th : Nat} {a1 : Int32} {a2 : Int32} {h : AH} (t0 : KD th = 5) {r : Int32} (hx : fX6_told th a1 a2 h = some r) : MetU l G EX mi_X6_told 0 0 [.ref (G.1 + th), .int a1, .int a2] h (some (.int r)) h := by
  refine MetU.of mic_X6_told.1 (Nat.le_of_ble_eq_true rfl) ?_
  refine show U l G EX mi_X6_told 0 0 (some (.int r)) h 0 [(0, .ref (G.1 + th)), (1, .int a1), (2, .int a2)] [] h from ?_
  unfold fX6_told at hx
  refine V.iload_n (j := 1) dX6_told_0 rfl rfl rfl ?_
  refine V.iconst dX6_told_1 rfl ki_5 ?_
  refine V.imul dX6_told_2 rfl ?_
  refine V.iload_n (j := 2) dX6_told_3 rfl rfl rfl ?_
  refine V.iadd dX6_told_4 rfl ?_
  refine U.letI hx (fun v1 hx => ?_)
  refine V.istore_n [(3, .int v1), (0, .ref (G.1 + th)), (1, .int a1), (2, .int a2)] dX6_told_5 rfl rfl (Nat.le_of_ble_eq_true rfl) rfl ?_
  refine V.iload_n (j := 0) dX6_told_6 rfl rfl rfl ?_
  refine V.if_lt (tgt := 28) hx dX6_told_7 (by decide) rfl (fun hx => ?_) (fun hx => ?_)
  · refine V.iconst dX6_told_28 rfl ki_0 ?_
    obtain rfl := Option.some.inj hx
    exact U.retI rfl rfl rfl rfl dX6_told_29
  · refine V.iload_n (j := 0) dX6_told_10 rfl rfl rfl ?_
    refine V.aload_n (j := 1) dX6_told_11 rfl rfl rfl ?_
    refine U.getP fl_X6_9 t0 dX6_told_12 rfl ?_
    refine U.alen (ty_X6_0 t0) (by decide) dX6_told_15 rfl ?_
    refine V.icmp_ge (tgt := 28) hx dX6_told_16 (by decide) rfl (fun hx => ?_) (fun hx => ?_)
    · refine V.iconst dX6_told_28 rfl ki_0 ?_
      obtain rfl := Option.some.inj hx
      exact U.retI rfl rfl rfl rfl dX6_told_29
    · refine V.aload_n (j := 1) dX6_told_19 rfl rfl rfl ?_
      refine U.getP fl_X6_9 t0 dX6_told_20 rfl ?_
      refine V.iload_n (j := 0) dX6_told_23 rfl rfl rfl ?_
      refine U.iald hx (ty_X6_0 t0) dX6_told_24 rfl (fun hx => ?_)
      refine V.goto (q := 29) dX6_told_25 (by decide) ?_
      obtain rfl := Option.some.inj hx
      exact U.retI rfl rfl rfl rfl dX6_told_29
set_option maxRecDepth 100000 in
set_option maxHeartbeats 4000000 in
theorem vX8_where_57 {l : Launch} {G : GG} {EX : State → Prop} (hE : EXB G EX) {r : Int32 × AH} {k107 : Nat → Int32 → Int32 → AH → Option (Int32 × AH)} (hk107 : ∀ (l0 : Nat) (l1 : Int32) (l2 : Int32) (h : AH) (t0 : KD l0 = 7), k107 l0 l1 l2 h = some r → U l G EX mi_X8_where 4 98 (some (.int r.1)) r.2 107 [(0, .ref (G.1 + l0)), (1, .int l1), (2, .int l2)] [] h) : ∀ (n : Nat) (l0 : Nat) (l1 : Int32) (l2 : Int32) (l3 : Int32) (h : AH) (t0 : KD l0 = 7), fX8_where_57 k107 n l0 l1 l2 l3 h = some r → U l G EX mi_X8_where 4 98 (some (.int r.1)) r.2 57 [(0, .ref (G.1 + l0)), (1, .int l1), (2, .int l2), (3, .int l3)] [] h := by
  intro n
  induction n with
  | zero =>
    intro l0 l1 l2 l3 h t0 hx
    have hx : none = some r := hx
    cases hx
  | succ n ih =>
    intro l0 l1 l2 l3 h t0 hx
    rw [fX8_where_57] at hx
    refine V.iload_n (j := 3) dX8_where_57 rfl rfl rfl ?_
    refine V.bipush dX8_where_58 rfl kb_30 ?_
    refine V.icmp_ge (tgt := 107) hx dX8_where_60 (by decide) rfl (fun hx => ?_) (fun hx => ?_)
    · refine V.pick [0, 1, 2] rfl ?_
      exact hk107 l0 l1 l2 h t0 hx
    · refine V.aload_n (j := 0) dX8_where_63 rfl rfl rfl ?_
      refine U.getP fl_X8_34 t0 dX8_where_64 rfl ?_
      refine V.aload_n (j := 0) dX8_where_67 rfl rfl rfl ?_
      refine U.getP fl_X8_10 t0 dX8_where_68 rfl ?_
      refine U.getP fl_X8_60 (ty_X8_0 t0) dX8_where_71 rfl ?_
      refine V.iload_n (j := 3) dX8_where_74 rfl rfl rfl ?_
      obtain ⟨v8, q7, hx⟩ := ob_some hx
      refine U.callV (As := [.ref (G.1 + (PC (PC l0 0) 0)), .int l3]) (rest := []) (st' := [.int v8]) hE.1 (mX7_witnesses hE (ty_X8_4 t0) (ty_X0_0 (ty_X8_0 t0)) q7) mic_X7_witnesses rfl (ty_X8_4 t0) (by decide) rfl rfl wq_m_X8_195 wq_i_yX7_witnesses wq_s_yX7_witnesses ⟨Nat.le_of_ble_eq_true rfl, Nat.le_of_ble_eq_true rfl⟩ (Nat.le_of_ble_eq_true rfl) dX8_where_75 rfl rfl rfl ?_
      refine V.aload_n (j := 0) dX8_where_78 rfl rfl rfl ?_
      refine U.getP fl_X8_10 t0 dX8_where_79 rfl ?_
      refine U.getP fl_X8_232 (ty_X8_0 t0) dX8_where_82 rfl ?_
      refine V.iload_n (j := 2) dX8_where_85 rfl rfl rfl ?_
      refine V.iconst dX8_where_86 rfl ki_1 ?_
      obtain ⟨v10, q9, hx⟩ := ob_some hx
      refine U.callV (As := [.int l2, .int (1 : Int32)]) (rest := [.int v8]) (st' := [.int v10, .int v8]) hE.1 (mX6_told hE (ty_X0_2 (ty_X8_0 t0)) q9) mic_X6_told rfl (ty_X0_2 (ty_X8_0 t0)) (by decide) rfl rfl wq_m_X8_244 wq_i_yX6_told wq_s_yX6_told ⟨Nat.le_of_ble_eq_true rfl, Nat.le_of_ble_eq_true rfl⟩ (Nat.le_of_ble_eq_true rfl) dX8_where_87 rfl rfl rfl ?_
      refine V.icmp_eq (tgt := 101) hx dX8_where_90 (by decide) rfl (fun hx => ?_) (fun hx => ?_)
      · refine U.iinc hx (fun v11 => [(3, .int v11), (0, .ref (G.1 + l0)), (1, .int l1), (2, .int l2)]) (j := 3) rfl (by decide) (Nat.le_of_ble_eq_true rfl) (fun _ => rfl) dX8_where_101 rfl (fun v11 hx => ?_)
        refine V.goto (q := 57) dX8_where_104 (by decide) ?_
        refine V.pick [1, 2, 3, 0] rfl ?_
        exact ih l0 l1 l2 v11 h t0 hx
      · refine V.iload_n (j := 1) dX8_where_93 rfl rfl rfl ?_
        refine V.iconst dX8_where_94 rfl ki_1 ?_
        refine V.iload_n (j := 3) dX8_where_95 rfl rfl rfl ?_
        refine V.ishl dX8_where_96 rfl ?_
        refine V.iconst dX8_where_97 rfl ki_m1 ?_
        refine V.ixor dX8_where_98 rfl ?_
        refine V.iand dX8_where_99 rfl ?_
        refine U.letI hx (fun v12 hx => ?_)
        refine V.istore_n [(1, .int v12), (0, .ref (G.1 + l0)), (2, .int l2), (3, .int l3)] dX8_where_100 rfl rfl (Nat.le_of_ble_eq_true rfl) rfl ?_
        refine U.iinc hx (fun v13 => [(3, .int v13), (1, .int v12), (0, .ref (G.1 + l0)), (2, .int l2)]) (j := 3) rfl (by decide) (Nat.le_of_ble_eq_true rfl) (fun _ => rfl) dX8_where_101 rfl (fun v13 hx => ?_)
        refine V.goto (q := 57) dX8_where_104 (by decide) ?_
        refine V.pick [2, 1, 3, 0] rfl ?_
        exact ih l0 v12 l2 v13 h t0 hx
set_option maxRecDepth 100000 in
set_option maxHeartbeats 4000000 in
theorem vX8_where_5 {l : Launch} {G : GG} {EX : State → Prop} (hE : EXB G EX) {r : Int32 × AH} : ∀ (n : Nat) (l0 : Nat) (l1 : Int32) (l2 : Int32) (h : AH) (t0 : KD l0 = 7), fX8_where_5 n l0 l1 l2 h = some r → U l G EX mi_X8_where 4 98 (some (.int r.1)) r.2 5 [(0, .ref (G.1 + l0)), (1, .int l1), (2, .int l2)] [] h := by
  intro n
  induction n with
  | zero =>
    intro l0 l1 l2 h t0 hx
    have hx : none = some r := hx
    cases hx
  | succ n ih =>
    intro l0 l1 l2 h t0 hx
    rw [fX8_where_5] at hx
    refine V.iload_n (j := 2) dX8_where_5 rfl rfl rfl ?_
    refine V.aload_n (j := 0) dX8_where_6 rfl rfl rfl ?_
    refine U.getP fl_X8_10 t0 dX8_where_7 rfl ?_
    refine U.getP fl_X8_232 (ty_X8_0 t0) dX8_where_10 rfl ?_
    refine U.getI fl_X8_236 (ty_X0_2 (ty_X8_0 t0)) dX8_where_13 rfl ?_
    refine V.icmp_ge (tgt := 113) hx dX8_where_16 (by decide) rfl (fun hx => ?_) (fun hx => ?_)
    · refine V.iload_n (j := 1) dX8_where_113 rfl rfl rfl ?_
      obtain rfl := Option.some.inj hx
      exact U.retI rfl rfl rfl rfl dX8_where_114
    · refine V.aload_n (j := 0) dX8_where_19 rfl rfl rfl ?_
      refine U.getP fl_X8_34 t0 dX8_where_20 rfl ?_
      refine V.aload_n (j := 0) dX8_where_23 rfl rfl rfl ?_
      refine U.getP fl_X8_10 t0 dX8_where_24 rfl ?_
      refine U.getP fl_X8_60 (ty_X8_0 t0) dX8_where_27 rfl ?_
      refine V.aload_n (j := 0) dX8_where_30 rfl rfl rfl ?_
      refine U.getP fl_X8_10 t0 dX8_where_31 rfl ?_
      refine U.getP fl_X8_60 (ty_X8_0 t0) dX8_where_34 rfl ?_
      obtain ⟨v2, q1, hx⟩ := ob_some hx
      refine U.callV (As := []) (rest := [.ref (G.1 + (PC (PC l0 0) 0)), .ref (G.1 + (PC l0 4))]) (st' := [.int v2, .ref (G.1 + (PC (PC l0 0) 0)), .ref (G.1 + (PC l0 4))]) hE.1 (mX2_onBits hE (ty_X0_0 (ty_X8_0 t0)) q1) mic_X2_onBits rfl (ty_X0_0 (ty_X8_0 t0)) (by decide) rfl rfl wq_m_X8_166 wq_i_yX2_onBits wq_s_yX2_onBits ⟨Nat.le_of_ble_eq_true rfl, Nat.le_of_ble_eq_true rfl⟩ (Nat.le_of_ble_eq_true rfl) dX8_where_37 rfl rfl rfl ?_
      refine V.aload_n (j := 0) dX8_where_40 rfl rfl rfl ?_
      refine U.getP fl_X8_10 t0 dX8_where_41 rfl ?_
      refine U.getP fl_X8_232 (ty_X8_0 t0) dX8_where_44 rfl ?_
      refine V.iload_n (j := 2) dX8_where_47 rfl rfl rfl ?_
      refine V.iconst dX8_where_48 rfl ki_0 ?_
      obtain ⟨v4, q3, hx⟩ := ob_some hx
      refine U.callV (As := [.int l2, .int (0 : Int32)]) (rest := [.int v2, .ref (G.1 + (PC (PC l0 0) 0)), .ref (G.1 + (PC l0 4))]) (st' := [.int v4, .int v2, .ref (G.1 + (PC (PC l0 0) 0)), .ref (G.1 + (PC l0 4))]) hE.1 (mX6_told hE (ty_X0_2 (ty_X8_0 t0)) q3) mic_X6_told rfl (ty_X0_2 (ty_X8_0 t0)) (by decide) rfl rfl wq_m_X8_244 wq_i_yX6_told wq_s_yX6_told ⟨Nat.le_of_ble_eq_true rfl, Nat.le_of_ble_eq_true rfl⟩ (Nat.le_of_ble_eq_true rfl) dX8_where_49 rfl rfl rfl ?_
      obtain ⟨h6, q5, hx⟩ := ob_some hx
      refine U.callV (As := [.ref (G.1 + (PC (PC l0 0) 0)), .int v2, .int v4]) (rest := []) (st' := []) hE.1 (mX7_gauge hE (ty_X8_4 t0) (ty_X0_0 (ty_X8_0 t0)) q5) mic_X7_gauge rfl (ty_X8_4 t0) (by decide) rfl rfl wq_m_X8_191 wq_i_yX7_gauge wq_s_yX7_gauge ⟨Nat.le_of_ble_eq_true rfl, Nat.le_of_ble_eq_true rfl⟩ (Nat.le_of_ble_eq_true rfl) dX8_where_52 rfl rfl rfl ?_
      refine V.iconst dX8_where_55 rfl ki_0 ?_
      refine V.istore_n [(3, .int (0 : Int32)), (0, .ref (G.1 + l0)), (1, .int l1), (2, .int l2)] dX8_where_56 rfl rfl (Nat.le_of_ble_eq_true rfl) rfl ?_
      refine V.pick [1, 2, 3, 0] rfl ?_
      refine vX8_where_57 hE (fun w14 w15 w16 h17 t18 hx => ?_) FU l0 l1 l2 (0 : Int32) h6 t0 hx
      · refine U.iinc hx (fun v19 => [(2, .int v19), (0, .ref (G.1 + w14)), (1, .int w15)]) (j := 2) rfl (by decide) (Nat.le_of_ble_eq_true rfl) (fun _ => rfl) dX8_where_107 rfl (fun v19 hx => ?_)
        refine V.goto (q := 5) dX8_where_110 (by decide) ?_
        refine V.pick [1, 2, 0] rfl ?_
        exact ih w14 w15 v19 h17 t18 hx
set_option maxRecDepth 100000 in
set_option maxHeartbeats 4000000 in
theorem mX8_where {l : Launch} {G : GG} {EX : State → Prop} (hE : EXB G EX) {th : Nat} {h : AH} (t0 : KD th = 7) {r : Int32 × AH} (hx : fX8_where th h = some r) : MetU l G EX mi_X8_where 4 98 [.ref (G.1 + th)] h (some (.int r.1)) r.2 := by
  refine MetU.of mic_X8_where.1 (Nat.le_of_ble_eq_true rfl) ?_
  refine show U l G EX mi_X8_where 4 98 (some (.int r.1)) r.2 0 [(0, .ref (G.1 + th))] [] h from ?_
  unfold fX8_where at hx
  refine V.ldc dX8_where_0 rfl wq_k_X8_243 ?_
  refine V.istore_n [(1, .int (1073741823 : Int32)), (0, .ref (G.1 + th))] dX8_where_2 rfl rfl (Nat.le_of_ble_eq_true rfl) rfl ?_
  refine V.iconst dX8_where_3 rfl ki_0 ?_
  refine V.istore_n [(2, .int (0 : Int32)), (1, .int (1073741823 : Int32)), (0, .ref (G.1 + th))] dX8_where_4 rfl rfl (Nat.le_of_ble_eq_true rfl) rfl ?_
  refine V.pick [2, 1, 0] rfl ?_
  exact vX8_where_5 hE FU th (1073741823 : Int32) (0 : Int32) h t0 hx
set_option maxRecDepth 100000 in
set_option maxHeartbeats 4000000 in
theorem mX8_isFar {l : Launch} {G : GG} {EX : State → Prop} (hE : EXB G EX) {a0 : Int32} {h : AH} {r : Int32} (hx : fX8_isFar a0 = some r) : MetU l G EX mi_X8_isFar 1 22 [.int a0] h (some (.int r)) h := by
  refine MetU.of mic_X8_isFar.1 (Nat.le_of_ble_eq_true rfl) ?_
  refine show U l G EX mi_X8_isFar 1 22 (some (.int r)) h 0 [(0, .int a0)] [] h from ?_
  unfold fX8_isFar at hx
  refine V.iload_n (j := 0) dX8_isFar_0 rfl rfl rfl ?_
  refine V.iconst dX8_isFar_1 rfl ki_0 ?_
  refine V.bipush dX8_isFar_2 rfl kb_9 ?_
  obtain ⟨v2, q1, hx⟩ := ob_some hx
  refine U.callS (As := [.int a0, .int (0 : Int32), .int (9 : Int32)]) (rest := []) (st' := [.int v2]) hE.1 (mX8_within hE q1) mic_X8_within rfl wq_m_X8_104 wq_t_yX8_within ⟨Nat.le_of_ble_eq_true rfl, Nat.le_of_ble_eq_true rfl⟩ (Nat.le_of_ble_eq_true rfl) dX8_isFar_4 rfl rfl rfl ?_
  obtain ⟨g3, hx⟩ := oG_some hx
  obtain rfl := Option.some.inj hx
  exact U.retI rfl rfl rfl (isB_nar g3) dX8_isFar_7
set_option maxRecDepth 100000 in
set_option maxHeartbeats 4000000 in
theorem mX8_isPull {l : Launch} {G : GG} {EX : State → Prop} (hE : EXB G EX) {a0 : Int32} {h : AH} {r : Int32} (hx : fX8_isPull a0 = some r) : MetU l G EX mi_X8_isPull 1 22 [.int a0] h (some (.int r)) h := by
  refine MetU.of mic_X8_isPull.1 (Nat.le_of_ble_eq_true rfl) ?_
  refine show U l G EX mi_X8_isPull 1 22 (some (.int r)) h 0 [(0, .int a0)] [] h from ?_
  unfold fX8_isPull at hx
  refine V.iload_n (j := 0) dX8_isPull_0 rfl rfl rfl ?_
  refine V.iconst dX8_isPull_1 rfl ki_0 ?_
  refine V.bipush dX8_isPull_2 rfl kb_40 ?_
  obtain ⟨v2, q1, hx⟩ := ob_some hx
  refine U.callS (As := [.int a0, .int (0 : Int32), .int (40 : Int32)]) (rest := []) (st' := [.int v2]) hE.1 (mX8_within hE q1) mic_X8_within rfl wq_m_X8_104 wq_t_yX8_within ⟨Nat.le_of_ble_eq_true rfl, Nat.le_of_ble_eq_true rfl⟩ (Nat.le_of_ble_eq_true rfl) dX8_isPull_4 rfl rfl rfl ?_
  obtain ⟨g3, hx⟩ := oG_some hx
  obtain rfl := Option.some.inj hx
  exact U.retI rfl rfl rfl (isB_nar g3) dX8_isPull_7
set_option maxRecDepth 100000 in
set_option maxHeartbeats 4000000 in
theorem vX8_note_44 {l : Launch} {G : GG} {EX : State → Prop} (hE : EXB G EX) {r : Int32 × AH} : ∀ (l0 : Nat) (h : AH) (t0 : KD l0 = 7), fX8_note_44 l0 h = some r → U l G EX mi_X8_note 2 42 (some (.int r.1)) r.2 44 [(0, .ref (G.1 + l0))] [] h := by
  intro l0 h t0 hx
  unfold fX8_note_44 at hx
  refine V.aload_n (j := 0) dX8_note_44 rfl rfl rfl ?_
  refine V.bipush dX8_note_45 rfl kb_m2 ?_
  obtain ⟨v5, h4, q3, hx⟩ := ob2_some hx
  refine U.callV (As := [.int (-2 : Int32)]) (rest := []) (st' := [.int v5]) hE.1 (mX8_refuse hE t0 q3) mic_X8_refuse rfl t0 (by decide) rfl rfl wq_m_X8_80 wq_i_yX8_refuse wq_s_yX8_refuse ⟨Nat.le_of_ble_eq_true rfl, Nat.le_of_ble_eq_true rfl⟩ (Nat.le_of_ble_eq_true rfl) dX8_note_47 rfl rfl rfl ?_
  obtain rfl := Option.some.inj hx
  exact U.retI rfl rfl rfl rfl dX8_note_50
set_option maxRecDepth 100000 in
set_option maxHeartbeats 4000000 in
theorem mX8_note {l : Launch} {G : GG} {EX : State → Prop} (hE : EXB G EX) {th : Nat} {a1 : Int32} {a2 : Int32} {a3 : Int32} {a4 : Int32} {a5 : Int32} {h : AH} (t0 : KD th = 7) {r : Int32 × AH} (hx : fX8_note th a1 a2 a3 a4 a5 h = some r) : MetU l G EX mi_X8_note 2 42 [.ref (G.1 + th), .int a1, .int a2, .int a3, .int a4, .int a5] h (some (.int r.1)) r.2 := by
  refine MetU.of mic_X8_note.1 (Nat.le_of_ble_eq_true rfl) ?_
  refine show U l G EX mi_X8_note 2 42 (some (.int r.1)) r.2 0 [(0, .ref (G.1 + th)), (1, .int a1), (2, .int a2), (3, .int a3), (4, .int a4), (5, .int a5)] [] h from ?_
  unfold fX8_note at hx
  refine V.aload_n (j := 0) dX8_note_0 rfl rfl rfl ?_
  refine U.getP fl_X8_10 t0 dX8_note_1 rfl ?_
  refine U.getP fl_X8_60 (ty_X8_0 t0) dX8_note_4 rfl ?_
  refine V.iload_n (j := 1) dX8_note_7 rfl rfl rfl ?_
  obtain ⟨v2, q1, hx⟩ := ob_some hx
  refine U.callV (As := [.int a1]) (rest := []) (st' := [.int v2]) hE.1 (mX2_hasShow hE (ty_X0_0 (ty_X8_0 t0)) q1) mic_X2_hasShow rfl (ty_X0_0 (ty_X8_0 t0)) (by decide) rfl rfl wq_m_X8_136 wq_i_yX2_hasShow wq_s_yX2_hasShow ⟨Nat.le_of_ble_eq_true rfl, Nat.le_of_ble_eq_true rfl⟩ (Nat.le_of_ble_eq_true rfl) dX8_note_8 rfl rfl rfl ?_
  refine V.if_eq (tgt := 44) hx dX8_note_11 (by decide) rfl (fun hx => ?_) (fun hx => ?_)
  · refine V.pick [0] rfl ?_
    exact vX8_note_44 hE th h t0 hx
  · refine V.iload_n (j := 2) dX8_note_14 rfl rfl rfl ?_
    obtain ⟨v7, q6, hx⟩ := ob_some hx
    refine U.callS (As := [.int a2]) (rest := []) (st' := [.int v7]) hE.1 (mX8_isLoud hE q6) mic_X8_isLoud rfl wq_m_X8_77 wq_t_yX8_isLoud ⟨Nat.le_of_ble_eq_true rfl, Nat.le_of_ble_eq_true rfl⟩ (Nat.le_of_ble_eq_true rfl) dX8_note_15 rfl rfl rfl ?_
    refine V.if_eq (tgt := 44) hx dX8_note_18 (by decide) rfl (fun hx => ?_) (fun hx => ?_)
    · refine V.pick [0] rfl ?_
      exact vX8_note_44 hE th h t0 hx
    · refine V.iload_n (j := 3) dX8_note_21 rfl rfl rfl ?_
      obtain ⟨v9, q8, hx⟩ := ob_some hx
      refine U.callS (As := [.int a3]) (rest := []) (st' := [.int v9]) hE.1 (mX8_isFar hE q8) mic_X8_isFar rfl wq_m_X8_247 wq_t_yX8_isFar ⟨Nat.le_of_ble_eq_true rfl, Nat.le_of_ble_eq_true rfl⟩ (Nat.le_of_ble_eq_true rfl) dX8_note_22 rfl rfl rfl ?_
      refine V.if_eq (tgt := 44) hx dX8_note_25 (by decide) rfl (fun hx => ?_) (fun hx => ?_)
      · refine V.pick [0] rfl ?_
        exact vX8_note_44 hE th h t0 hx
      · refine V.iload (j := 4) dX8_note_28 rfl rfl ?_
        obtain ⟨v11, q10, hx⟩ := ob_some hx
        refine U.callS (As := [.int a4]) (rest := []) (st' := [.int v11]) hE.1 (mX8_isDayStep hE q10) mic_X8_isDayStep rfl wq_m_X8_188 wq_t_yX8_isDayStep ⟨Nat.le_of_ble_eq_true rfl, Nat.le_of_ble_eq_true rfl⟩ (Nat.le_of_ble_eq_true rfl) dX8_note_30 rfl rfl rfl ?_
        refine V.if_eq (tgt := 44) hx dX8_note_33 (by decide) rfl (fun hx => ?_) (fun hx => ?_)
        · refine V.pick [0] rfl ?_
          exact vX8_note_44 hE th h t0 hx
        · refine V.iload (j := 5) dX8_note_36 rfl rfl ?_
          obtain ⟨v13, q12, hx⟩ := ob_some hx
          refine U.callS (As := [.int a5]) (rest := []) (st' := [.int v13]) hE.1 (mX8_isPull hE q12) mic_X8_isPull rfl wq_m_X8_250 wq_t_yX8_isPull ⟨Nat.le_of_ble_eq_true rfl, Nat.le_of_ble_eq_true rfl⟩ (Nat.le_of_ble_eq_true rfl) dX8_note_38 rfl rfl rfl ?_
          refine V.if_ne (tgt := 51) hx dX8_note_41 (by decide) rfl (fun hx => ?_) (fun hx => ?_)
          · refine V.aload_n (j := 0) dX8_note_51 rfl rfl rfl ?_
            refine U.getP fl_X8_10 t0 dX8_note_52 rfl ?_
            refine U.getP fl_X8_253 (ty_X8_0 t0) dX8_note_55 rfl ?_
            refine U.getI fl_X8_236 (ty_X0_3 (ty_X8_0 t0)) dX8_note_58 rfl ?_
            refine V.bipush dX8_note_61 rfl kb_6 ?_
            refine V.icmp_lt (tgt := 73) hx dX8_note_63 (by decide) rfl (fun hx => ?_) (fun hx => ?_)
            · refine V.aload_n (j := 0) dX8_note_73 rfl rfl rfl ?_
              refine U.getP fl_X8_10 t0 dX8_note_74 rfl ?_
              refine U.getP fl_X8_253 (ty_X8_0 t0) dX8_note_77 rfl ?_
              refine V.iload_n (j := 1) dX8_note_80 rfl rfl rfl ?_
              refine V.iload_n (j := 2) dX8_note_81 rfl rfl rfl ?_
              refine V.iload_n (j := 3) dX8_note_82 rfl rfl rfl ?_
              refine V.iload (j := 4) dX8_note_83 rfl rfl ?_
              refine V.iload (j := 5) dX8_note_85 rfl rfl ?_
              obtain ⟨v16, h15, q14, hx⟩ := ob2_some hx
              refine U.callV (As := [.int a1, .int a2, .int a3, .int a4, .int a5]) (rest := []) (st' := [.int v16]) hE.1 (mX6_add hE (ty_X0_3 (ty_X8_0 t0)) q14) mic_X6_add rfl (ty_X0_3 (ty_X8_0 t0)) (by decide) rfl rfl wq_m_X8_239 wq_i_yX6_add wq_s_yX6_add ⟨Nat.le_of_ble_eq_true rfl, Nat.le_of_ble_eq_true rfl⟩ (Nat.le_of_ble_eq_true rfl) dX8_note_87 rfl rfl rfl ?_
              obtain rfl := Option.some.inj hx
              exact U.retI rfl rfl rfl rfl dX8_note_90
            · refine V.aload_n (j := 0) dX8_note_66 rfl rfl rfl ?_
              refine V.bipush dX8_note_67 rfl kb_m4 ?_
              obtain ⟨v19, h18, q17, hx⟩ := ob2_some hx
              refine U.callV (As := [.int (-4 : Int32)]) (rest := []) (st' := [.int v19]) hE.1 (mX8_refuse hE t0 q17) mic_X8_refuse rfl t0 (by decide) rfl rfl wq_m_X8_80 wq_i_yX8_refuse wq_s_yX8_refuse ⟨Nat.le_of_ble_eq_true rfl, Nat.le_of_ble_eq_true rfl⟩ (Nat.le_of_ble_eq_true rfl) dX8_note_69 rfl rfl rfl ?_
              obtain rfl := Option.some.inj hx
              exact U.retI rfl rfl rfl rfl dX8_note_72
          · refine V.pick [0] rfl ?_
            exact vX8_note_44 hE th h t0 hx
set_option maxRecDepth 100000 in
set_option maxHeartbeats 4000000 in
theorem vX8_mark_38 {l : Launch} {G : GG} {EX : State → Prop} (hE : EXB G EX) {r : Int32 × AH} : ∀ (l0 : Nat) (h : AH) (t0 : KD l0 = 7), fX8_mark_38 l0 h = some r → U l G EX mi_X8_mark 2 42 (some (.int r.1)) r.2 38 [(0, .ref (G.1 + l0))] [] h := by
  intro l0 h t0 hx
  unfold fX8_mark_38 at hx
  refine V.aload_n (j := 0) dX8_mark_38 rfl rfl rfl ?_
  refine V.bipush dX8_mark_39 rfl kb_m2 ?_
  obtain ⟨v5, h4, q3, hx⟩ := ob2_some hx
  refine U.callV (As := [.int (-2 : Int32)]) (rest := []) (st' := [.int v5]) hE.1 (mX8_refuse hE t0 q3) mic_X8_refuse rfl t0 (by decide) rfl rfl wq_m_X8_80 wq_i_yX8_refuse wq_s_yX8_refuse ⟨Nat.le_of_ble_eq_true rfl, Nat.le_of_ble_eq_true rfl⟩ (Nat.le_of_ble_eq_true rfl) dX8_mark_41 rfl rfl rfl ?_
  obtain rfl := Option.some.inj hx
  exact U.retI rfl rfl rfl rfl dX8_mark_44
set_option maxRecDepth 100000 in
set_option maxHeartbeats 4000000 in
theorem mX8_mark {l : Launch} {G : GG} {EX : State → Prop} (hE : EXB G EX) {th : Nat} {a1 : Int32} {a2 : Int32} {a3 : Int32} {a4 : Int32} {h : AH} (t0 : KD th = 7) {r : Int32 × AH} (hx : fX8_mark th a1 a2 a3 a4 h = some r) : MetU l G EX mi_X8_mark 2 42 [.ref (G.1 + th), .int a1, .int a2, .int a3, .int a4] h (some (.int r.1)) r.2 := by
  refine MetU.of mic_X8_mark.1 (Nat.le_of_ble_eq_true rfl) ?_
  refine show U l G EX mi_X8_mark 2 42 (some (.int r.1)) r.2 0 [(0, .ref (G.1 + th)), (1, .int a1), (2, .int a2), (3, .int a3), (4, .int a4)] [] h from ?_
  unfold fX8_mark at hx
  refine V.aload_n (j := 0) dX8_mark_0 rfl rfl rfl ?_
  refine U.getP fl_X8_10 t0 dX8_mark_1 rfl ?_
  refine U.getP fl_X8_60 (ty_X8_0 t0) dX8_mark_4 rfl ?_
  refine V.iload_n (j := 1) dX8_mark_7 rfl rfl rfl ?_
  obtain ⟨v2, q1, hx⟩ := ob_some hx
  refine U.callV (As := [.int a1]) (rest := []) (st' := [.int v2]) hE.1 (mX2_hasWatcher hE (ty_X0_0 (ty_X8_0 t0)) q1) mic_X2_hasWatcher rfl (ty_X0_0 (ty_X8_0 t0)) (by decide) rfl rfl wq_m_X8_145 wq_i_yX2_hasWatcher wq_s_yX2_hasWatcher ⟨Nat.le_of_ble_eq_true rfl, Nat.le_of_ble_eq_true rfl⟩ (Nat.le_of_ble_eq_true rfl) dX8_mark_8 rfl rfl rfl ?_
  refine V.if_eq (tgt := 38) hx dX8_mark_11 (by decide) rfl (fun hx => ?_) (fun hx => ?_)
  · refine V.pick [0] rfl ?_
    exact vX8_mark_38 hE th h t0 hx
  · refine V.iload_n (j := 2) dX8_mark_14 rfl rfl rfl ?_
    obtain ⟨v7, q6, hx⟩ := ob_some hx
    refine U.callS (As := [.int a2]) (rest := []) (st' := [.int v7]) hE.1 (mX8_isFar hE q6) mic_X8_isFar rfl wq_m_X8_247 wq_t_yX8_isFar ⟨Nat.le_of_ble_eq_true rfl, Nat.le_of_ble_eq_true rfl⟩ (Nat.le_of_ble_eq_true rfl) dX8_mark_15 rfl rfl rfl ?_
    refine V.if_eq (tgt := 38) hx dX8_mark_18 (by decide) rfl (fun hx => ?_) (fun hx => ?_)
    · refine V.pick [0] rfl ?_
      exact vX8_mark_38 hE th h t0 hx
    · refine V.iload_n (j := 3) dX8_mark_21 rfl rfl rfl ?_
      obtain ⟨v9, q8, hx⟩ := ob_some hx
      refine U.callS (As := [.int a3]) (rest := []) (st' := [.int v9]) hE.1 (mX8_isPull hE q8) mic_X8_isPull rfl wq_m_X8_250 wq_t_yX8_isPull ⟨Nat.le_of_ble_eq_true rfl, Nat.le_of_ble_eq_true rfl⟩ (Nat.le_of_ble_eq_true rfl) dX8_mark_22 rfl rfl rfl ?_
      refine V.if_eq (tgt := 38) hx dX8_mark_25 (by decide) rfl (fun hx => ?_) (fun hx => ?_)
      · refine V.pick [0] rfl ?_
        exact vX8_mark_38 hE th h t0 hx
      · refine V.iload (j := 4) dX8_mark_28 rfl rfl ?_
        refine V.iconst dX8_mark_30 rfl ki_0 ?_
        refine V.iconst dX8_mark_31 rfl ki_1 ?_
        obtain ⟨v11, q10, hx⟩ := ob_some hx
        refine U.callS (As := [.int a4, .int (0 : Int32), .int (1 : Int32)]) (rest := []) (st' := [.int v11]) hE.1 (mX8_within hE q10) mic_X8_within rfl wq_m_X8_104 wq_t_yX8_within ⟨Nat.le_of_ble_eq_true rfl, Nat.le_of_ble_eq_true rfl⟩ (Nat.le_of_ble_eq_true rfl) dX8_mark_32 rfl rfl rfl ?_
        refine V.if_ne (tgt := 45) hx dX8_mark_35 (by decide) rfl (fun hx => ?_) (fun hx => ?_)
        · refine V.aload_n (j := 0) dX8_mark_45 rfl rfl rfl ?_
          refine U.getP fl_X8_10 t0 dX8_mark_46 rfl ?_
          refine U.getP fl_X8_256 (ty_X8_0 t0) dX8_mark_49 rfl ?_
          refine U.getI fl_X8_236 (ty_X0_4 (ty_X8_0 t0)) dX8_mark_52 rfl ?_
          refine V.bipush dX8_mark_55 rfl kb_6 ?_
          refine V.icmp_lt (tgt := 67) hx dX8_mark_57 (by decide) rfl (fun hx => ?_) (fun hx => ?_)
          · refine V.aload_n (j := 0) dX8_mark_67 rfl rfl rfl ?_
            refine U.getP fl_X8_10 t0 dX8_mark_68 rfl ?_
            refine U.getP fl_X8_256 (ty_X8_0 t0) dX8_mark_71 rfl ?_
            refine V.iload_n (j := 1) dX8_mark_74 rfl rfl rfl ?_
            refine V.iload_n (j := 2) dX8_mark_75 rfl rfl rfl ?_
            refine V.iload_n (j := 3) dX8_mark_76 rfl rfl rfl ?_
            refine V.iload (j := 4) dX8_mark_77 rfl rfl ?_
            refine V.iconst dX8_mark_79 rfl ki_0 ?_
            obtain ⟨v14, h13, q12, hx⟩ := ob2_some hx
            refine U.callV (As := [.int a1, .int a2, .int a3, .int a4, .int (0 : Int32)]) (rest := []) (st' := [.int v14]) hE.1 (mX6_add hE (ty_X0_4 (ty_X8_0 t0)) q12) mic_X6_add rfl (ty_X0_4 (ty_X8_0 t0)) (by decide) rfl rfl wq_m_X8_239 wq_i_yX6_add wq_s_yX6_add ⟨Nat.le_of_ble_eq_true rfl, Nat.le_of_ble_eq_true rfl⟩ (Nat.le_of_ble_eq_true rfl) dX8_mark_80 rfl rfl rfl ?_
            obtain rfl := Option.some.inj hx
            exact U.retI rfl rfl rfl rfl dX8_mark_83
          · refine V.aload_n (j := 0) dX8_mark_60 rfl rfl rfl ?_
            refine V.bipush dX8_mark_61 rfl kb_m4 ?_
            obtain ⟨v17, h16, q15, hx⟩ := ob2_some hx
            refine U.callV (As := [.int (-4 : Int32)]) (rest := []) (st' := [.int v17]) hE.1 (mX8_refuse hE t0 q15) mic_X8_refuse rfl t0 (by decide) rfl rfl wq_m_X8_80 wq_i_yX8_refuse wq_s_yX8_refuse ⟨Nat.le_of_ble_eq_true rfl, Nat.le_of_ble_eq_true rfl⟩ (Nat.le_of_ble_eq_true rfl) dX8_mark_63 rfl rfl rfl ?_
            obtain rfl := Option.some.inj hx
            exact U.retI rfl rfl rfl rfl dX8_mark_66
        · refine V.pick [0] rfl ?_
          exact vX8_mark_38 hE th h t0 hx
set_option maxRecDepth 100000 in
set_option maxHeartbeats 4000000 in
theorem vX8_forget_52 {l : Launch} {G : GG} {EX : State → Prop} (hE : EXB G EX) {r : Int32 × AH} : ∀ (s0 : Nat) (h : AH) (ts0 : KD s0 = 5), fX8_forget_52 s0 h = some r → U l G EX mi_X8_forget 1 22 (some (.int r.1)) r.2 52 [] [.ref (G.1 + s0)] h := by
  intro s0 h ts0 hx
  unfold fX8_forget_52 at hx
  refine V.astore_n [(2, .ref (G.1 + s0))] dX8_forget_52 rfl rfl (Nat.le_of_ble_eq_true rfl) rfl ?_
  refine V.aload_n (j := 0) dX8_forget_53 rfl rfl rfl ?_
  refine U.getI fl_X8_236 ts0 dX8_forget_54 rfl ?_
  refine U.letI hx (fun v3 hx => ?_)
  refine V.istore_n [(3, .int v3), (2, .ref (G.1 + s0))] dX8_forget_57 rfl rfl (Nat.le_of_ble_eq_true rfl) rfl ?_
  refine V.aload_n (j := 1) dX8_forget_58 rfl rfl rfl ?_
  refine V.iconst dX8_forget_59 rfl ki_0 ?_
  refine U.putI hx fl_X8_236 ts0 rfl rfl dX8_forget_60 rfl (fun h4 hx => ?_)
  refine V.iload_n (j := 0) dX8_forget_63 rfl rfl rfl ?_
  obtain rfl := Option.some.inj hx
  exact U.retI rfl rfl rfl rfl dX8_forget_64
set_option maxRecDepth 100000 in
set_option maxHeartbeats 4000000 in
theorem mX8_forget {l : Launch} {G : GG} {EX : State → Prop} (hE : EXB G EX) {th : Nat} {a1 : Int32} {h : AH} (t0 : KD th = 7) {r : Int32 × AH} (hx : fX8_forget th a1 h = some r) : MetU l G EX mi_X8_forget 1 22 [.ref (G.1 + th), .int a1] h (some (.int r.1)) r.2 := by
  refine MetU.of mic_X8_forget.1 (Nat.le_of_ble_eq_true rfl) ?_
  refine show U l G EX mi_X8_forget 1 22 (some (.int r.1)) r.2 0 [(0, .ref (G.1 + th)), (1, .int a1)] [] h from ?_
  unfold fX8_forget at hx
  refine V.iload_n (j := 1) dX8_forget_0 rfl rfl rfl ?_
  refine V.iconst dX8_forget_1 rfl ki_0 ?_
  refine V.iconst dX8_forget_2 rfl ki_2 ?_
  obtain ⟨v2, q1, hx⟩ := ob_some hx
  refine U.callS (As := [.int a1, .int (0 : Int32), .int (2 : Int32)]) (rest := []) (st' := [.int v2]) hE.1 (mX8_within hE q1) mic_X8_within rfl wq_m_X8_104 wq_t_yX8_within ⟨Nat.le_of_ble_eq_true rfl, Nat.le_of_ble_eq_true rfl⟩ (Nat.le_of_ble_eq_true rfl) dX8_forget_3 rfl rfl rfl ?_
  refine V.if_ne (tgt := 16) hx dX8_forget_6 (by decide) rfl (fun hx => ?_) (fun hx => ?_)
  · refine V.iload_n (j := 1) dX8_forget_16 rfl rfl rfl ?_
    refine V.if_ne (tgt := 30) hx dX8_forget_17 (by decide) rfl (fun hx => ?_) (fun hx => ?_)
    · refine V.iload_n (j := 1) dX8_forget_30 rfl rfl rfl ?_
      refine V.iconst dX8_forget_31 rfl ki_1 ?_
      refine V.icmp_ne (tgt := 45) hx dX8_forget_32 (by decide) rfl (fun hx => ?_) (fun hx => ?_)
      · refine V.aload_n (j := 0) dX8_forget_45 rfl rfl rfl ?_
        refine U.getP fl_X8_10 t0 dX8_forget_46 rfl ?_
        refine U.getP fl_X8_256 (ty_X8_0 t0) dX8_forget_49 rfl ?_
        refine V.pick [] rfl ?_
        exact vX8_forget_52 hE (PC (PC th 0) 4) h (ty_X0_4 (ty_X8_0 t0)) hx
      · refine V.aload_n (j := 0) dX8_forget_35 rfl rfl rfl ?_
        refine U.getP fl_X8_10 t0 dX8_forget_36 rfl ?_
        refine U.getP fl_X8_253 (ty_X8_0 t0) dX8_forget_39 rfl ?_
        refine V.goto (q := 52) dX8_forget_42 (by decide) ?_
        refine V.pick [] rfl ?_
        exact vX8_forget_52 hE (PC (PC th 0) 3) h (ty_X0_3 (ty_X8_0 t0)) hx
    · refine V.aload_n (j := 0) dX8_forget_20 rfl rfl rfl ?_
      refine U.getP fl_X8_10 t0 dX8_forget_21 rfl ?_
      refine U.getP fl_X8_232 (ty_X8_0 t0) dX8_forget_24 rfl ?_
      refine V.goto (q := 52) dX8_forget_27 (by decide) ?_
      refine V.pick [] rfl ?_
      exact vX8_forget_52 hE (PC (PC th 0) 2) h (ty_X0_2 (ty_X8_0 t0)) hx
  · refine V.aload_n (j := 0) dX8_forget_9 rfl rfl rfl ?_
    refine V.bipush dX8_forget_10 rfl kb_m2 ?_
    obtain ⟨v7, h6, q5, hx⟩ := ob2_some hx
    refine U.callV (As := [.int (-2 : Int32)]) (rest := []) (st' := [.int v7]) hE.1 (mX8_refuse hE t0 q5) mic_X8_refuse rfl t0 (by decide) rfl rfl wq_m_X8_80 wq_i_yX8_refuse wq_s_yX8_refuse ⟨Nat.le_of_ble_eq_true rfl, Nat.le_of_ble_eq_true rfl⟩ (Nat.le_of_ble_eq_true rfl) dX8_forget_12 rfl rfl rfl ?_
    obtain rfl := Option.some.inj hx
    exact U.retI rfl rfl rfl rfl dX8_forget_15
set_option maxRecDepth 100000 in
set_option maxHeartbeats 4000000 in
theorem vX8_showKindsLeft_26 {l : Launch} {G : GG} {EX : State → Prop} (hE : EXB G EX) {h : AH} {r : Int32} {k99 : Int32 → Nat → Int32 → Int32 → Option (Int32)} (hk99 : ∀ (l1 : Int32) (l2 : Nat) (l3 : Int32) (l4 : Int32) (t2 : KD l2 = 5), k99 l1 l2 l3 l4 = some r → U l G EX mi_X8_showKindsLeft 2 48 (some (.int r)) h 99 [(1, .int l1), (2, .ref (G.1 + l2)), (3, .int l3), (4, .int l4)] [] h) : ∀ (n : Nat) (l1 : Int32) (l2 : Nat) (l3 : Int32) (l4 : Int32) (l5 : Int32) (t2 : KD l2 = 5), fX8_showKindsLeft_26 h k99 n l1 l2 l3 l4 l5 = some r → U l G EX mi_X8_showKindsLeft 2 48 (some (.int r)) h 26 [(1, .int l1), (2, .ref (G.1 + l2)), (3, .int l3), (4, .int l4), (5, .int l5)] [] h := by
  intro n
  induction n with
  | zero =>
    intro l1 l2 l3 l4 l5 t2 hx
    have hx : none = some r := hx
    cases hx
  | succ n ih =>
    intro l1 l2 l3 l4 l5 t2 hx
    rw [fX8_showKindsLeft_26] at hx
    refine V.aload_n (j := 1) dX8_showKindsLeft_26 rfl rfl rfl ?_
    refine V.iload (j := 3) dX8_showKindsLeft_27 rfl rfl ?_
    refine V.iconst dX8_showKindsLeft_29 rfl ki_0 ?_
    obtain ⟨v2, q1, hx⟩ := ob_some hx
    refine U.callV (As := [.int l4, .int (0 : Int32)]) (rest := []) (st' := [.int v2]) hE.1 (mX6_told hE t2 q1) mic_X6_told rfl t2 (by decide) rfl rfl wq_m_X8_244 wq_i_yX6_told wq_s_yX6_told ⟨Nat.le_of_ble_eq_true rfl, Nat.le_of_ble_eq_true rfl⟩ (Nat.le_of_ble_eq_true rfl) dX8_showKindsLeft_30 rfl rfl rfl ?_
    refine V.iload_n (j := 0) dX8_showKindsLeft_33 rfl rfl rfl ?_
    refine V.icmp_ne (tgt := 99) hx dX8_showKindsLeft_34 (by decide) rfl (fun hx => ?_) (fun hx => ?_)
    · refine V.pick [0, 1, 2, 3] rfl ?_
      exact hk99 l1 l2 l3 l4 t2 hx
    · refine V.iload (j := 4) dX8_showKindsLeft_37 rfl rfl ?_
      refine V.bipush dX8_showKindsLeft_39 rfl kb_6 ?_
      refine V.icmp_ge (tgt := 99) hx dX8_showKindsLeft_41 (by decide) rfl (fun hx => ?_) (fun hx => ?_)
      · refine V.pick [0, 1, 2, 3] rfl ?_
        exact hk99 l1 l2 l3 l4 t2 hx
      · refine V.iload (j := 4) dX8_showKindsLeft_44 rfl rfl ?_
        refine V.aload_n (j := 1) dX8_showKindsLeft_46 rfl rfl rfl ?_
        refine V.iload (j := 3) dX8_showKindsLeft_47 rfl rfl ?_
        refine V.iconst dX8_showKindsLeft_49 rfl ki_1 ?_
        obtain ⟨v4, q3, hx⟩ := ob_some hx
        refine U.callV (As := [.int l4, .int (1 : Int32)]) (rest := [.int l5]) (st' := [.int v4, .int l5]) hE.1 (mX6_told hE t2 q3) mic_X6_told rfl t2 (by decide) rfl rfl wq_m_X8_244 wq_i_yX6_told wq_s_yX6_told ⟨Nat.le_of_ble_eq_true rfl, Nat.le_of_ble_eq_true rfl⟩ (Nat.le_of_ble_eq_true rfl) dX8_showKindsLeft_50 rfl rfl rfl ?_
        refine V.aload_n (j := 1) dX8_showKindsLeft_53 rfl rfl rfl ?_
        refine V.iload (j := 3) dX8_showKindsLeft_54 rfl rfl ?_
        refine V.iconst dX8_showKindsLeft_56 rfl ki_2 ?_
        obtain ⟨v6, q5, hx⟩ := ob_some hx
        refine U.callV (As := [.int l4, .int (2 : Int32)]) (rest := [.int v4, .int l5]) (st' := [.int v6, .int v4, .int l5]) hE.1 (mX6_told hE t2 q5) mic_X6_told rfl t2 (by decide) rfl rfl wq_m_X8_244 wq_i_yX6_told wq_s_yX6_told ⟨Nat.le_of_ble_eq_true rfl, Nat.le_of_ble_eq_true rfl⟩ (Nat.le_of_ble_eq_true rfl) dX8_showKindsLeft_57 rfl rfl rfl ?_
        refine V.aload_n (j := 1) dX8_showKindsLeft_60 rfl rfl rfl ?_
        refine V.iload (j := 3) dX8_showKindsLeft_61 rfl rfl ?_
        refine V.iconst dX8_showKindsLeft_63 rfl ki_3 ?_
        obtain ⟨v8, q7, hx⟩ := ob_some hx
        refine U.callV (As := [.int l4, .int (3 : Int32)]) (rest := [.int v6, .int v4, .int l5]) (st' := [.int v8, .int v6, .int v4, .int l5]) hE.1 (mX6_told hE t2 q7) mic_X6_told rfl t2 (by decide) rfl rfl wq_m_X8_244 wq_i_yX6_told wq_s_yX6_told ⟨Nat.le_of_ble_eq_true rfl, Nat.le_of_ble_eq_true rfl⟩ (Nat.le_of_ble_eq_true rfl) dX8_showKindsLeft_64 rfl rfl rfl ?_
        obtain ⟨v10, q9, hx⟩ := ob_some hx
        refine U.callS (As := [.int l5, .int v4, .int v6, .int v8]) (rest := []) (st' := [.int v10]) hE.1 (mX1_pullBy hE q9) mic_X1_pullBy rfl wq_m_X8_342 wq_t_yX1_pullBy ⟨Nat.le_of_ble_eq_true rfl, Nat.le_of_ble_eq_true rfl⟩ (Nat.le_of_ble_eq_true rfl) dX8_showKindsLeft_67 rfl rfl rfl ?_
        refine V.istore [(6, .int v10), (1, .int l1), (2, .ref (G.1 + l2)), (3, .int l3), (4, .int l4), (5, .int l5)] dX8_showKindsLeft_70 rfl (Nat.le_of_ble_eq_true rfl) rfl ?_
        refine V.iload (j := 0) dX8_showKindsLeft_72 rfl rfl ?_
        refine V.aload_n (j := 2) dX8_showKindsLeft_74 rfl rfl rfl ?_
        refine V.iload (j := 4) dX8_showKindsLeft_75 rfl rfl ?_
        refine V.iconst dX8_showKindsLeft_77 rfl ki_4 ?_
        obtain ⟨v12, q11, hx⟩ := ob_some hx
        refine U.callV (As := [.int l4, .int (4 : Int32)]) (rest := [.int v10]) (st' := [.int v12, .int v10]) hE.1 (mX6_told hE t2 q11) mic_X6_told rfl t2 (by decide) rfl rfl wq_m_X8_244 wq_i_yX6_told wq_s_yX6_told ⟨Nat.le_of_ble_eq_true rfl, Nat.le_of_ble_eq_true rfl⟩ (Nat.le_of_ble_eq_true rfl) dX8_showKindsLeft_78 rfl rfl rfl ?_
        refine V.icmp_eq (tgt := 93) hx dX8_showKindsLeft_81 (by decide) rfl (fun hx => ?_) (fun hx => ?_)
        · refine U.iinc hx (fun v13 => [(5, .int v13), (6, .int v10), (1, .int l1), (2, .ref (G.1 + l2)), (3, .int l3), (4, .int l4)]) (j := 5) rfl (by decide) (Nat.le_of_ble_eq_true rfl) (fun _ => rfl) dX8_showKindsLeft_93 rfl (fun v13 hx => ?_)
          refine V.goto (q := 26) dX8_showKindsLeft_96 (by decide) ?_
          refine V.pick [2, 3, 4, 5, 0] rfl ?_
          exact ih l1 l2 l3 l4 v13 t2 hx
        · refine V.iload_n (j := 3) dX8_showKindsLeft_84 rfl rfl rfl ?_
          refine V.iconst dX8_showKindsLeft_85 rfl ki_1 ?_
          refine V.iload (j := 5) dX8_showKindsLeft_86 rfl rfl ?_
          refine V.ishl dX8_showKindsLeft_88 rfl ?_
          refine V.iconst dX8_showKindsLeft_89 rfl ki_m1 ?_
          refine V.ixor dX8_showKindsLeft_90 rfl ?_
          refine V.iand dX8_showKindsLeft_91 rfl ?_
          refine U.letI hx (fun v14 hx => ?_)
          refine V.istore_n [(3, .int v14), (6, .int v10), (1, .int l1), (2, .ref (G.1 + l2)), (4, .int l4), (5, .int l5)] dX8_showKindsLeft_92 rfl rfl (Nat.le_of_ble_eq_true rfl) rfl ?_
          refine U.iinc hx (fun v15 => [(5, .int v15), (3, .int v14), (6, .int v10), (1, .int l1), (2, .ref (G.1 + l2)), (4, .int l4)]) (j := 5) rfl (by decide) (Nat.le_of_ble_eq_true rfl) (fun _ => rfl) dX8_showKindsLeft_93 rfl (fun v15 hx => ?_)
          refine V.goto (q := 26) dX8_showKindsLeft_96 (by decide) ?_
          refine V.pick [3, 4, 1, 5, 0] rfl ?_
          exact ih l1 l2 v14 l4 v15 t2 hx
set_option maxRecDepth 100000 in
set_option maxHeartbeats 4000000 in
theorem vX8_showKindsLeft_14 {l : Launch} {G : GG} {EX : State → Prop} (hE : EXB G EX) {h : AH} {r : Int32} : ∀ (n : Nat) (l1 : Int32) (l2 : Nat) (l3 : Int32) (l4 : Int32) (t2 : KD l2 = 5), fX8_showKindsLeft_14 h n l1 l2 l3 l4 = some r → U l G EX mi_X8_showKindsLeft 2 48 (some (.int r)) h 14 [(1, .int l1), (2, .ref (G.1 + l2)), (3, .int l3), (4, .int l4)] [] h := by
  intro n
  induction n with
  | zero =>
    intro l1 l2 l3 l4 t2 hx
    have hx : none = some r := hx
    cases hx
  | succ n ih =>
    intro l1 l2 l3 l4 t2 hx
    rw [fX8_showKindsLeft_14] at hx
    refine V.iload (j := 3) dX8_showKindsLeft_14 rfl rfl ?_
    refine V.aload_n (j := 1) dX8_showKindsLeft_16 rfl rfl rfl ?_
    refine U.getI fl_X8_236 t2 dX8_showKindsLeft_17 rfl ?_
    refine V.icmp_ge (tgt := 105) hx dX8_showKindsLeft_20 (by decide) rfl (fun hx => ?_) (fun hx => ?_)
    · refine V.iload_n (j := 2) dX8_showKindsLeft_105 rfl rfl rfl ?_
      obtain rfl := Option.some.inj hx
      exact U.retI rfl rfl rfl rfl dX8_showKindsLeft_106
    · refine V.iconst dX8_showKindsLeft_23 rfl ki_0 ?_
      refine V.istore [(5, .int (0 : Int32)), (1, .int l1), (2, .ref (G.1 + l2)), (3, .int l3), (4, .int l4)] dX8_showKindsLeft_24 rfl (Nat.le_of_ble_eq_true rfl) rfl ?_
      refine V.pick [1, 2, 3, 4, 0] rfl ?_
      refine vX8_showKindsLeft_26 hE (fun w16 w17 w18 w19 t20 hx => ?_) FU l1 l2 l3 l4 (0 : Int32) t2 hx
      · refine U.iinc hx (fun v21 => [(4, .int v21), (1, .int w16), (2, .ref (G.1 + w17)), (3, .int w18)]) (j := 3) rfl (by decide) (Nat.le_of_ble_eq_true rfl) (fun _ => rfl) dX8_showKindsLeft_99 rfl (fun v21 hx => ?_)
        refine V.goto (q := 14) dX8_showKindsLeft_102 (by decide) ?_
        refine V.pick [1, 2, 3, 0] rfl ?_
        exact ih w16 w17 w18 v21 t20 hx
set_option maxRecDepth 100000 in
set_option maxHeartbeats 4000000 in
theorem mX8_showKindsLeft {l : Launch} {G : GG} {EX : State → Prop} (hE : EXB G EX) {th : Nat} {a1 : Int32} {h : AH} (t0 : KD th = 7) {r : Int32} (hx : fX8_showKindsLeft th a1 h = some r) : MetU l G EX mi_X8_showKindsLeft 2 48 [.ref (G.1 + th), .int a1] h (some (.int r)) h := by
  refine MetU.of mic_X8_showKindsLeft.1 (Nat.le_of_ble_eq_true rfl) ?_
  refine show U l G EX mi_X8_showKindsLeft 2 48 (some (.int r)) h 0 [(0, .ref (G.1 + th)), (1, .int a1)] [] h from ?_
  unfold fX8_showKindsLeft at hx
  refine V.aload_n (j := 0) dX8_showKindsLeft_0 rfl rfl rfl ?_
  refine U.getP fl_X8_10 t0 dX8_showKindsLeft_1 rfl ?_
  refine U.getP fl_X8_253 (ty_X8_0 t0) dX8_showKindsLeft_4 rfl ?_
  refine V.astore_n [(2, .ref (G.1 + (PC (PC th 0) 3))), (0, .ref (G.1 + th)), (1, .int a1)] dX8_showKindsLeft_7 rfl rfl (Nat.le_of_ble_eq_true rfl) rfl ?_
  refine V.bipush dX8_showKindsLeft_8 rfl kb_63 ?_
  refine V.istore_n [(3, .int (63 : Int32)), (2, .ref (G.1 + (PC (PC th 0) 3))), (0, .ref (G.1 + th)), (1, .int a1)] dX8_showKindsLeft_10 rfl rfl (Nat.le_of_ble_eq_true rfl) rfl ?_
  refine V.iconst dX8_showKindsLeft_11 rfl ki_0 ?_
  refine V.istore [(4, .int (0 : Int32)), (3, .int (63 : Int32)), (2, .ref (G.1 + (PC (PC th 0) 3))), (0, .ref (G.1 + th)), (1, .int a1)] dX8_showKindsLeft_12 rfl (Nat.le_of_ble_eq_true rfl) rfl ?_
  refine V.pick [4, 2, 1, 0] rfl ?_
  exact vX8_showKindsLeft_14 hE FU a1 (PC (PC th 0) 3) (63 : Int32) (0 : Int32) (ty_X0_3 (ty_X8_0 t0)) hx
set_option maxRecDepth 100000 in
set_option maxHeartbeats 4000000 in
theorem mX8_is {l : Launch} {G : GG} {EX : State → Prop} (hE : EXB G EX) {th : Nat} {a1 : Int32} {h : AH} (t0 : KD th = 7) {r : Int32 × AH} (hx : fX8_is th a1 h = some r) : MetU l G EX mi_X8_is 3 74 [.ref (G.1 + th), .int a1] h (some (.int r.1)) r.2 := by
  refine MetU.of mic_X8_is.1 (Nat.le_of_ble_eq_true rfl) ?_
  refine show U l G EX mi_X8_is 3 74 (some (.int r.1)) r.2 0 [(0, .ref (G.1 + th)), (1, .int a1)] [] h from ?_
  unfold fX8_is at hx
  refine V.aload_n (j := 0) dX8_is_0 rfl rfl rfl ?_
  refine U.getP fl_X8_10 t0 dX8_is_1 rfl ?_
  refine U.getP fl_X8_60 (ty_X8_0 t0) dX8_is_4 rfl ?_
  refine V.iload_n (j := 1) dX8_is_7 rfl rfl rfl ?_
  obtain ⟨v2, q1, hx⟩ := ob_some hx
  refine U.callV (As := [.int a1]) (rest := []) (st' := [.int v2]) hE.1 (mX2_hasShow hE (ty_X0_0 (ty_X8_0 t0)) q1) mic_X2_hasShow rfl (ty_X0_0 (ty_X8_0 t0)) (by decide) rfl rfl wq_m_X8_136 wq_i_yX2_hasShow wq_s_yX2_hasShow ⟨Nat.le_of_ble_eq_true rfl, Nat.le_of_ble_eq_true rfl⟩ (Nat.le_of_ble_eq_true rfl) dX8_is_8 rfl rfl rfl ?_
  refine V.if_eq (tgt := 22) hx dX8_is_11 (by decide) rfl (fun hx => ?_) (fun hx => ?_)
  · refine V.aload_n (j := 0) dX8_is_22 rfl rfl rfl ?_
    refine V.bipush dX8_is_23 rfl kb_m2 ?_
    obtain ⟨v5, h4, q3, hx⟩ := ob2_some hx
    refine U.callV (As := [.int (-2 : Int32)]) (rest := []) (st' := [.int v5]) hE.1 (mX8_refuse hE t0 q3) mic_X8_refuse rfl t0 (by decide) rfl rfl wq_m_X8_80 wq_i_yX8_refuse wq_s_yX8_refuse ⟨Nat.le_of_ble_eq_true rfl, Nat.le_of_ble_eq_true rfl⟩ (Nat.le_of_ble_eq_true rfl) dX8_is_25 rfl rfl rfl ?_
    obtain rfl := Option.some.inj hx
    exact U.retI rfl rfl rfl rfl dX8_is_28
  · refine V.aload_n (j := 0) dX8_is_14 rfl rfl rfl ?_
    refine V.iload_n (j := 1) dX8_is_15 rfl rfl rfl ?_
    obtain ⟨v7, q6, hx⟩ := ob_some hx
    refine U.callV (As := [.int a1]) (rest := []) (st' := [.int v7]) hE.1 (mX8_showKindsLeft hE t0 q6) mic_X8_showKindsLeft rfl t0 (by decide) rfl rfl wq_m_X8_259 wq_i_yX8_showKindsLeft wq_s_yX8_showKindsLeft ⟨Nat.le_of_ble_eq_true rfl, Nat.le_of_ble_eq_true rfl⟩ (Nat.le_of_ble_eq_true rfl) dX8_is_16 rfl rfl rfl ?_
    refine V.goto (q := 28) dX8_is_19 (by decide) ?_
    obtain rfl := Option.some.inj hx
    exact U.retI rfl rfl rfl rfl dX8_is_28
set_option maxRecDepth 100000 in
set_option maxHeartbeats 4000000 in
theorem vX8_mostAlike_51 {l : Launch} {G : GG} {EX : State → Prop} (hE : EXB G EX) {r : Int32 × AH} {k99 : Nat → Int32 → Int32 → Int32 → Int32 → AH → Option (Int32 × AH)} (hk99 : ∀ (l0 : Nat) (l1 : Int32) (l5 : Int32) (l6 : Int32) (l7 : Int32) (h : AH) (t0 : KD l0 = 7), k99 l0 l1 l5 l6 l7 h = some r → U l G EX mi_X8_mostAlike 2 48 (some (.int r.1)) r.2 99 [(0, .ref (G.1 + l0)), (1, .int l1), (5, .int l5), (6, .int l6), (7, .int l7)] [] h) : ∀ (n : Nat) (l0 : Nat) (l1 : Int32) (l5 : Int32) (l6 : Int32) (l7 : Int32) (l8 : Int32) (h : AH) (t0 : KD l0 = 7), fX8_mostAlike_51 k99 n l0 l1 l5 l6 l7 l8 h = some r → U l G EX mi_X8_mostAlike 2 48 (some (.int r.1)) r.2 51 [(0, .ref (G.1 + l0)), (1, .int l1), (5, .int l5), (6, .int l6), (7, .int l7), (8, .int l8)] [] h := by
  intro n
  induction n with
  | zero =>
    intro l0 l1 l5 l6 l7 l8 h t0 hx
    have hx : none = some r := hx
    cases hx
  | succ n ih =>
    intro l0 l1 l5 l6 l7 l8 h t0 hx
    rw [fX8_mostAlike_51] at hx
    refine V.iload (j := 5) dX8_mostAlike_51 rfl rfl ?_
    refine V.bipush dX8_mostAlike_53 rfl kb_6 ?_
    refine V.icmp_ge (tgt := 99) hx dX8_mostAlike_55 (by decide) rfl (fun hx => ?_) (fun hx => ?_)
    · refine V.pick [0, 1, 2, 3, 4] rfl ?_
      exact hk99 l0 l1 l5 l6 l7 h t0 hx
    · refine V.iload_n (j := 1) dX8_mostAlike_58 rfl rfl rfl ?_
      refine V.iload (j := 3) dX8_mostAlike_59 rfl rfl ?_
      refine V.ishr dX8_mostAlike_61 rfl ?_
      refine V.iload_n (j := 1) dX8_mostAlike_62 rfl rfl rfl ?_
      refine V.iload (j := 5) dX8_mostAlike_63 rfl rfl ?_
      refine V.ishr dX8_mostAlike_65 rfl ?_
      refine V.iand dX8_mostAlike_66 rfl ?_
      refine V.iconst dX8_mostAlike_67 rfl ki_1 ?_
      refine V.iand dX8_mostAlike_68 rfl ?_
      refine V.iconst dX8_mostAlike_69 rfl ki_1 ?_
      refine V.icmp_ne (tgt := 93) hx dX8_mostAlike_70 (by decide) rfl (fun hx => ?_) (fun hx => ?_)
      · refine U.iinc hx (fun v1 => [(8, .int v1), (0, .ref (G.1 + l0)), (1, .int l1), (5, .int l5), (6, .int l6), (7, .int l7)]) (j := 5) rfl (by decide) (Nat.le_of_ble_eq_true rfl) (fun _ => rfl) dX8_mostAlike_93 rfl (fun v1 hx => ?_)
        refine V.goto (q := 51) dX8_mostAlike_96 (by decide) ?_
        refine V.pick [1, 2, 3, 4, 5, 0] rfl ?_
        exact ih l0 l1 l5 l6 l7 v1 h t0 hx
      · refine V.aload_n (j := 0) dX8_mostAlike_73 rfl rfl rfl ?_
        refine U.getP fl_X8_52 t0 dX8_mostAlike_74 rfl ?_
        refine V.iload (j := 3) dX8_mostAlike_77 rfl rfl ?_
        refine U.iald hx (ty_X8_7 t0) dX8_mostAlike_79 rfl (fun hx => ?_)
        refine V.aload_n (j := 0) dX8_mostAlike_80 rfl rfl rfl ?_
        refine U.getP fl_X8_52 t0 dX8_mostAlike_81 rfl ?_
        refine V.iload (j := 5) dX8_mostAlike_84 rfl rfl ?_
        refine U.iald hx (ty_X8_7 t0) dX8_mostAlike_86 rfl (fun hx => ?_)
        refine V.icmp_ne (tgt := 93) hx dX8_mostAlike_87 (by decide) rfl (fun hx => ?_) (fun hx => ?_)
        · refine U.iinc hx (fun v2 => [(8, .int v2), (0, .ref (G.1 + l0)), (1, .int l1), (5, .int l5), (6, .int l6), (7, .int l7)]) (j := 5) rfl (by decide) (Nat.le_of_ble_eq_true rfl) (fun _ => rfl) dX8_mostAlike_93 rfl (fun v2 hx => ?_)
          refine V.goto (q := 51) dX8_mostAlike_96 (by decide) ?_
          refine V.pick [1, 2, 3, 4, 5, 0] rfl ?_
          exact ih l0 l1 l5 l6 l7 v2 h t0 hx
        · refine U.iinc hx (fun v3 => [(7, .int v3), (0, .ref (G.1 + l0)), (1, .int l1), (5, .int l5), (6, .int l6), (8, .int l8)]) (j := 4) rfl (by decide) (Nat.le_of_ble_eq_true rfl) (fun _ => rfl) dX8_mostAlike_90 rfl (fun v3 hx => ?_)
          refine U.iinc hx (fun v4 => [(8, .int v4), (7, .int v3), (0, .ref (G.1 + l0)), (1, .int l1), (5, .int l5), (6, .int l6)]) (j := 5) rfl (by decide) (Nat.le_of_ble_eq_true rfl) (fun _ => rfl) dX8_mostAlike_93 rfl (fun v4 hx => ?_)
          refine V.goto (q := 51) dX8_mostAlike_96 (by decide) ?_
          refine V.pick [2, 3, 4, 5, 1, 0] rfl ?_
          exact ih l0 l1 l5 l6 v3 v4 h t0 hx
set_option maxRecDepth 100000 in
set_option maxHeartbeats 4000000 in
theorem vX8_mostAlike_38 {l : Launch} {G : GG} {EX : State → Prop} (hE : EXB G EX) {r : Int32 × AH} : ∀ (n : Nat) (l0 : Nat) (l1 : Int32) (l5 : Int32) (l6 : Int32) (h : AH) (t0 : KD l0 = 7), fX8_mostAlike_38 n l0 l1 l5 l6 h = some r → U l G EX mi_X8_mostAlike 2 48 (some (.int r.1)) r.2 38 [(0, .ref (G.1 + l0)), (1, .int l1), (5, .int l5), (6, .int l6)] [] h := by
  intro n
  induction n with
  | zero =>
    intro l0 l1 l5 l6 h t0 hx
    have hx : none = some r := hx
    cases hx
  | succ n ih =>
    intro l0 l1 l5 l6 h t0 hx
    rw [fX8_mostAlike_38] at hx
    refine V.iload (j := 3) dX8_mostAlike_38 rfl rfl ?_
    refine V.bipush dX8_mostAlike_40 rfl kb_6 ?_
    refine V.icmp_ge (tgt := 114) hx dX8_mostAlike_42 (by decide) rfl (fun hx => ?_) (fun hx => ?_)
    · refine V.iload (j := 2) dX8_mostAlike_114 rfl rfl ?_
      obtain rfl := Option.some.inj hx
      exact U.retI rfl rfl rfl rfl dX8_mostAlike_116
    · refine V.iconst dX8_mostAlike_45 rfl ki_0 ?_
      refine V.istore [(7, .int (0 : Int32)), (0, .ref (G.1 + l0)), (1, .int l1), (5, .int l5), (6, .int l6)] dX8_mostAlike_46 rfl (Nat.le_of_ble_eq_true rfl) rfl ?_
      refine V.iconst dX8_mostAlike_48 rfl ki_0 ?_
      refine V.istore [(8, .int (0 : Int32)), (7, .int (0 : Int32)), (0, .ref (G.1 + l0)), (1, .int l1), (5, .int l5), (6, .int l6)] dX8_mostAlike_49 rfl (Nat.le_of_ble_eq_true rfl) rfl ?_
      refine V.pick [2, 3, 4, 5, 1, 0] rfl ?_
      refine vX8_mostAlike_51 hE (fun w5 w6 w7 w8 w9 h10 t11 hx => ?_) FU l0 l1 l5 l6 (0 : Int32) (0 : Int32) h t0 hx
      · refine V.iload (j := 2) dX8_mostAlike_99 rfl rfl ?_
        refine V.iload (j := 4) dX8_mostAlike_101 rfl rfl ?_
        refine U.mmax wq_m_X8_345 (Nat.le_of_ble_eq_true rfl) (Nat.le_of_ble_eq_true rfl) dX8_mostAlike_103 rfl ?_
        refine U.letI hx (fun v12 hx => ?_)
        refine V.istore [(5, .int v12), (0, .ref (G.1 + w5)), (1, .int w6), (6, .int w8), (7, .int w9)] dX8_mostAlike_106 rfl (Nat.le_of_ble_eq_true rfl) rfl ?_
        refine U.iinc hx (fun v13 => [(6, .int v13), (5, .int v12), (0, .ref (G.1 + w5)), (1, .int w6), (7, .int w9)]) (j := 3) rfl (by decide) (Nat.le_of_ble_eq_true rfl) (fun _ => rfl) dX8_mostAlike_108 rfl (fun v13 hx => ?_)
        refine V.goto (q := 38) dX8_mostAlike_111 (by decide) ?_
        refine V.pick [2, 3, 1, 0] rfl ?_
        exact ih w5 w6 v12 v13 h10 t11 hx
set_option maxRecDepth 100000 in
set_option maxHeartbeats 4000000 in
theorem vX8_mostAlike_32 {l : Launch} {G : GG} {EX : State → Prop} (hE : EXB G EX) {r : Int32 × AH} : ∀ (l0 : Nat) (l1 : Int32) (h : AH) (t0 : KD l0 = 7), fX8_mostAlike_32 l0 l1 h = some r → U l G EX mi_X8_mostAlike 2 48 (some (.int r.1)) r.2 32 [(0, .ref (G.1 + l0)), (1, .int l1)] [] h := by
  intro l0 l1 h t0 hx
  unfold fX8_mostAlike_32 at hx
  refine V.iconst dX8_mostAlike_32 rfl ki_0 ?_
  refine V.istore [(5, .int (0 : Int32)), (0, .ref (G.1 + l0)), (1, .int l1)] dX8_mostAlike_33 rfl (Nat.le_of_ble_eq_true rfl) rfl ?_
  refine V.iconst dX8_mostAlike_35 rfl ki_0 ?_
  refine V.istore [(6, .int (0 : Int32)), (5, .int (0 : Int32)), (0, .ref (G.1 + l0)), (1, .int l1)] dX8_mostAlike_36 rfl (Nat.le_of_ble_eq_true rfl) rfl ?_
  refine V.pick [2, 3, 1, 0] rfl ?_
  exact vX8_mostAlike_38 hE FU l0 l1 (0 : Int32) (0 : Int32) h t0 hx
set_option maxRecDepth 100000 in
set_option maxHeartbeats 4000000 in
theorem vX8_mostAlike_3 {l : Launch} {G : GG} {EX : State → Prop} (hE : EXB G EX) {r : Int32 × AH} : ∀ (n : Nat) (l0 : Nat) (l1 : Int32) (l2 : Int32) (l3 : Int32) (l4 : Int32) (l5 : Int32) (h : AH) (t0 : KD l0 = 7), fX8_mostAlike_3 n l0 l1 l2 l3 l4 l5 h = some r → U l G EX mi_X8_mostAlike 2 48 (some (.int r.1)) r.2 3 [(0, .ref (G.1 + l0)), (1, .int l1), (2, .int l2), (3, .int l3), (4, .int l4), (5, .int l5)] [] h := by
  intro n
  induction n with
  | zero =>
    intro l0 l1 l2 l3 l4 l5 h t0 hx
    have hx : none = some r := hx
    cases hx
  | succ n ih =>
    intro l0 l1 l2 l3 l4 l5 h t0 hx
    rw [fX8_mostAlike_3] at hx
    refine V.iload (j := 5) dX8_mostAlike_3 rfl rfl ?_
    refine V.bipush dX8_mostAlike_5 rfl kb_6 ?_
    refine V.icmp_ge (tgt := 32) hx dX8_mostAlike_7 (by decide) rfl (fun hx => ?_) (fun hx => ?_)
    · refine V.pick [0, 1] rfl ?_
      exact vX8_mostAlike_32 hE l0 l1 h t0 hx
    · refine V.aload_n (j := 0) dX8_mostAlike_10 rfl rfl rfl ?_
      refine U.getP fl_X8_52 t0 dX8_mostAlike_11 rfl ?_
      refine V.iload (j := 5) dX8_mostAlike_14 rfl rfl ?_
      refine V.iload (j := 5) dX8_mostAlike_16 rfl rfl ?_
      refine V.iload_n (j := 2) dX8_mostAlike_18 rfl rfl rfl ?_
      refine V.iload_n (j := 3) dX8_mostAlike_19 rfl rfl rfl ?_
      refine V.iload (j := 4) dX8_mostAlike_20 rfl rfl ?_
      obtain ⟨v15, q14, hx⟩ := ob_some hx
      refine U.callS (As := [.int l5, .int l2, .int l3, .int l4]) (rest := [.int l5, .ref (G.1 + (PC l0 7))]) (st' := [.int v15, .int l5, .ref (G.1 + (PC l0 7))]) hE.1 (mX1_pullBy hE q14) mic_X1_pullBy rfl wq_m_X8_342 wq_t_yX1_pullBy ⟨Nat.le_of_ble_eq_true rfl, Nat.le_of_ble_eq_true rfl⟩ (Nat.le_of_ble_eq_true rfl) dX8_mostAlike_22 rfl rfl rfl ?_
      refine U.iast hx (ty_X8_7 t0) dX8_mostAlike_25 rfl (fun h16 hx => ?_)
      refine U.iinc hx (fun v17 => [(5, .int v17), (0, .ref (G.1 + l0)), (1, .int l1), (2, .int l2), (3, .int l3), (4, .int l4)]) (j := 5) rfl (by decide) (Nat.le_of_ble_eq_true rfl) (fun _ => rfl) dX8_mostAlike_26 rfl (fun v17 hx => ?_)
      refine V.goto (q := 3) dX8_mostAlike_29 (by decide) ?_
      refine V.pick [1, 2, 3, 4, 5, 0] rfl ?_
      exact ih l0 l1 l2 l3 l4 v17 h16 t0 hx
set_option maxRecDepth 100000 in
set_option maxHeartbeats 4000000 in
theorem mX8_mostAlike {l : Launch} {G : GG} {EX : State → Prop} (hE : EXB G EX) {th : Nat} {a1 : Int32} {a2 : Int32} {a3 : Int32} {a4 : Int32} {h : AH} (t0 : KD th = 7) {r : Int32 × AH} (hx : fX8_mostAlike th a1 a2 a3 a4 h = some r) : MetU l G EX mi_X8_mostAlike 2 48 [.ref (G.1 + th), .int a1, .int a2, .int a3, .int a4] h (some (.int r.1)) r.2 := by
  refine MetU.of mic_X8_mostAlike.1 (Nat.le_of_ble_eq_true rfl) ?_
  refine show U l G EX mi_X8_mostAlike 2 48 (some (.int r.1)) r.2 0 [(0, .ref (G.1 + th)), (1, .int a1), (2, .int a2), (3, .int a3), (4, .int a4)] [] h from ?_
  unfold fX8_mostAlike at hx
  refine V.iconst dX8_mostAlike_0 rfl ki_0 ?_
  refine V.istore [(5, .int (0 : Int32)), (0, .ref (G.1 + th)), (1, .int a1), (2, .int a2), (3, .int a3), (4, .int a4)] dX8_mostAlike_1 rfl (Nat.le_of_ble_eq_true rfl) rfl ?_
  refine V.pick [1, 2, 3, 4, 5, 0] rfl ?_
  exact vX8_mostAlike_3 hE FU th a1 a2 a3 a4 (0 : Int32) h t0 hx
