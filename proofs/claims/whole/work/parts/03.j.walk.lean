set_option maxRecDepth 100000 in
set_option maxHeartbeats 4000000 in
theorem vX9_years_24 {l : Launch} {G : GG} {EX : State → Prop} (hE : EXB G EX) {r : Int32 × AH} : ∀ (l0 : Nat) (h : AH) (t0 : KD l0 = 8), fX9_years_24 l0 h = some r → U l G EX mi_X9_years 7 168 (some (.int r.1)) r.2 24 [(0, .ref (G.1 + l0))] [] h := by
  intro l0 h t0 hx
  unfold fX9_years_24 at hx
  refine V.aload_n (j := 0) dX9_years_24 rfl rfl rfl ?_
  refine V.bipush dX9_years_25 rfl kb_m2 ?_
  obtain ⟨v5, h4, q3, hx⟩ := ob2_some hx
  refine U.callV (As := [.int (-2 : Int32)]) (rest := []) (st' := [.int v5]) hE.1 (mX9_bad hE t0 q3) mic_X9_bad rfl t0 (by decide) rfl rfl wq_m_X9_78 wq_i_yX9_bad wq_s_yX9_bad ⟨Nat.le_of_ble_eq_true rfl, Nat.le_of_ble_eq_true rfl⟩ (Nat.le_of_ble_eq_true rfl) dX9_years_27 rfl rfl rfl ?_
  obtain rfl := Option.some.inj hx
  exact U.retI rfl rfl rfl rfl dX9_years_30
set_option maxRecDepth 100000 in
set_option maxHeartbeats 4000000 in
theorem vX9_years_40 {l : Launch} {G : GG} {EX : State → Prop} (hE : EXB G EX) {r : Int32 × AH} : ∀ (n : Nat) (l0 : Nat) (l2 : Int32) (l3 : Int64) (l5 : Int32) (l6 : Int32) (h : AH) (t0 : KD l0 = 8), fX9_years_40 n l0 l2 l3 l5 l6 h = some r → U l G EX mi_X9_years 7 168 (some (.int r.1)) r.2 40 [(0, .ref (G.1 + l0)), (2, .int l2), (3, .long l3), (5, .int l5), (6, .int l6)] [] h := by
  intro n
  induction n with
  | zero =>
    intro l0 l2 l3 l5 l6 h t0 hx
    have hx : none = some r := hx
    cases hx
  | succ n ih =>
    intro l0 l2 l3 l5 l6 h t0 hx
    rw [fX9_years_40] at hx
    refine V.iload (j := 4) dX9_years_40 rfl rfl ?_
    refine V.iload_n (j := 1) dX9_years_42 rfl rfl rfl ?_
    refine V.icmp_ge (tgt := 111) hx dX9_years_43 (by decide) rfl (fun hx => ?_) (fun hx => ?_)
    · refine V.iload (j := 3) dX9_years_111 rfl rfl ?_
      obtain rfl := Option.some.inj hx
      exact U.retI rfl rfl rfl rfl dX9_years_113
    · refine V.lload_n (j := 2) dX9_years_46 rfl rfl rfl ?_
      refine V.ldc2_w dX9_years_47 rfl wq_l_X9_220 ?_
      refine V.lmul dX9_years_50 rfl ?_
      refine V.ldc2_w dX9_years_51 rfl wq_l_X9_222 ?_
      refine V.ladd dX9_years_54 rfl ?_
      refine V.ldc2_w dX9_years_55 rfl wq_l_X9_224 ?_
      refine V.lrem dX9_years_58 rfl (by decide) ?_
      refine U.letJ hx (fun v9 hx => ?_)
      refine V.lstore_n [(3, .long v9), (0, .ref (G.1 + l0)), (2, .int l2), (5, .int l5), (6, .int l6)] dX9_years_59 rfl rfl (Nat.le_of_ble_eq_true rfl) rfl ?_
      refine V.iload (j := 3) dX9_years_60 rfl rfl ?_
      refine V.aload_n (j := 1) dX9_years_62 rfl rfl rfl ?_
      refine U.getP fl_X9_7 t0 dX9_years_63 rfl ?_
      refine V.lload_n (j := 0) dX9_years_66 rfl rfl rfl ?_
      refine V.ldc2_w dX9_years_67 rfl wq_l_X9_226 ?_
      refine V.ldiv dX9_years_70 rfl (by decide) ?_
      refine V.ldc2_w dX9_years_71 rfl wq_l_X9_228 ?_
      refine V.lrem dX9_years_74 rfl (by decide) ?_
      refine V.l2i dX9_years_75 rfl ?_
      refine V.aload_n (j := 1) dX9_years_76 rfl rfl rfl ?_
      refine U.getP fl_X9_7 t0 dX9_years_77 rfl ?_
      obtain ⟨v11, q10, hx⟩ := ob_some hx
      refine U.callS (As := [.ref (G.1 + (PC l0 0))]) (rest := [.int ((jremL (v9 / (65536 : Int64)) (30 : Int64)).toInt32), .ref (G.1 + (PC l0 0)), .int l5]) (st' := [.int v11, .int ((jremL (v9 / (65536 : Int64)) (30 : Int64)).toInt32), .ref (G.1 + (PC l0 0)), .int l5]) hE.1 (mX9_isOn hE (ty_X9_0 t0) q10) mic_X9_isOn rfl wq_m_X9_133 wq_t_yX9_isOn ⟨Nat.le_of_ble_eq_true rfl, Nat.le_of_ble_eq_true rfl⟩ (Nat.le_of_ble_eq_true rfl) dX9_years_80 rfl rfl rfl ?_
      refine V.aload_n (j := 1) dX9_years_83 rfl rfl rfl ?_
      refine U.getP fl_X9_7 t0 dX9_years_84 rfl ?_
      refine V.bipush dX9_years_87 rfl kb_13 ?_
      refine U.iald hx (ty_X9_0 t0) dX9_years_89 rfl (fun hx => ?_)
      refine V.iload (j := 4) dX9_years_90 rfl rfl ?_
      refine V.iadd dX9_years_92 rfl ?_
      refine V.bipush dX9_years_93 rfl kb_12 ?_
      refine V.irem dX9_years_95 rfl (by decide) ?_
      obtain ⟨v13, q12, hx⟩ := ob_some hx
      refine U.callS (As := [.ref (G.1 + (PC l0 0)), .int ((jremL (v9 / (65536 : Int64)) (30 : Int64)).toInt32), .int v11, .int (jrem ((hI h (PC l0 0) (ix (13 : Int32))) + l6) (12 : Int32))]) (rest := [.int l5]) (st' := [.int v13, .int l5]) hE.1 (mX9_whoSees hE (ty_X9_0 t0) q12) mic_X9_whoSees rfl wq_m_X9_137 wq_t_yX9_whoSees ⟨Nat.le_of_ble_eq_true rfl, Nat.le_of_ble_eq_true rfl⟩ (Nat.le_of_ble_eq_true rfl) dX9_years_96 rfl rfl rfl ?_
      obtain ⟨v15, q14, hx⟩ := ob_some hx
      refine U.callS (As := [.int v13]) (rest := [.int l5]) (st' := [.int v15, .int l5]) hE.1 (mX9_bits hE q14) mic_X9_bits rfl wq_m_X9_183 wq_t_yX9_bits ⟨Nat.le_of_ble_eq_true rfl, Nat.le_of_ble_eq_true rfl⟩ (Nat.le_of_ble_eq_true rfl) dX9_years_99 rfl rfl rfl ?_
      refine V.iadd dX9_years_102 rfl ?_
      refine U.letI hx (fun v16 hx => ?_)
      refine V.istore [(5, .int v16), (3, .long v9), (0, .ref (G.1 + l0)), (2, .int l2), (6, .int l6)] dX9_years_103 rfl (Nat.le_of_ble_eq_true rfl) rfl ?_
      refine U.iinc hx (fun v17 => [(6, .int v17), (5, .int v16), (3, .long v9), (0, .ref (G.1 + l0)), (2, .int l2)]) (j := 4) rfl (by decide) (Nat.le_of_ble_eq_true rfl) (fun _ => rfl) dX9_years_105 rfl (fun v17 hx => ?_)
      refine V.goto (q := 40) dX9_years_108 (by decide) ?_
      refine V.pick [3, 4, 2, 1, 0] rfl ?_
      exact ih l0 l2 v9 v16 v17 h t0 hx
set_option maxRecDepth 100000 in
set_option maxHeartbeats 4000000 in
theorem mX9_years {l : Launch} {G : GG} {EX : State → Prop} (hE : EXB G EX) {th : Nat} {a1 : Int32} {a2 : Int32} {h : AH} (t0 : KD th = 8) {r : Int32 × AH} (hx : fX9_years th a1 a2 h = some r) : MetU l G EX mi_X9_years 7 168 [.ref (G.1 + th), .int a1, .int a2] h (some (.int r.1)) r.2 := by
  refine MetU.of mic_X9_years.1 (Nat.le_of_ble_eq_true rfl) ?_
  refine show U l G EX mi_X9_years 7 168 (some (.int r.1)) r.2 0 [(0, .ref (G.1 + th)), (1, .int a1), (2, .int a2)] [] h from ?_
  unfold fX9_years at hx
  refine V.iload_n (j := 1) dX9_years_0 rfl rfl rfl ?_
  refine V.i2l dX9_years_1 rfl ?_
  refine V.lconst dX9_years_2 rfl kl_0 ?_
  refine V.ldc2_w dX9_years_3 rfl wq_l_X9_216 ?_
  obtain ⟨v2, q1, hx⟩ := ob_some hx
  refine U.callS (As := [.long a1.toInt64, .long (0 : Int64), .long (999999 : Int64)]) (rest := []) (st' := [.int v2]) hE.1 (mX9_in hE q1) mic_X9_in rfl wq_m_X9_59 wq_t_yX9_in ⟨Nat.le_of_ble_eq_true rfl, Nat.le_of_ble_eq_true rfl⟩ (Nat.le_of_ble_eq_true rfl) dX9_years_6 rfl rfl rfl ?_
  refine V.if_eq (tgt := 24) hx dX9_years_9 (by decide) rfl (fun hx => ?_) (fun hx => ?_)
  · refine V.pick [0] rfl ?_
    exact vX9_years_24 hE th h t0 hx
  · refine V.iload_n (j := 2) dX9_years_12 rfl rfl rfl ?_
    refine V.i2l dX9_years_13 rfl ?_
    refine V.lconst dX9_years_14 rfl kl_0 ?_
    refine V.ldc2_w dX9_years_15 rfl wq_l_X9_218 ?_
    obtain ⟨v7, q6, hx⟩ := ob_some hx
    refine U.callS (As := [.long a2.toInt64, .long (0 : Int64), .long (60 : Int64)]) (rest := []) (st' := [.int v7]) hE.1 (mX9_in hE q6) mic_X9_in rfl wq_m_X9_59 wq_t_yX9_in ⟨Nat.le_of_ble_eq_true rfl, Nat.le_of_ble_eq_true rfl⟩ (Nat.le_of_ble_eq_true rfl) dX9_years_18 rfl rfl rfl ?_
    refine V.if_ne (tgt := 31) hx dX9_years_21 (by decide) rfl (fun hx => ?_) (fun hx => ?_)
    · refine V.iload_n (j := 1) dX9_years_31 rfl rfl rfl ?_
      refine V.i2l dX9_years_32 rfl ?_
      refine U.letJ hx (fun v8 hx => ?_)
      refine V.lstore_n [(3, .long v8), (0, .ref (G.1 + th)), (1, .int a1), (2, .int a2)] dX9_years_33 rfl rfl (Nat.le_of_ble_eq_true rfl) rfl ?_
      refine V.iconst dX9_years_34 rfl ki_0 ?_
      refine V.istore [(5, .int (0 : Int32)), (3, .long v8), (0, .ref (G.1 + th)), (1, .int a1), (2, .int a2)] dX9_years_35 rfl (Nat.le_of_ble_eq_true rfl) rfl ?_
      refine V.iconst dX9_years_37 rfl ki_0 ?_
      refine V.istore [(6, .int (0 : Int32)), (5, .int (0 : Int32)), (3, .long v8), (0, .ref (G.1 + th)), (1, .int a1), (2, .int a2)] dX9_years_38 rfl (Nat.le_of_ble_eq_true rfl) rfl ?_
      refine V.pick [3, 5, 2, 1, 0] rfl ?_
      exact vX9_years_40 hE FU th a2 v8 (0 : Int32) (0 : Int32) h t0 hx
    · refine V.pick [0] rfl ?_
      exact vX9_years_24 hE th h t0 hx
set_option maxRecDepth 100000 in
set_option maxHeartbeats 4000000 in
theorem mX9_type {l : Launch} {G : GG} {EX : State → Prop} (hE : EXB G EX) {th : Nat} {a1 : Int32} {h : AH} (t0 : KD th = 8) {r : Int32 × AH} (hx : fX9_type th a1 h = some r) : MetU l G EX mi_X9_type 1 25 [.ref (G.1 + th), .int a1] h (some (.int r.1)) r.2 := by
  refine MetU.of mic_X9_type.1 (Nat.le_of_ble_eq_true rfl) ?_
  refine show U l G EX mi_X9_type 1 25 (some (.int r.1)) r.2 0 [(0, .ref (G.1 + th)), (1, .int a1)] [] h from ?_
  unfold fX9_type at hx
  refine V.iload_n (j := 1) dX9_type_0 rfl rfl rfl ?_
  refine V.i2l dX9_type_1 rfl ?_
  refine V.lconst dX9_type_2 rfl kl_0 ?_
  refine V.ldc2_w dX9_type_3 rfl wq_l_X9_230 ?_
  obtain ⟨v2, q1, hx⟩ := ob_some hx
  refine U.callS (As := [.long a1.toInt64, .long (0 : Int64), .long (127 : Int64)]) (rest := []) (st' := [.int v2]) hE.1 (mX9_in hE q1) mic_X9_in rfl wq_m_X9_59 wq_t_yX9_in ⟨Nat.le_of_ble_eq_true rfl, Nat.le_of_ble_eq_true rfl⟩ (Nat.le_of_ble_eq_true rfl) dX9_type_6 rfl rfl rfl ?_
  refine V.if_ne (tgt := 19) hx dX9_type_9 (by decide) rfl (fun hx => ?_) (fun hx => ?_)
  · refine V.aload_n (j := 0) dX9_type_19 rfl rfl rfl ?_
    refine U.getI fl_X9_232 t0 dX9_type_20 rfl ?_
    refine V.sipush dX9_type_23 rfl ks_150 ?_
    refine V.icmp_ne (tgt := 34) hx dX9_type_26 (by decide) rfl (fun hx => ?_) (fun hx => ?_)
    · refine V.aload_n (j := 0) dX9_type_34 rfl rfl rfl ?_
      refine U.getP fl_X9_42 t0 dX9_type_35 rfl ?_
      refine V.aload_n (j := 0) dX9_type_38 rfl rfl rfl ?_
      refine U.getI fl_X9_232 t0 dX9_type_39 rfl ?_
      refine V.iload_n (j := 1) dX9_type_42 rfl rfl rfl ?_
      refine U.iast hx (ty_X9_11 t0) dX9_type_43 rfl (fun h3 hx => ?_)
      refine V.aload_n (j := 0) dX9_type_44 rfl rfl rfl ?_
      refine V.dup dX9_type_45 rfl rfl ?_
      refine U.getI fl_X9_232 t0 dX9_type_46 rfl ?_
      refine V.iconst dX9_type_49 rfl ki_1 ?_
      refine V.iadd dX9_type_50 rfl ?_
      refine U.putI hx fl_X9_232 t0 rfl rfl dX9_type_51 rfl (fun h4 hx => ?_)
      refine V.aload_n (j := 0) dX9_type_54 rfl rfl rfl ?_
      refine U.getI fl_X9_232 t0 dX9_type_55 rfl ?_
      obtain rfl := Option.some.inj hx
      exact U.retI rfl rfl rfl rfl dX9_type_58
    · refine V.aload_n (j := 0) dX9_type_29 rfl rfl rfl ?_
      obtain ⟨v7, h6, q5, hx⟩ := ob2_some hx
      refine U.callV (As := []) (rest := []) (st' := [.int v7]) hE.1 (mX9_full hE t0 q5) mic_X9_full rfl t0 (by decide) rfl rfl wq_m_X9_82 wq_i_yX9_full wq_s_yX9_full ⟨Nat.le_of_ble_eq_true rfl, Nat.le_of_ble_eq_true rfl⟩ (Nat.le_of_ble_eq_true rfl) dX9_type_30 rfl rfl rfl ?_
      obtain rfl := Option.some.inj hx
      exact U.retI rfl rfl rfl rfl dX9_type_33
  · refine V.aload_n (j := 0) dX9_type_12 rfl rfl rfl ?_
    refine V.bipush dX9_type_13 rfl kb_m2 ?_
    obtain ⟨v10, h9, q8, hx⟩ := ob2_some hx
    refine U.callV (As := [.int (-2 : Int32)]) (rest := []) (st' := [.int v10]) hE.1 (mX9_bad hE t0 q8) mic_X9_bad rfl t0 (by decide) rfl rfl wq_m_X9_78 wq_i_yX9_bad wq_s_yX9_bad ⟨Nat.le_of_ble_eq_true rfl, Nat.le_of_ble_eq_true rfl⟩ (Nat.le_of_ble_eq_true rfl) dX9_type_15 rfl rfl rfl ?_
    obtain rfl := Option.some.inj hx
    exact U.retI rfl rfl rfl rfl dX9_type_18
set_option maxRecDepth 100000 in
set_option maxHeartbeats 4000000 in
theorem mX9_clear {l : Launch} {G : GG} {EX : State → Prop} (hE : EXB G EX) {th : Nat} {h : AH} (t0 : KD th = 8) {r : Int32 × AH} (hx : fX9_clear th h = some r) : MetU l G EX mi_X9_clear 0 0 [.ref (G.1 + th)] h (some (.int r.1)) r.2 := by
  refine MetU.of mic_X9_clear.1 (Nat.le_of_ble_eq_true rfl) ?_
  refine show U l G EX mi_X9_clear 0 0 (some (.int r.1)) r.2 0 [(0, .ref (G.1 + th))] [] h from ?_
  unfold fX9_clear at hx
  refine V.aload_n (j := 0) dX9_clear_0 rfl rfl rfl ?_
  refine U.getI fl_X9_232 t0 dX9_clear_1 rfl ?_
  refine U.letI hx (fun v1 hx => ?_)
  refine V.istore_n [(1, .int v1), (0, .ref (G.1 + th))] dX9_clear_4 rfl rfl (Nat.le_of_ble_eq_true rfl) rfl ?_
  refine V.aload_n (j := 1) dX9_clear_5 rfl rfl rfl ?_
  refine V.iconst dX9_clear_6 rfl ki_0 ?_
  refine U.putI hx fl_X9_232 t0 rfl rfl dX9_clear_7 rfl (fun h2 hx => ?_)
  refine V.iload_n (j := 0) dX9_clear_10 rfl rfl rfl ?_
  obtain rfl := Option.some.inj hx
  exact U.retI rfl rfl rfl rfl dX9_clear_11
set_option maxRecDepth 100000 in
set_option maxHeartbeats 4000000 in
theorem mX9_isSmall {l : Launch} {G : GG} {EX : State → Prop} (hE : EXB G EX) {a0 : Int32} {h : AH} {r : Int32} (hx : fX9_isSmall a0 = some r) : MetU l G EX mi_X9_isSmall 1 25 [.int a0] h (some (.int r)) h := by
  refine MetU.of mic_X9_isSmall.1 (Nat.le_of_ble_eq_true rfl) ?_
  refine show U l G EX mi_X9_isSmall 1 25 (some (.int r)) h 0 [(0, .int a0)] [] h from ?_
  unfold fX9_isSmall at hx
  refine V.iload_n (j := 0) dX9_isSmall_0 rfl rfl rfl ?_
  refine V.i2l dX9_isSmall_1 rfl ?_
  refine V.ldc2_w dX9_isSmall_2 rfl wq_l_X9_236 ?_
  refine V.ldc2_w dX9_isSmall_5 rfl wq_l_X9_238 ?_
  obtain ⟨v2, q1, hx⟩ := ob_some hx
  refine U.callS (As := [.long a0.toInt64, .long (97 : Int64), .long (122 : Int64)]) (rest := []) (st' := [.int v2]) hE.1 (mX9_in hE q1) mic_X9_in rfl wq_m_X9_59 wq_t_yX9_in ⟨Nat.le_of_ble_eq_true rfl, Nat.le_of_ble_eq_true rfl⟩ (Nat.le_of_ble_eq_true rfl) dX9_isSmall_8 rfl rfl rfl ?_
  obtain ⟨g3, hx⟩ := oG_some hx
  obtain rfl := Option.some.inj hx
  exact U.retI rfl rfl rfl (isB_nar g3) dX9_isSmall_11
set_option maxRecDepth 100000 in
set_option maxHeartbeats 4000000 in
theorem mX9_isFigure {l : Launch} {G : GG} {EX : State → Prop} (hE : EXB G EX) {a0 : Int32} {h : AH} {r : Int32} (hx : fX9_isFigure a0 = some r) : MetU l G EX mi_X9_isFigure 1 25 [.int a0] h (some (.int r)) h := by
  refine MetU.of mic_X9_isFigure.1 (Nat.le_of_ble_eq_true rfl) ?_
  refine show U l G EX mi_X9_isFigure 1 25 (some (.int r)) h 0 [(0, .int a0)] [] h from ?_
  unfold fX9_isFigure at hx
  refine V.iload_n (j := 0) dX9_isFigure_0 rfl rfl rfl ?_
  refine V.i2l dX9_isFigure_1 rfl ?_
  refine V.ldc2_w dX9_isFigure_2 rfl wq_l_X9_240 ?_
  refine V.ldc2_w dX9_isFigure_5 rfl wq_l_X9_242 ?_
  obtain ⟨v2, q1, hx⟩ := ob_some hx
  refine U.callS (As := [.long a0.toInt64, .long (48 : Int64), .long (57 : Int64)]) (rest := []) (st' := [.int v2]) hE.1 (mX9_in hE q1) mic_X9_in rfl wq_m_X9_59 wq_t_yX9_in ⟨Nat.le_of_ble_eq_true rfl, Nat.le_of_ble_eq_true rfl⟩ (Nat.le_of_ble_eq_true rfl) dX9_isFigure_8 rfl rfl rfl ?_
  obtain ⟨g3, hx⟩ := oG_some hx
  obtain rfl := Option.some.inj hx
  exact U.retI rfl rfl rfl (isB_nar g3) dX9_isFigure_11
set_option maxRecDepth 100000 in
set_option maxHeartbeats 4000000 in
theorem vX9_lookAt_299 {l : Launch} {G : GG} {EX : State → Prop} (hE : EXB G EX) {r : AH} : ∀ (s0 : Nat) (s1 : Int32) (h : AH) (ts0 : KD s0 = 8), fX9_lookAt_299 s0 s1 h = some r → U l G EX mi_X9_lookAt 2 45 none r 299 [] [.int s1, .ref (G.1 + s0)] h := by
  intro s0 s1 h ts0 hx
  unfold fX9_lookAt_299 at hx
  refine U.putI hx fl_X9_250 ts0 rfl rfl dX9_lookAt_299 rfl (fun h12 hx => ?_)
  obtain rfl := Option.some.inj hx
  exact U.ret0 rfl rfl rfl dX9_lookAt_302
set_option maxRecDepth 100000 in
set_option maxHeartbeats 4000000 in
theorem vX9_lookAt_295 {l : Launch} {G : GG} {EX : State → Prop} (hE : EXB G EX) {r : AH} : ∀ (l0 : Nat) (s0 : Nat) (h : AH) (t0 : KD l0 = 8) (ts0 : KD s0 = 8), fX9_lookAt_295 l0 s0 h = some r → U l G EX mi_X9_lookAt 2 45 none r 295 [(0, .ref (G.1 + l0))] [.ref (G.1 + s0)] h := by
  intro l0 s0 h t0 ts0 hx
  unfold fX9_lookAt_295 at hx
  refine V.aload_n (j := 0) dX9_lookAt_295 rfl rfl rfl ?_
  refine U.getI fl_X9_250 t0 dX9_lookAt_296 rfl ?_
  refine V.pick [] rfl ?_
  exact vX9_lookAt_299 hE s0 (hI h l0 15) h ts0 hx
set_option maxRecDepth 100000 in
set_option maxHeartbeats 4000000 in
theorem vX9_lookAt_274 {l : Launch} {G : GG} {EX : State → Prop} (hE : EXB G EX) {r : AH} : ∀ (l0 : Nat) (h : AH) (t0 : KD l0 = 8), fX9_lookAt_274 l0 h = some r → U l G EX mi_X9_lookAt 2 45 none r 274 [(0, .ref (G.1 + l0))] [] h := by
  intro l0 h t0 hx
  unfold fX9_lookAt_274 at hx
  refine V.aload_n (j := 0) dX9_lookAt_274 rfl rfl rfl ?_
  refine V.aload_n (j := 0) dX9_lookAt_275 rfl rfl rfl ?_
  refine U.getI fl_X9_250 t0 dX9_lookAt_276 rfl ?_
  refine V.iconst dX9_lookAt_279 rfl ki_2 ?_
  refine V.icmp_ne (tgt := 295) hx dX9_lookAt_280 (by decide) rfl (fun hx => ?_) (fun hx => ?_)
  · exact vX9_lookAt_295 hE l0 l0 h t0 t0 hx
  · refine V.aload_n (j := 0) dX9_lookAt_283 rfl rfl rfl ?_
    refine U.getI fl_X9_247 t0 dX9_lookAt_284 rfl ?_
    refine V.iconst dX9_lookAt_287 rfl ki_2 ?_
    refine V.icmp_le (tgt := 295) hx dX9_lookAt_288 (by decide) rfl (fun hx => ?_) (fun hx => ?_)
    · exact vX9_lookAt_295 hE l0 l0 h t0 t0 hx
    · refine V.iconst dX9_lookAt_291 rfl ki_4 ?_
      refine V.goto (q := 299) dX9_lookAt_292 (by decide) ?_
      refine V.pick [] rfl ?_
      exact vX9_lookAt_299 hE l0 (4 : Int32) h t0 hx
set_option maxRecDepth 100000 in
set_option maxHeartbeats 4000000 in
theorem vX9_lookAt_218 {l : Launch} {G : GG} {EX : State → Prop} (hE : EXB G EX) {r : AH} : ∀ (n : Nat) (l0 : Nat) (l4 : Int32) (h : AH) (t0 : KD l0 = 8), fX9_lookAt_218 n l0 l4 h = some r → U l G EX mi_X9_lookAt 2 45 none r 218 [(0, .ref (G.1 + l0)), (4, .int l4)] [] h := by
  intro n
  induction n with
  | zero =>
    intro l0 l4 h t0 hx
    have hx : none = some r := hx
    cases hx
  | succ n ih =>
    intro l0 l4 h t0 hx
    rw [fX9_lookAt_218] at hx
    refine V.iload (j := 1) dX9_lookAt_218 rfl rfl ?_
    refine V.aload_n (j := 0) dX9_lookAt_220 rfl rfl rfl ?_
    refine U.getI fl_X9_247 t0 dX9_lookAt_221 rfl ?_
    refine V.icmp_ge (tgt := 274) hx dX9_lookAt_224 (by decide) rfl (fun hx => ?_) (fun hx => ?_)
    · refine V.pick [0] rfl ?_
      exact vX9_lookAt_274 hE l0 h t0 hx
    · refine V.iload (j := 1) dX9_lookAt_227 rfl rfl ?_
      refine V.iconst dX9_lookAt_229 rfl ki_2 ?_
      refine V.icmp_ge (tgt := 274) hx dX9_lookAt_230 (by decide) rfl (fun hx => ?_) (fun hx => ?_)
      · refine V.pick [0] rfl ?_
        exact vX9_lookAt_274 hE l0 h t0 hx
      · refine V.aload_n (j := 0) dX9_lookAt_233 rfl rfl rfl ?_
        refine U.getI fl_X9_250 t0 dX9_lookAt_234 rfl ?_
        refine V.iconst dX9_lookAt_237 rfl ki_2 ?_
        refine V.icmp_ne (tgt := 274) hx dX9_lookAt_238 (by decide) rfl (fun hx => ?_) (fun hx => ?_)
        · refine V.pick [0] rfl ?_
          exact vX9_lookAt_274 hE l0 h t0 hx
        · refine V.aload_n (j := 0) dX9_lookAt_241 rfl rfl rfl ?_
          refine V.bipush dX9_lookAt_242 rfl kb_10 ?_
          refine V.aload_n (j := 0) dX9_lookAt_244 rfl rfl rfl ?_
          refine U.getI fl_X9_253 t0 dX9_lookAt_245 rfl ?_
          refine V.imul dX9_lookAt_248 rfl ?_
          refine V.aload_n (j := 0) dX9_lookAt_249 rfl rfl rfl ?_
          refine U.getP fl_X9_42 t0 dX9_lookAt_250 rfl ?_
          refine V.aload_n (j := 0) dX9_lookAt_253 rfl rfl rfl ?_
          refine U.getI fl_X9_244 t0 dX9_lookAt_254 rfl ?_
          refine V.iload (j := 1) dX9_lookAt_257 rfl rfl ?_
          refine V.iadd dX9_lookAt_259 rfl ?_
          refine U.iald hx (ty_X9_11 t0) dX9_lookAt_260 rfl (fun hx => ?_)
          refine V.iadd dX9_lookAt_261 rfl ?_
          refine V.bipush dX9_lookAt_262 rfl kb_48 ?_
          refine V.isub dX9_lookAt_264 rfl ?_
          refine U.putI hx fl_X9_253 t0 rfl rfl dX9_lookAt_265 rfl (fun h13 hx => ?_)
          refine U.iinc hx (fun v14 => [(4, .int v14), (0, .ref (G.1 + l0))]) (j := 1) rfl (by decide) (Nat.le_of_ble_eq_true rfl) (fun _ => rfl) dX9_lookAt_268 rfl (fun v14 hx => ?_)
          refine V.goto (q := 218) dX9_lookAt_271 (by decide) ?_
          refine V.pick [1, 0] rfl ?_
          exact ih l0 v14 h13 t0 hx
set_option maxRecDepth 100000 in
set_option maxHeartbeats 4000000 in
theorem vX9_lookAt_215 {l : Launch} {G : GG} {EX : State → Prop} (hE : EXB G EX) {r : AH} : ∀ (l0 : Nat) (h : AH) (t0 : KD l0 = 8), fX9_lookAt_215 l0 h = some r → U l G EX mi_X9_lookAt 2 45 none r 215 [(0, .ref (G.1 + l0))] [] h := by
  intro l0 h t0 hx
  unfold fX9_lookAt_215 at hx
  refine V.iconst dX9_lookAt_215 rfl ki_0 ?_
  refine V.istore [(4, .int (0 : Int32)), (0, .ref (G.1 + l0))] dX9_lookAt_216 rfl (Nat.le_of_ble_eq_true rfl) rfl ?_
  refine V.pick [1, 0] rfl ?_
  exact vX9_lookAt_218 hE FU l0 (0 : Int32) h t0 hx
set_option maxRecDepth 100000 in
set_option maxHeartbeats 4000000 in
theorem vX9_lookAt_208 {l : Launch} {G : GG} {EX : State → Prop} (hE : EXB G EX) {r : AH} {k136 : Nat → Int32 → AH → Option (AH)} (hk136 : ∀ (l0 : Nat) (l3 : Int32) (h : AH) (t0 : KD l0 = 8), k136 l0 l3 h = some r → U l G EX mi_X9_lookAt 2 45 none r 136 [(0, .ref (G.1 + l0)), (3, .int l3)] [] h) : ∀ (l0 : Nat) (l3 : Int32) (s0 : Nat) (s1 : Int32) (s2 : Int32) (h : AH) (t0 : KD l0 = 8) (ts0 : KD s0 = 8), fX9_lookAt_208 k136 l0 l3 s0 s1 s2 h = some r → U l G EX mi_X9_lookAt 2 45 none r 208 [(0, .ref (G.1 + l0)), (3, .int l3)] [.int s2, .int s1, .ref (G.1 + s0)] h := by
  intro l0 l3 s0 s1 s2 h t0 ts0 hx
  unfold fX9_lookAt_208 at hx
  refine V.iadd dX9_lookAt_208 rfl ?_
  refine U.putI hx fl_X9_247 ts0 rfl rfl dX9_lookAt_209 rfl (fun h18 hx => ?_)
  refine V.goto (q := 136) dX9_lookAt_212 (by decide) ?_
  exact hk136 l0 l3 h18 t0 hx
set_option maxRecDepth 100000 in
set_option maxHeartbeats 4000000 in
theorem vX9_lookAt_193 {l : Launch} {G : GG} {EX : State → Prop} (hE : EXB G EX) {r : AH} {k136 : Nat → Int32 → AH → Option (AH)} (hk136 : ∀ (l0 : Nat) (l3 : Int32) (h : AH) (t0 : KD l0 = 8), k136 l0 l3 h = some r → U l G EX mi_X9_lookAt 2 45 none r 136 [(0, .ref (G.1 + l0)), (3, .int l3)] [] h) : ∀ (l0 : Nat) (s0 : Int32) (h : AH) (t0 : KD l0 = 8), fX9_lookAt_193 k136 l0 s0 h = some r → U l G EX mi_X9_lookAt 2 45 none r 193 [(0, .ref (G.1 + l0))] [.int s0] h := by
  intro l0 s0 h t0 hx
  unfold fX9_lookAt_193 at hx
  refine V.istore_n [(3, .int s0), (0, .ref (G.1 + l0))] dX9_lookAt_193 rfl rfl (Nat.le_of_ble_eq_true rfl) rfl ?_
  refine V.aload_n (j := 1) dX9_lookAt_194 rfl rfl rfl ?_
  refine V.dup dX9_lookAt_195 rfl rfl ?_
  refine U.getI fl_X9_247 t0 dX9_lookAt_196 rfl ?_
  refine V.iload_n (j := 0) dX9_lookAt_199 rfl rfl rfl ?_
  refine V.if_eq (tgt := 207) hx dX9_lookAt_200 (by decide) rfl (fun hx => ?_) (fun hx => ?_)
  · refine V.iconst dX9_lookAt_207 rfl ki_0 ?_
    refine V.pick [1, 0] rfl ?_
    exact vX9_lookAt_208 hE hk136 l0 s0 l0 (hI h l0 14) (0 : Int32) h t0 t0 hx
  · refine V.iconst dX9_lookAt_203 rfl ki_1 ?_
    refine V.goto (q := 208) dX9_lookAt_204 (by decide) ?_
    refine V.pick [1, 0] rfl ?_
    exact vX9_lookAt_208 hE hk136 l0 s0 l0 (hI h l0 14) (1 : Int32) h t0 t0 hx
set_option maxRecDepth 100000 in
set_option maxHeartbeats 4000000 in
theorem vX9_lookAt_136 {l : Launch} {G : GG} {EX : State → Prop} (hE : EXB G EX) {r : AH} : ∀ (n : Nat) (l0 : Nat) (l3 : Int32) (h : AH) (t0 : KD l0 = 8), fX9_lookAt_136 n l0 l3 h = some r → U l G EX mi_X9_lookAt 2 45 none r 136 [(0, .ref (G.1 + l0)), (3, .int l3)] [] h := by
  intro n
  induction n with
  | zero =>
    intro l0 l3 h t0 hx
    have hx : none = some r := hx
    cases hx
  | succ n ih =>
    intro l0 l3 h t0 hx
    rw [fX9_lookAt_136] at hx
    refine V.iload_n (j := 1) dX9_lookAt_136 rfl rfl rfl ?_
    refine V.if_eq (tgt := 215) hx dX9_lookAt_137 (by decide) rfl (fun hx => ?_) (fun hx => ?_)
    · refine V.pick [0] rfl ?_
      exact vX9_lookAt_215 hE l0 h t0 hx
    · refine V.aload_n (j := 0) dX9_lookAt_140 rfl rfl rfl ?_
      refine U.getI fl_X9_244 t0 dX9_lookAt_141 rfl ?_
      refine V.aload_n (j := 0) dX9_lookAt_144 rfl rfl rfl ?_
      refine U.getI fl_X9_247 t0 dX9_lookAt_145 rfl ?_
      refine V.iadd dX9_lookAt_148 rfl ?_
      refine V.aload_n (j := 0) dX9_lookAt_149 rfl rfl rfl ?_
      refine U.getI fl_X9_232 t0 dX9_lookAt_150 rfl ?_
      refine V.icmp_ge (tgt := 215) hx dX9_lookAt_153 (by decide) rfl (fun hx => ?_) (fun hx => ?_)
      · refine V.pick [0] rfl ?_
        exact vX9_lookAt_215 hE l0 h t0 hx
      · refine V.aload_n (j := 0) dX9_lookAt_156 rfl rfl rfl ?_
        refine U.getP fl_X9_42 t0 dX9_lookAt_157 rfl ?_
        refine V.aload_n (j := 0) dX9_lookAt_160 rfl rfl rfl ?_
        refine U.getI fl_X9_244 t0 dX9_lookAt_161 rfl ?_
        refine V.aload_n (j := 0) dX9_lookAt_164 rfl rfl rfl ?_
        refine U.getI fl_X9_247 t0 dX9_lookAt_165 rfl ?_
        refine V.iadd dX9_lookAt_168 rfl ?_
        refine U.iald hx (ty_X9_11 t0) dX9_lookAt_169 rfl (fun hx => ?_)
        refine U.letI hx (fun v15 hx => ?_)
        refine V.istore [(4, .int v15), (0, .ref (G.1 + l0)), (3, .int l3)] dX9_lookAt_170 rfl (Nat.le_of_ble_eq_true rfl) rfl ?_
        refine V.aload_n (j := 1) dX9_lookAt_172 rfl rfl rfl ?_
        refine U.getI fl_X9_250 t0 dX9_lookAt_173 rfl ?_
        refine V.iconst dX9_lookAt_176 rfl ki_1 ?_
        refine V.icmp_ne (tgt := 188) hx dX9_lookAt_177 (by decide) rfl (fun hx => ?_) (fun hx => ?_)
        · refine V.iload (j := 0) dX9_lookAt_188 rfl rfl ?_
          obtain ⟨v17, q16, hx⟩ := ob_some hx
          refine U.callS (As := [.int v15]) (rest := []) (st' := [.int v17]) hE.1 (mX9_isFigure hE q16) mic_X9_isFigure rfl wq_m_X9_259 wq_t_yX9_isFigure ⟨Nat.le_of_ble_eq_true rfl, Nat.le_of_ble_eq_true rfl⟩ (Nat.le_of_ble_eq_true rfl) dX9_lookAt_190 rfl rfl rfl ?_
          refine V.pick [1] rfl ?_
          exact vX9_lookAt_193 hE (ih) l0 v17 h t0 hx
        · refine V.iload (j := 0) dX9_lookAt_180 rfl rfl ?_
          obtain ⟨v20, q19, hx⟩ := ob_some hx
          refine U.callS (As := [.int v15]) (rest := []) (st' := [.int v20]) hE.1 (mX9_isSmall hE q19) mic_X9_isSmall rfl wq_m_X9_256 wq_t_yX9_isSmall ⟨Nat.le_of_ble_eq_true rfl, Nat.le_of_ble_eq_true rfl⟩ (Nat.le_of_ble_eq_true rfl) dX9_lookAt_182 rfl rfl rfl ?_
          refine V.goto (q := 193) dX9_lookAt_185 (by decide) ?_
          refine V.pick [1] rfl ?_
          exact vX9_lookAt_193 hE (ih) l0 v20 h t0 hx
set_option maxRecDepth 100000 in
set_option maxHeartbeats 4000000 in
theorem vX9_lookAt_135 {l : Launch} {G : GG} {EX : State → Prop} (hE : EXB G EX) {r : AH} : ∀ (l0 : Nat) (s0 : Int32) (h : AH) (t0 : KD l0 = 8), fX9_lookAt_135 l0 s0 h = some r → U l G EX mi_X9_lookAt 2 45 none r 135 [(0, .ref (G.1 + l0))] [.int s0] h := by
  intro l0 s0 h t0 hx
  unfold fX9_lookAt_135 at hx
  refine V.istore_n [(3, .int s0), (0, .ref (G.1 + l0))] dX9_lookAt_135 rfl rfl (Nat.le_of_ble_eq_true rfl) rfl ?_
  refine V.pick [1, 0] rfl ?_
  exact vX9_lookAt_136 hE FU l0 s0 h t0 hx
set_option maxRecDepth 100000 in
set_option maxHeartbeats 4000000 in
theorem vX9_lookAt_114 {l : Launch} {G : GG} {EX : State → Prop} (hE : EXB G EX) {r : AH} : ∀ (l0 : Nat) (s0 : Nat) (s1 : Int32) (h : AH) (t0 : KD l0 = 8) (ts0 : KD s0 = 8), fX9_lookAt_114 l0 s0 s1 h = some r → U l G EX mi_X9_lookAt 2 45 none r 114 [(0, .ref (G.1 + l0))] [.int s1, .ref (G.1 + s0)] h := by
  intro l0 s0 s1 h t0 ts0 hx
  unfold fX9_lookAt_114 at hx
  refine U.putI hx fl_X9_250 ts0 rfl rfl dX9_lookAt_114 rfl (fun h10 hx => ?_)
  refine V.aload_n (j := 0) dX9_lookAt_117 rfl rfl rfl ?_
  refine V.iconst dX9_lookAt_118 rfl ki_1 ?_
  refine U.putI hx fl_X9_247 t0 rfl rfl dX9_lookAt_119 rfl (fun h11 hx => ?_)
  refine V.aload_n (j := 0) dX9_lookAt_122 rfl rfl rfl ?_
  refine U.getI fl_X9_250 t0 dX9_lookAt_123 rfl ?_
  refine V.iconst dX9_lookAt_126 rfl ki_3 ?_
  refine V.icmp_ge (tgt := 134) hx dX9_lookAt_127 (by decide) rfl (fun hx => ?_) (fun hx => ?_)
  · refine V.iconst dX9_lookAt_134 rfl ki_0 ?_
    exact vX9_lookAt_135 hE l0 (0 : Int32) h11 t0 hx
  · refine V.iconst dX9_lookAt_130 rfl ki_1 ?_
    refine V.goto (q := 135) dX9_lookAt_131 (by decide) ?_
    exact vX9_lookAt_135 hE l0 (1 : Int32) h11 t0 hx
set_option maxRecDepth 100000 in
set_option maxHeartbeats 4000000 in
theorem vX9_lookAt_43 {l : Launch} {G : GG} {EX : State → Prop} (hE : EXB G EX) {r : AH} : ∀ (l0 : Nat) (h : AH) (t0 : KD l0 = 8), fX9_lookAt_43 l0 h = some r → U l G EX mi_X9_lookAt 2 45 none r 43 [(0, .ref (G.1 + l0))] [] h := by
  intro l0 h t0 hx
  unfold fX9_lookAt_43 at hx
  refine V.aload_n (j := 0) dX9_lookAt_43 rfl rfl rfl ?_
  refine V.iconst dX9_lookAt_44 rfl ki_0 ?_
  refine U.putI hx fl_X9_247 t0 rfl rfl dX9_lookAt_45 rfl (fun h2 hx => ?_)
  refine V.aload_n (j := 0) dX9_lookAt_48 rfl rfl rfl ?_
  refine V.iconst dX9_lookAt_49 rfl ki_0 ?_
  refine U.putI hx fl_X9_250 t0 rfl rfl dX9_lookAt_50 rfl (fun h3 hx => ?_)
  refine V.aload_n (j := 0) dX9_lookAt_53 rfl rfl rfl ?_
  refine V.iconst dX9_lookAt_54 rfl ki_0 ?_
  refine U.putI hx fl_X9_253 t0 rfl rfl dX9_lookAt_55 rfl (fun h4 hx => ?_)
  refine V.aload_n (j := 0) dX9_lookAt_58 rfl rfl rfl ?_
  refine U.getI fl_X9_244 t0 dX9_lookAt_59 rfl ?_
  refine V.aload_n (j := 0) dX9_lookAt_62 rfl rfl rfl ?_
  refine U.getI fl_X9_232 t0 dX9_lookAt_63 rfl ?_
  refine V.icmp_ne (tgt := 70) hx dX9_lookAt_66 (by decide) rfl (fun hx => ?_) (fun hx => ?_)
  · refine V.aload_n (j := 0) dX9_lookAt_70 rfl rfl rfl ?_
    refine U.getP fl_X9_42 t0 dX9_lookAt_71 rfl ?_
    refine V.aload_n (j := 0) dX9_lookAt_74 rfl rfl rfl ?_
    refine U.getI fl_X9_244 t0 dX9_lookAt_75 rfl ?_
    refine U.iald hx (ty_X9_11 t0) dX9_lookAt_78 rfl (fun hx => ?_)
    refine U.letI hx (fun v5 hx => ?_)
    refine V.istore_n [(2, .int v5), (0, .ref (G.1 + l0))] dX9_lookAt_79 rfl rfl (Nat.le_of_ble_eq_true rfl) rfl ?_
    refine V.aload_n (j := 1) dX9_lookAt_80 rfl rfl rfl ?_
    refine V.iload_n (j := 0) dX9_lookAt_81 rfl rfl rfl ?_
    obtain ⟨v7, q6, hx⟩ := ob_some hx
    refine U.callS (As := [.int v5]) (rest := [.ref (G.1 + l0)]) (st' := [.int v7, .ref (G.1 + l0)]) hE.1 (mX9_isSmall hE q6) mic_X9_isSmall rfl wq_m_X9_256 wq_t_yX9_isSmall ⟨Nat.le_of_ble_eq_true rfl, Nat.le_of_ble_eq_true rfl⟩ (Nat.le_of_ble_eq_true rfl) dX9_lookAt_82 rfl rfl rfl ?_
    refine V.if_eq (tgt := 92) hx dX9_lookAt_85 (by decide) rfl (fun hx => ?_) (fun hx => ?_)
    · refine V.iload_n (j := 0) dX9_lookAt_92 rfl rfl rfl ?_
      obtain ⟨v9, q8, hx⟩ := ob_some hx
      refine U.callS (As := [.int v5]) (rest := [.ref (G.1 + l0)]) (st' := [.int v9, .ref (G.1 + l0)]) hE.1 (mX9_isFigure hE q8) mic_X9_isFigure rfl wq_m_X9_259 wq_t_yX9_isFigure ⟨Nat.le_of_ble_eq_true rfl, Nat.le_of_ble_eq_true rfl⟩ (Nat.le_of_ble_eq_true rfl) dX9_lookAt_93 rfl rfl rfl ?_
      refine V.if_eq (tgt := 103) hx dX9_lookAt_96 (by decide) rfl (fun hx => ?_) (fun hx => ?_)
      · refine V.iload_n (j := 0) dX9_lookAt_103 rfl rfl rfl ?_
        refine V.bipush dX9_lookAt_104 rfl kb_59 ?_
        refine V.icmp_ne (tgt := 113) hx dX9_lookAt_106 (by decide) rfl (fun hx => ?_) (fun hx => ?_)
        · refine V.iconst dX9_lookAt_113 rfl ki_4 ?_
          refine V.pick [1] rfl ?_
          exact vX9_lookAt_114 hE l0 l0 (4 : Int32) h4 t0 t0 hx
        · refine V.iconst dX9_lookAt_109 rfl ki_3 ?_
          refine V.goto (q := 114) dX9_lookAt_110 (by decide) ?_
          refine V.pick [1] rfl ?_
          exact vX9_lookAt_114 hE l0 l0 (3 : Int32) h4 t0 t0 hx
      · refine V.iconst dX9_lookAt_99 rfl ki_2 ?_
        refine V.goto (q := 114) dX9_lookAt_100 (by decide) ?_
        refine V.pick [1] rfl ?_
        exact vX9_lookAt_114 hE l0 l0 (2 : Int32) h4 t0 t0 hx
    · refine V.iconst dX9_lookAt_88 rfl ki_1 ?_
      refine V.goto (q := 114) dX9_lookAt_89 (by decide) ?_
      refine V.pick [1] rfl ?_
      exact vX9_lookAt_114 hE l0 l0 (1 : Int32) h4 t0 t0 hx
  · obtain rfl := Option.some.inj hx
    exact U.ret0 rfl rfl rfl dX9_lookAt_69
set_option maxRecDepth 100000 in
set_option maxHeartbeats 4000000 in
theorem vX9_lookAt_5 {l : Launch} {G : GG} {EX : State → Prop} (hE : EXB G EX) {r : AH} : ∀ (n : Nat) (l0 : Nat) (h : AH) (t0 : KD l0 = 8), fX9_lookAt_5 n l0 h = some r → U l G EX mi_X9_lookAt 2 45 none r 5 [(0, .ref (G.1 + l0))] [] h := by
  intro n
  induction n with
  | zero =>
    intro l0 h t0 hx
    have hx : none = some r := hx
    cases hx
  | succ n ih =>
    intro l0 h t0 hx
    rw [fX9_lookAt_5] at hx
    refine V.aload_n (j := 0) dX9_lookAt_5 rfl rfl rfl ?_
    refine U.getI fl_X9_244 t0 dX9_lookAt_6 rfl ?_
    refine V.aload_n (j := 0) dX9_lookAt_9 rfl rfl rfl ?_
    refine U.getI fl_X9_232 t0 dX9_lookAt_10 rfl ?_
    refine V.icmp_ge (tgt := 43) hx dX9_lookAt_13 (by decide) rfl (fun hx => ?_) (fun hx => ?_)
    · exact vX9_lookAt_43 hE l0 h t0 hx
    · refine V.aload_n (j := 0) dX9_lookAt_16 rfl rfl rfl ?_
      refine U.getP fl_X9_42 t0 dX9_lookAt_17 rfl ?_
      refine V.aload_n (j := 0) dX9_lookAt_20 rfl rfl rfl ?_
      refine U.getI fl_X9_244 t0 dX9_lookAt_21 rfl ?_
      refine U.iald hx (ty_X9_11 t0) dX9_lookAt_24 rfl (fun hx => ?_)
      refine V.bipush dX9_lookAt_25 rfl kb_32 ?_
      refine V.icmp_ne (tgt := 43) hx dX9_lookAt_27 (by decide) rfl (fun hx => ?_) (fun hx => ?_)
      · exact vX9_lookAt_43 hE l0 h t0 hx
      · refine V.aload_n (j := 0) dX9_lookAt_30 rfl rfl rfl ?_
        refine V.dup dX9_lookAt_31 rfl rfl ?_
        refine U.getI fl_X9_244 t0 dX9_lookAt_32 rfl ?_
        refine V.iconst dX9_lookAt_35 rfl ki_1 ?_
        refine V.iadd dX9_lookAt_36 rfl ?_
        refine U.putI hx fl_X9_244 t0 rfl rfl dX9_lookAt_37 rfl (fun h21 hx => ?_)
        refine V.goto (q := 5) dX9_lookAt_40 (by decide) ?_
        exact ih l0 h21 t0 hx
set_option maxRecDepth 100000 in
set_option maxHeartbeats 4000000 in
theorem mX9_lookAt {l : Launch} {G : GG} {EX : State → Prop} (hE : EXB G EX) {th : Nat} {a1 : Int32} {h : AH} (t0 : KD th = 8) {r : AH} (hx : fX9_lookAt th a1 h = some r) : MetU l G EX mi_X9_lookAt 2 45 [.ref (G.1 + th), .int a1] h none r := by
  refine MetU.of mic_X9_lookAt.1 (Nat.le_of_ble_eq_true rfl) ?_
  refine show U l G EX mi_X9_lookAt 2 45 none r 0 [(0, .ref (G.1 + th)), (1, .int a1)] [] h from ?_
  unfold fX9_lookAt at hx
  refine V.aload_n (j := 0) dX9_lookAt_0 rfl rfl rfl ?_
  refine V.iload_n (j := 1) dX9_lookAt_1 rfl rfl rfl ?_
  refine U.putI hx fl_X9_244 t0 rfl rfl dX9_lookAt_2 rfl (fun h1 hx => ?_)
  refine V.pick [0] rfl ?_
  exact vX9_lookAt_5 hE FU th h1 t0 hx
set_option maxRecDepth 100000 in
set_option maxHeartbeats 4000000 in
theorem mX9_goBehind {l : Launch} {G : GG} {EX : State → Prop} (hE : EXB G EX) {th : Nat} {h : AH} (t0 : KD th = 8) {r : AH} (hx : fX9_goBehind th h = some r) : MetU l G EX mi_X9_goBehind 3 69 [.ref (G.1 + th)] h none r := by
  refine MetU.of mic_X9_goBehind.1 (Nat.le_of_ble_eq_true rfl) ?_
  refine show U l G EX mi_X9_goBehind 3 69 none r 0 [(0, .ref (G.1 + th))] [] h from ?_
  unfold fX9_goBehind at hx
  refine V.aload_n (j := 0) dX9_goBehind_0 rfl rfl rfl ?_
  refine V.aload_n (j := 0) dX9_goBehind_1 rfl rfl rfl ?_
  refine U.getI fl_X9_244 t0 dX9_goBehind_2 rfl ?_
  refine V.aload_n (j := 0) dX9_goBehind_5 rfl rfl rfl ?_
  refine U.getI fl_X9_247 t0 dX9_goBehind_6 rfl ?_
  refine V.iadd dX9_goBehind_9 rfl ?_
  obtain ⟨h2, q1, hx⟩ := ob_some hx
  refine U.callV (As := [.int ((hI h th 13) + (hI h th 14))]) (rest := []) (st' := []) hE.1 (mX9_lookAt hE t0 q1) mic_X9_lookAt rfl t0 (by decide) rfl rfl wq_m_X9_262 wq_i_yX9_lookAt wq_s_yX9_lookAt ⟨Nat.le_of_ble_eq_true rfl, Nat.le_of_ble_eq_true rfl⟩ (Nat.le_of_ble_eq_true rfl) dX9_goBehind_10 rfl rfl rfl ?_
  obtain rfl := Option.some.inj hx
  exact U.ret0 rfl rfl rfl dX9_goBehind_13
set_option maxRecDepth 100000 in
set_option maxHeartbeats 4000000 in
theorem vX9_spells_111 {l : Launch} {G : GG} {EX : State → Prop} (hE : EXB G EX) {h : AH} {r : Int32} {k26 : Nat → Int32 → Int32 → Int32 → Int32 → Int32 → Int32 → Int32 → Int32 → Int32 → Option (Int32)} (hk26 : ∀ (l0 : Nat) (l1 : Int32) (l2 : Int32) (l3 : Int32) (l4 : Int32) (l5 : Int32) (l6 : Int32) (l7 : Int32) (l8 : Int32) (l9 : Int32) (t0 : KD l0 = 8), k26 l0 l1 l2 l3 l4 l5 l6 l7 l8 l9 = some r → U l G EX mi_X9_spells 0 0 (some (.int r)) h 26 [(0, .ref (G.1 + l0)), (1, .int l1), (2, .int l2), (3, .int l3), (4, .int l4), (5, .int l5), (6, .int l6), (7, .int l7), (8, .int l8), (9, .int l9)] [] h) : ∀ (l0 : Nat) (l1 : Int32) (l2 : Int32) (l3 : Int32) (l4 : Int32) (l5 : Int32) (l6 : Int32) (l7 : Int32) (l9 : Int32) (s0 : Int32) (t0 : KD l0 = 8), fX9_spells_111 h k26 l0 l1 l2 l3 l4 l5 l6 l7 l9 s0 = some r → U l G EX mi_X9_spells 0 0 (some (.int r)) h 111 [(0, .ref (G.1 + l0)), (1, .int l1), (2, .int l2), (3, .int l3), (4, .int l4), (5, .int l5), (6, .int l6), (7, .int l7), (9, .int l9)] [.int s0] h := by
  intro l0 l1 l2 l3 l4 l5 l6 l7 l9 s0 t0 hx
  unfold fX9_spells_111 at hx
  refine V.istore [(8, .int s0), (0, .ref (G.1 + l0)), (1, .int l1), (2, .int l2), (3, .int l3), (4, .int l4), (5, .int l5), (6, .int l6), (7, .int l7), (9, .int l9)] dX9_spells_111 rfl (Nat.le_of_ble_eq_true rfl) rfl ?_
  refine U.iinc hx (fun v3 => [(9, .int v3), (8, .int s0), (0, .ref (G.1 + l0)), (1, .int l1), (2, .int l2), (3, .int l3), (4, .int l4), (5, .int l5), (6, .int l6), (7, .int l7)]) (j := 9) rfl (by decide) (Nat.le_of_ble_eq_true rfl) (fun _ => rfl) dX9_spells_113 rfl (fun v3 hx => ?_)
  refine V.goto (q := 26) dX9_spells_116 (by decide) ?_
  refine V.pick [2, 3, 4, 5, 6, 7, 8, 9, 1, 0] rfl ?_
  exact hk26 l0 l1 l2 l3 l4 l5 l6 l7 s0 v3 t0 hx
set_option maxRecDepth 100000 in
set_option maxHeartbeats 4000000 in
theorem vX9_spells_103 {l : Launch} {G : GG} {EX : State → Prop} (hE : EXB G EX) {h : AH} {r : Int32} {k26 : Nat → Int32 → Int32 → Int32 → Int32 → Int32 → Int32 → Int32 → Int32 → Int32 → Option (Int32)} (hk26 : ∀ (l0 : Nat) (l1 : Int32) (l2 : Int32) (l3 : Int32) (l4 : Int32) (l5 : Int32) (l6 : Int32) (l7 : Int32) (l8 : Int32) (l9 : Int32) (t0 : KD l0 = 8), k26 l0 l1 l2 l3 l4 l5 l6 l7 l8 l9 = some r → U l G EX mi_X9_spells 0 0 (some (.int r)) h 26 [(0, .ref (G.1 + l0)), (1, .int l1), (2, .int l2), (3, .int l3), (4, .int l4), (5, .int l5), (6, .int l6), (7, .int l7), (8, .int l8), (9, .int l9)] [] h) : ∀ (l0 : Nat) (l1 : Int32) (l2 : Int32) (l3 : Int32) (l4 : Int32) (l5 : Int32) (l6 : Int32) (l7 : Int32) (l9 : Int32) (s0 : Int32) (s1 : Int32) (t0 : KD l0 = 8), fX9_spells_103 h k26 l0 l1 l2 l3 l4 l5 l6 l7 l9 s0 s1 = some r → U l G EX mi_X9_spells 0 0 (some (.int r)) h 103 [(0, .ref (G.1 + l0)), (1, .int l1), (2, .int l2), (3, .int l3), (4, .int l4), (5, .int l5), (6, .int l6), (7, .int l7), (9, .int l9)] [.int s1, .int s0] h := by
  intro l0 l1 l2 l3 l4 l5 l6 l7 l9 s0 s1 t0 hx
  unfold fX9_spells_103 at hx
  refine V.icmp_ne (tgt := 110) hx dX9_spells_103 (by decide) rfl (fun hx => ?_) (fun hx => ?_)
  · refine V.iconst dX9_spells_110 rfl ki_0 ?_
    exact vX9_spells_111 hE hk26 l0 l1 l2 l3 l4 l5 l6 l7 l9 (0 : Int32) t0 hx
  · refine V.iconst dX9_spells_106 rfl ki_1 ?_
    refine V.goto (q := 111) dX9_spells_107 (by decide) ?_
    exact vX9_spells_111 hE hk26 l0 l1 l2 l3 l4 l5 l6 l7 l9 (1 : Int32) t0 hx
set_option maxRecDepth 100000 in
set_option maxHeartbeats 4000000 in
theorem vX9_spells_26 {l : Launch} {G : GG} {EX : State → Prop} (hE : EXB G EX) {h : AH} {r : Int32} : ∀ (n : Nat) (l0 : Nat) (l1 : Int32) (l2 : Int32) (l3 : Int32) (l4 : Int32) (l5 : Int32) (l6 : Int32) (l7 : Int32) (l8 : Int32) (l9 : Int32) (t0 : KD l0 = 8), fX9_spells_26 h n l0 l1 l2 l3 l4 l5 l6 l7 l8 l9 = some r → U l G EX mi_X9_spells 0 0 (some (.int r)) h 26 [(0, .ref (G.1 + l0)), (1, .int l1), (2, .int l2), (3, .int l3), (4, .int l4), (5, .int l5), (6, .int l6), (7, .int l7), (8, .int l8), (9, .int l9)] [] h := by
  intro n
  induction n with
  | zero =>
    intro l0 l1 l2 l3 l4 l5 l6 l7 l8 l9 t0 hx
    have hx : none = some r := hx
    cases hx
  | succ n ih =>
    intro l0 l1 l2 l3 l4 l5 l6 l7 l8 l9 t0 hx
    rw [fX9_spells_26] at hx
    refine V.iload (j := 9) dX9_spells_26 rfl rfl ?_
    refine V.iload_n (j := 1) dX9_spells_28 rfl rfl rfl ?_
    refine V.icmp_ge (tgt := 119) hx dX9_spells_29 (by decide) rfl (fun hx => ?_) (fun hx => ?_)
    · refine V.iload (j := 8) dX9_spells_119 rfl rfl ?_
      obtain ⟨g1, hx⟩ := oG_some hx
      obtain rfl := Option.some.inj hx
      exact U.retI rfl rfl rfl (isB_nar g1) dX9_spells_121
    · refine V.iload (j := 8) dX9_spells_32 rfl rfl ?_
      refine V.if_eq (tgt := 119) hx dX9_spells_34 (by decide) rfl (fun hx => ?_) (fun hx => ?_)
      · refine V.iload (j := 8) dX9_spells_119 rfl rfl ?_
        obtain ⟨g2, hx⟩ := oG_some hx
        obtain rfl := Option.some.inj hx
        exact U.retI rfl rfl rfl (isB_nar g2) dX9_spells_121
      · refine V.aload_n (j := 0) dX9_spells_37 rfl rfl rfl ?_
        refine U.getP fl_X9_42 t0 dX9_spells_38 rfl ?_
        refine V.aload_n (j := 0) dX9_spells_41 rfl rfl rfl ?_
        refine U.getI fl_X9_244 t0 dX9_spells_42 rfl ?_
        refine V.iload (j := 9) dX9_spells_45 rfl rfl ?_
        refine V.iadd dX9_spells_47 rfl ?_
        refine U.iald hx (ty_X9_11 t0) dX9_spells_48 rfl (fun hx => ?_)
        refine V.iload (j := 9) dX9_spells_49 rfl rfl ?_
        refine V.if_ne (tgt := 58) hx dX9_spells_51 (by decide) rfl (fun hx => ?_) (fun hx => ?_)
        · refine V.iload (j := 9) dX9_spells_58 rfl rfl ?_
          refine V.iconst dX9_spells_60 rfl ki_1 ?_
          refine V.icmp_ne (tgt := 68) hx dX9_spells_61 (by decide) rfl (fun hx => ?_) (fun hx => ?_)
          · refine V.iload (j := 9) dX9_spells_68 rfl rfl ?_
            refine V.iconst dX9_spells_70 rfl ki_2 ?_
            refine V.icmp_ne (tgt := 79) hx dX9_spells_71 (by decide) rfl (fun hx => ?_) (fun hx => ?_)
            · refine V.iload (j := 9) dX9_spells_79 rfl rfl ?_
              refine V.iconst dX9_spells_81 rfl ki_3 ?_
              refine V.icmp_ne (tgt := 90) hx dX9_spells_82 (by decide) rfl (fun hx => ?_) (fun hx => ?_)
              · refine V.iload (j := 9) dX9_spells_90 rfl rfl ?_
                refine V.iconst dX9_spells_92 rfl ki_4 ?_
                refine V.icmp_ne (tgt := 101) hx dX9_spells_93 (by decide) rfl (fun hx => ?_) (fun hx => ?_)
                · refine V.iload (j := 7) dX9_spells_101 rfl rfl ?_
                  refine V.pick [0, 1, 2, 3, 4, 5, 6, 7, 9] rfl ?_
                  exact vX9_spells_103 hE (ih) l0 l1 l2 l3 l4 l5 l6 l7 l9 (hI h (PC l0 11) (ix ((hI h l0 13) + l9))) l7 t0 hx
                · refine V.iload (j := 6) dX9_spells_96 rfl rfl ?_
                  refine V.goto (q := 103) dX9_spells_98 (by decide) ?_
                  refine V.pick [0, 1, 2, 3, 4, 5, 6, 7, 9] rfl ?_
                  exact vX9_spells_103 hE (ih) l0 l1 l2 l3 l4 l5 l6 l7 l9 (hI h (PC l0 11) (ix ((hI h l0 13) + l9))) l6 t0 hx
              · refine V.iload (j := 5) dX9_spells_85 rfl rfl ?_
                refine V.goto (q := 103) dX9_spells_87 (by decide) ?_
                refine V.pick [0, 1, 2, 3, 4, 5, 6, 7, 9] rfl ?_
                exact vX9_spells_103 hE (ih) l0 l1 l2 l3 l4 l5 l6 l7 l9 (hI h (PC l0 11) (ix ((hI h l0 13) + l9))) l5 t0 hx
            · refine V.iload (j := 4) dX9_spells_74 rfl rfl ?_
              refine V.goto (q := 103) dX9_spells_76 (by decide) ?_
              refine V.pick [0, 1, 2, 3, 4, 5, 6, 7, 9] rfl ?_
              exact vX9_spells_103 hE (ih) l0 l1 l2 l3 l4 l5 l6 l7 l9 (hI h (PC l0 11) (ix ((hI h l0 13) + l9))) l4 t0 hx
          · refine V.iload_n (j := 3) dX9_spells_64 rfl rfl rfl ?_
            refine V.goto (q := 103) dX9_spells_65 (by decide) ?_
            refine V.pick [0, 1, 2, 3, 4, 5, 6, 7, 9] rfl ?_
            exact vX9_spells_103 hE (ih) l0 l1 l2 l3 l4 l5 l6 l7 l9 (hI h (PC l0 11) (ix ((hI h l0 13) + l9))) l3 t0 hx
        · refine V.iload_n (j := 2) dX9_spells_54 rfl rfl rfl ?_
          refine V.goto (q := 103) dX9_spells_55 (by decide) ?_
          refine V.pick [0, 1, 2, 3, 4, 5, 6, 7, 9] rfl ?_
          exact vX9_spells_103 hE (ih) l0 l1 l2 l3 l4 l5 l6 l7 l9 (hI h (PC l0 11) (ix ((hI h l0 13) + l9))) l2 t0 hx
set_option maxRecDepth 100000 in
set_option maxHeartbeats 4000000 in
theorem vX9_spells_21 {l : Launch} {G : GG} {EX : State → Prop} (hE : EXB G EX) {h : AH} {r : Int32} : ∀ (l0 : Nat) (l1 : Int32) (l2 : Int32) (l3 : Int32) (l4 : Int32) (l5 : Int32) (l6 : Int32) (l7 : Int32) (s0 : Int32) (t0 : KD l0 = 8), fX9_spells_21 h l0 l1 l2 l3 l4 l5 l6 l7 s0 = some r → U l G EX mi_X9_spells 0 0 (some (.int r)) h 21 [(0, .ref (G.1 + l0)), (1, .int l1), (2, .int l2), (3, .int l3), (4, .int l4), (5, .int l5), (6, .int l6), (7, .int l7)] [.int s0] h := by
  intro l0 l1 l2 l3 l4 l5 l6 l7 s0 t0 hx
  unfold fX9_spells_21 at hx
  refine V.istore [(8, .int s0), (0, .ref (G.1 + l0)), (1, .int l1), (2, .int l2), (3, .int l3), (4, .int l4), (5, .int l5), (6, .int l6), (7, .int l7)] dX9_spells_21 rfl (Nat.le_of_ble_eq_true rfl) rfl ?_
  refine V.iconst dX9_spells_23 rfl ki_0 ?_
  refine V.istore [(9, .int (0 : Int32)), (8, .int s0), (0, .ref (G.1 + l0)), (1, .int l1), (2, .int l2), (3, .int l3), (4, .int l4), (5, .int l5), (6, .int l6), (7, .int l7)] dX9_spells_24 rfl (Nat.le_of_ble_eq_true rfl) rfl ?_
  refine V.pick [2, 3, 4, 5, 6, 7, 8, 9, 1, 0] rfl ?_
  exact vX9_spells_26 hE FU l0 l1 l2 l3 l4 l5 l6 l7 s0 (0 : Int32) t0 hx
set_option maxRecDepth 100000 in
set_option maxHeartbeats 4000000 in
theorem vX9_spells_20 {l : Launch} {G : GG} {EX : State → Prop} (hE : EXB G EX) {h : AH} {r : Int32} : ∀ (l0 : Nat) (l1 : Int32) (l2 : Int32) (l3 : Int32) (l4 : Int32) (l5 : Int32) (l6 : Int32) (l7 : Int32) (t0 : KD l0 = 8), fX9_spells_20 h l0 l1 l2 l3 l4 l5 l6 l7 = some r → U l G EX mi_X9_spells 0 0 (some (.int r)) h 20 [(0, .ref (G.1 + l0)), (1, .int l1), (2, .int l2), (3, .int l3), (4, .int l4), (5, .int l5), (6, .int l6), (7, .int l7)] [] h := by
  intro l0 l1 l2 l3 l4 l5 l6 l7 t0 hx
  unfold fX9_spells_20 at hx
  refine V.iconst dX9_spells_20 rfl ki_0 ?_
  exact vX9_spells_21 hE l0 l1 l2 l3 l4 l5 l6 l7 (0 : Int32) t0 hx
set_option maxRecDepth 100000 in
set_option maxHeartbeats 4000000 in
theorem mX9_spells {l : Launch} {G : GG} {EX : State → Prop} (hE : EXB G EX) {th : Nat} {a1 : Int32} {a2 : Int32} {a3 : Int32} {a4 : Int32} {a5 : Int32} {a6 : Int32} {a7 : Int32} {h : AH} (t0 : KD th = 8) {r : Int32} (hx : fX9_spells th a1 a2 a3 a4 a5 a6 a7 h = some r) : MetU l G EX mi_X9_spells 0 0 [.ref (G.1 + th), .int a1, .int a2, .int a3, .int a4, .int a5, .int a6, .int a7] h (some (.int r)) h := by
  refine MetU.of mic_X9_spells.1 (Nat.le_of_ble_eq_true rfl) ?_
  refine show U l G EX mi_X9_spells 0 0 (some (.int r)) h 0 [(0, .ref (G.1 + th)), (1, .int a1), (2, .int a2), (3, .int a3), (4, .int a4), (5, .int a5), (6, .int a6), (7, .int a7)] [] h from ?_
  unfold fX9_spells at hx
  refine V.aload_n (j := 0) dX9_spells_0 rfl rfl rfl ?_
  refine U.getI fl_X9_250 t0 dX9_spells_1 rfl ?_
  refine V.iconst dX9_spells_4 rfl ki_1 ?_
  refine V.icmp_ne (tgt := 20) hx dX9_spells_5 (by decide) rfl (fun hx => ?_) (fun hx => ?_)
  · exact vX9_spells_20 hE th a1 a2 a3 a4 a5 a6 a7 t0 hx
  · refine V.aload_n (j := 0) dX9_spells_8 rfl rfl rfl ?_
    refine U.getI fl_X9_247 t0 dX9_spells_9 rfl ?_
    refine V.iload_n (j := 1) dX9_spells_12 rfl rfl rfl ?_
    refine V.icmp_ne (tgt := 20) hx dX9_spells_13 (by decide) rfl (fun hx => ?_) (fun hx => ?_)
    · exact vX9_spells_20 hE th a1 a2 a3 a4 a5 a6 a7 t0 hx
    · refine V.iconst dX9_spells_16 rfl ki_1 ?_
      refine V.goto (q := 21) dX9_spells_17 (by decide) ?_
      exact vX9_spells_21 hE th a1 a2 a3 a4 a5 a6 a7 (1 : Int32) t0 hx
set_option maxRecDepth 100000 in
set_option maxHeartbeats 4000000 in
theorem mX9_takes {l : Launch} {G : GG} {EX : State → Prop} (hE : EXB G EX) {th : Nat} {a1 : Int32} {a2 : Int32} {a3 : Int32} {h : AH} (t0 : KD th = 8) {r : Int32 × AH} (hx : fX9_takes th a1 a2 a3 h = some r) : MetU l G EX mi_X9_takes 4 89 [.ref (G.1 + th), .int a1, .int a2, .int a3] h (some (.int r.1)) r.2 := by
  refine MetU.of mic_X9_takes.1 (Nat.le_of_ble_eq_true rfl) ?_
  refine show U l G EX mi_X9_takes 4 89 (some (.int r.1)) r.2 0 [(0, .ref (G.1 + th)), (1, .int a1), (2, .int a2), (3, .int a3)] [] h from ?_
  unfold fX9_takes at hx
  refine V.aload_n (j := 0) dX9_takes_0 rfl rfl rfl ?_
  refine U.getI fl_X9_250 t0 dX9_takes_1 rfl ?_
  refine V.iconst dX9_takes_4 rfl ki_2 ?_
  refine V.icmp_ne (tgt := 23) hx dX9_takes_5 (by decide) rfl (fun hx => ?_) (fun hx => ?_)
  · refine V.iconst dX9_takes_23 rfl ki_0 ?_
    obtain rfl := Option.some.inj hx
    exact U.retI rfl rfl rfl rfl dX9_takes_24
  · refine V.aload_n (j := 0) dX9_takes_8 rfl rfl rfl ?_
    refine U.getI fl_X9_253 t0 dX9_takes_9 rfl ?_
    refine V.i2l dX9_takes_12 rfl ?_
    refine V.iload_n (j := 2) dX9_takes_13 rfl rfl rfl ?_
    refine V.i2l dX9_takes_14 rfl ?_
    refine V.iload_n (j := 3) dX9_takes_15 rfl rfl rfl ?_
    refine V.i2l dX9_takes_16 rfl ?_
    obtain ⟨v2, q1, hx⟩ := ob_some hx
    refine U.callS (As := [.long ((hI h th 16).toInt64), .long a2.toInt64, .long a3.toInt64]) (rest := []) (st' := [.int v2]) hE.1 (mX9_in hE q1) mic_X9_in rfl wq_m_X9_59 wq_t_yX9_in ⟨Nat.le_of_ble_eq_true rfl, Nat.le_of_ble_eq_true rfl⟩ (Nat.le_of_ble_eq_true rfl) dX9_takes_17 rfl rfl rfl ?_
    refine V.if_ne (tgt := 25) hx dX9_takes_20 (by decide) rfl (fun hx => ?_) (fun hx => ?_)
    · refine V.aload_n (j := 0) dX9_takes_25 rfl rfl rfl ?_
      refine U.getP fl_X9_48 t0 dX9_takes_26 rfl ?_
      refine V.iload_n (j := 1) dX9_takes_29 rfl rfl rfl ?_
      refine V.aload_n (j := 0) dX9_takes_30 rfl rfl rfl ?_
      refine U.getI fl_X9_253 t0 dX9_takes_31 rfl ?_
      refine U.iast hx (ty_X9_18 t0) dX9_takes_34 rfl (fun h3 hx => ?_)
      refine V.aload_n (j := 0) dX9_takes_35 rfl rfl rfl ?_
      obtain ⟨h5, q4, hx⟩ := ob_some hx
      refine U.callV (As := []) (rest := []) (st' := []) hE.1 (mX9_goBehind hE t0 q4) mic_X9_goBehind rfl t0 (by decide) rfl rfl wq_m_X9_266 wq_i_yX9_goBehind wq_s_yX9_goBehind ⟨Nat.le_of_ble_eq_true rfl, Nat.le_of_ble_eq_true rfl⟩ (Nat.le_of_ble_eq_true rfl) dX9_takes_36 rfl rfl rfl ?_
      refine V.iconst dX9_takes_39 rfl ki_1 ?_
      obtain rfl := Option.some.inj hx
      exact U.retI rfl rfl rfl rfl dX9_takes_40
    · refine V.iconst dX9_takes_23 rfl ki_0 ?_
      obtain rfl := Option.some.inj hx
      exact U.retI rfl rfl rfl rfl dX9_takes_24
set_option maxRecDepth 100000 in
set_option maxHeartbeats 4000000 in
theorem mX9_takesShow {l : Launch} {G : GG} {EX : State → Prop} (hE : EXB G EX) {th : Nat} {h : AH} (t0 : KD th = 8) {r : Int32 × AH} (hx : fX9_takesShow th h = some r) : MetU l G EX mi_X9_takesShow 5 112 [.ref (G.1 + th)] h (some (.int r.1)) r.2 := by
  refine MetU.of mic_X9_takesShow.1 (Nat.le_of_ble_eq_true rfl) ?_
  refine show U l G EX mi_X9_takesShow 5 112 (some (.int r.1)) r.2 0 [(0, .ref (G.1 + th))] [] h from ?_
  unfold fX9_takesShow at hx
  refine V.aload_n (j := 0) dX9_takesShow_0 rfl rfl rfl ?_
  refine U.getP fl_X9_45 t0 dX9_takesShow_1 rfl ?_
  refine V.iconst dX9_takesShow_4 rfl ki_0 ?_
  refine U.iald hx (ty_X9_17 t0) dX9_takesShow_5 rfl (fun hx => ?_)
  refine V.iconst dX9_takesShow_6 rfl ki_5 ?_
  refine V.icmp_ne (tgt := 12) hx dX9_takesShow_7 (by decide) rfl (fun hx => ?_) (fun hx => ?_)
  · refine V.aload_n (j := 0) dX9_takesShow_12 rfl rfl rfl ?_
    obtain ⟨h2, q1, hx⟩ := ob_some hx
    refine U.callV (As := []) (rest := []) (st' := []) hE.1 (mX9_goBehind hE t0 q1) mic_X9_goBehind rfl t0 (by decide) rfl rfl wq_m_X9_266 wq_i_yX9_goBehind wq_s_yX9_goBehind ⟨Nat.le_of_ble_eq_true rfl, Nat.le_of_ble_eq_true rfl⟩ (Nat.le_of_ble_eq_true rfl) dX9_takesShow_13 rfl rfl rfl ?_
    refine V.aload_n (j := 0) dX9_takesShow_16 rfl rfl rfl ?_
    refine V.iconst dX9_takesShow_17 rfl ki_0 ?_
    refine V.iconst dX9_takesShow_18 rfl ki_0 ?_
    refine V.iconst dX9_takesShow_19 rfl ki_5 ?_
    obtain ⟨v5, h4, q3, hx⟩ := ob2_some hx
    refine U.callV (As := [.int (0 : Int32), .int (0 : Int32), .int (5 : Int32)]) (rest := []) (st' := [.int v5]) hE.1 (mX9_takes hE t0 q3) mic_X9_takes rfl t0 (by decide) rfl rfl wq_m_X9_269 wq_i_yX9_takes wq_s_yX9_takes ⟨Nat.le_of_ble_eq_true rfl, Nat.le_of_ble_eq_true rfl⟩ (Nat.le_of_ble_eq_true rfl) dX9_takesShow_20 rfl rfl rfl ?_
    refine V.if_eq (tgt := 48) hx dX9_takesShow_23 (by decide) rfl (fun hx => ?_) (fun hx => ?_)
    · refine V.iconst dX9_takesShow_48 rfl ki_0 ?_
      obtain rfl := Option.some.inj hx
      exact U.retI rfl rfl rfl rfl dX9_takesShow_49
    · refine V.aload_n (j := 0) dX9_takesShow_26 rfl rfl rfl ?_
      refine V.iconst dX9_takesShow_27 rfl ki_1 ?_
      refine V.iconst dX9_takesShow_28 rfl ki_0 ?_
      refine V.bipush dX9_takesShow_29 rfl kb_29 ?_
      obtain ⟨v8, h7, q6, hx⟩ := ob2_some hx
      refine U.callV (As := [.int (1 : Int32), .int (0 : Int32), .int (29 : Int32)]) (rest := []) (st' := [.int v8]) hE.1 (mX9_takes hE t0 q6) mic_X9_takes rfl t0 (by decide) rfl rfl wq_m_X9_269 wq_i_yX9_takes wq_s_yX9_takes ⟨Nat.le_of_ble_eq_true rfl, Nat.le_of_ble_eq_true rfl⟩ (Nat.le_of_ble_eq_true rfl) dX9_takesShow_31 rfl rfl rfl ?_
      refine V.if_eq (tgt := 48) hx dX9_takesShow_34 (by decide) rfl (fun hx => ?_) (fun hx => ?_)
      · refine V.iconst dX9_takesShow_48 rfl ki_0 ?_
        obtain rfl := Option.some.inj hx
        exact U.retI rfl rfl rfl rfl dX9_takesShow_49
      · refine V.aload_n (j := 0) dX9_takesShow_37 rfl rfl rfl ?_
        refine V.iconst dX9_takesShow_38 rfl ki_2 ?_
        refine V.iconst dX9_takesShow_39 rfl ki_1 ?_
        refine V.bipush dX9_takesShow_40 rfl kb_9 ?_
        obtain ⟨v11, h10, q9, hx⟩ := ob2_some hx
        refine U.callV (As := [.int (2 : Int32), .int (1 : Int32), .int (9 : Int32)]) (rest := []) (st' := [.int v11]) hE.1 (mX9_takes hE t0 q9) mic_X9_takes rfl t0 (by decide) rfl rfl wq_m_X9_269 wq_i_yX9_takes wq_s_yX9_takes ⟨Nat.le_of_ble_eq_true rfl, Nat.le_of_ble_eq_true rfl⟩ (Nat.le_of_ble_eq_true rfl) dX9_takesShow_42 rfl rfl rfl ?_
        refine V.if_ne (tgt := 50) hx dX9_takesShow_45 (by decide) rfl (fun hx => ?_) (fun hx => ?_)
        · refine V.aload_n (j := 0) dX9_takesShow_50 rfl rfl rfl ?_
          refine U.getP fl_X9_45 t0 dX9_takesShow_51 rfl ?_
          refine V.aload_n (j := 0) dX9_takesShow_54 rfl rfl rfl ?_
          refine U.getP fl_X9_48 t0 dX9_takesShow_55 rfl ?_
          refine V.iconst dX9_takesShow_58 rfl ki_0 ?_
          refine U.iald hx (ty_X9_18 t0) dX9_takesShow_59 rfl (fun hx => ?_)
          refine V.aload_n (j := 0) dX9_takesShow_60 rfl rfl rfl ?_
          refine U.getP fl_X9_48 t0 dX9_takesShow_61 rfl ?_
          refine V.iconst dX9_takesShow_64 rfl ki_1 ?_
          refine U.iald hx (ty_X9_18 t0) dX9_takesShow_65 rfl (fun hx => ?_)
          refine V.aload_n (j := 0) dX9_takesShow_66 rfl rfl rfl ?_
          refine U.getP fl_X9_48 t0 dX9_takesShow_67 rfl ?_
          refine V.iconst dX9_takesShow_70 rfl ki_2 ?_
          refine U.iald hx (ty_X9_18 t0) dX9_takesShow_71 rfl (fun hx => ?_)
          obtain ⟨h13, q12, hx⟩ := ob_some hx
          refine U.callS (As := [.ref (G.1 + (PC th 17)), .int (hI h10 (PC th 18) (ix (0 : Int32))), .int (hI h10 (PC th 18) (ix (1 : Int32))), .int (hI h10 (PC th 18) (ix (2 : Int32)))]) (rest := []) (st' := []) hE.1 (mX9_layShow hE (ty_X9_17 t0) q12) mic_X9_layShow rfl wq_m_X9_85 wq_t_yX9_layShow ⟨Nat.le_of_ble_eq_true rfl, Nat.le_of_ble_eq_true rfl⟩ (Nat.le_of_ble_eq_true rfl) dX9_takesShow_72 rfl rfl rfl ?_
          refine V.iconst dX9_takesShow_75 rfl ki_1 ?_
          obtain rfl := Option.some.inj hx
          exact U.retI rfl rfl rfl rfl dX9_takesShow_76
        · refine V.iconst dX9_takesShow_48 rfl ki_0 ?_
          obtain rfl := Option.some.inj hx
          exact U.retI rfl rfl rfl rfl dX9_takesShow_49
  · refine V.iconst dX9_takesShow_10 rfl ki_0 ?_
    obtain rfl := Option.some.inj hx
    exact U.retI rfl rfl rfl rfl dX9_takesShow_11
set_option maxRecDepth 100000 in
set_option maxHeartbeats 4000000 in
theorem mX9_takesOff {l : Launch} {G : GG} {EX : State → Prop} (hE : EXB G EX) {th : Nat} {h : AH} (t0 : KD th = 8) {r : Int32 × AH} (hx : fX9_takesOff th h = some r) : MetU l G EX mi_X9_takesOff 5 112 [.ref (G.1 + th)] h (some (.int r.1)) r.2 := by
  refine MetU.of mic_X9_takesOff.1 (Nat.le_of_ble_eq_true rfl) ?_
  refine show U l G EX mi_X9_takesOff 5 112 (some (.int r.1)) r.2 0 [(0, .ref (G.1 + th))] [] h from ?_
  unfold fX9_takesOff at hx
  refine V.aload_n (j := 0) dX9_takesOff_0 rfl rfl rfl ?_
  obtain ⟨h2, q1, hx⟩ := ob_some hx
  refine U.callV (As := []) (rest := []) (st' := []) hE.1 (mX9_goBehind hE t0 q1) mic_X9_goBehind rfl t0 (by decide) rfl rfl wq_m_X9_266 wq_i_yX9_goBehind wq_s_yX9_goBehind ⟨Nat.le_of_ble_eq_true rfl, Nat.le_of_ble_eq_true rfl⟩ (Nat.le_of_ble_eq_true rfl) dX9_takesOff_1 rfl rfl rfl ?_
  refine V.aload_n (j := 0) dX9_takesOff_4 rfl rfl rfl ?_
  refine V.iconst dX9_takesOff_5 rfl ki_0 ?_
  refine V.iconst dX9_takesOff_6 rfl ki_0 ?_
  refine V.aload_n (j := 0) dX9_takesOff_7 rfl rfl rfl ?_
  refine U.getP fl_X9_45 t0 dX9_takesOff_8 rfl ?_
  refine V.iconst dX9_takesOff_11 rfl ki_0 ?_
  refine U.iald hx (ty_X9_17 t0) dX9_takesOff_12 rfl (fun hx => ?_)
  refine V.iconst dX9_takesOff_13 rfl ki_1 ?_
  refine V.isub dX9_takesOff_14 rfl ?_
  obtain ⟨v5, h4, q3, hx⟩ := ob2_some hx
  refine U.callV (As := [.int (0 : Int32), .int (0 : Int32), .int ((hI h2 (PC th 17) (ix (0 : Int32))) - (1 : Int32))]) (rest := []) (st' := [.int v5]) hE.1 (mX9_takes hE t0 q3) mic_X9_takes rfl t0 (by decide) rfl rfl wq_m_X9_269 wq_i_yX9_takes wq_s_yX9_takes ⟨Nat.le_of_ble_eq_true rfl, Nat.le_of_ble_eq_true rfl⟩ (Nat.le_of_ble_eq_true rfl) dX9_takesOff_15 rfl rfl rfl ?_
  refine V.if_ne (tgt := 23) hx dX9_takesOff_18 (by decide) rfl (fun hx => ?_) (fun hx => ?_)
  · refine V.aload_n (j := 0) dX9_takesOff_23 rfl rfl rfl ?_
    refine U.getP fl_X9_45 t0 dX9_takesOff_24 rfl ?_
    refine V.bipush dX9_takesOff_27 rfl kb_25 ?_
    refine V.aload_n (j := 0) dX9_takesOff_29 rfl rfl rfl ?_
    refine U.getP fl_X9_48 t0 dX9_takesOff_30 rfl ?_
    refine V.iconst dX9_takesOff_33 rfl ki_0 ?_
    refine U.iald hx (ty_X9_18 t0) dX9_takesOff_34 rfl (fun hx => ?_)
    refine V.iadd dX9_takesOff_35 rfl ?_
    refine V.iconst dX9_takesOff_36 rfl ki_0 ?_
    refine U.iast hx (ty_X9_17 t0) dX9_takesOff_37 rfl (fun h6 hx => ?_)
    refine V.iconst dX9_takesOff_38 rfl ki_1 ?_
    obtain rfl := Option.some.inj hx
    exact U.retI rfl rfl rfl rfl dX9_takesOff_39
  · refine V.iconst dX9_takesOff_21 rfl ki_0 ?_
    obtain rfl := Option.some.inj hx
    exact U.retI rfl rfl rfl rfl dX9_takesOff_22
set_option maxRecDepth 100000 in
set_option maxHeartbeats 4000000 in
theorem mX9_takesWatcher {l : Launch} {G : GG} {EX : State → Prop} (hE : EXB G EX) {th : Nat} {h : AH} (t0 : KD th = 8) {r : Int32 × AH} (hx : fX9_takesWatcher th h = some r) : MetU l G EX mi_X9_takesWatcher 5 112 [.ref (G.1 + th)] h (some (.int r.1)) r.2 := by
  refine MetU.of mic_X9_takesWatcher.1 (Nat.le_of_ble_eq_true rfl) ?_
  refine show U l G EX mi_X9_takesWatcher 5 112 (some (.int r.1)) r.2 0 [(0, .ref (G.1 + th))] [] h from ?_
  unfold fX9_takesWatcher at hx
  refine V.aload_n (j := 0) dX9_takesWatcher_0 rfl rfl rfl ?_
  refine U.getP fl_X9_45 t0 dX9_takesWatcher_1 rfl ?_
  refine V.iconst dX9_takesWatcher_4 rfl ki_1 ?_
  refine U.iald hx (ty_X9_17 t0) dX9_takesWatcher_5 rfl (fun hx => ?_)
  refine V.bipush dX9_takesWatcher_6 rfl kb_6 ?_
  refine V.icmp_ne (tgt := 13) hx dX9_takesWatcher_8 (by decide) rfl (fun hx => ?_) (fun hx => ?_)
  · refine V.aload_n (j := 0) dX9_takesWatcher_13 rfl rfl rfl ?_
    obtain ⟨h2, q1, hx⟩ := ob_some hx
    refine U.callV (As := []) (rest := []) (st' := []) hE.1 (mX9_goBehind hE t0 q1) mic_X9_goBehind rfl t0 (by decide) rfl rfl wq_m_X9_266 wq_i_yX9_goBehind wq_s_yX9_goBehind ⟨Nat.le_of_ble_eq_true rfl, Nat.le_of_ble_eq_true rfl⟩ (Nat.le_of_ble_eq_true rfl) dX9_takesWatcher_14 rfl rfl rfl ?_
    refine V.aload_n (j := 0) dX9_takesWatcher_17 rfl rfl rfl ?_
    refine V.iconst dX9_takesWatcher_18 rfl ki_0 ?_
    refine V.iconst dX9_takesWatcher_19 rfl ki_0 ?_
    refine V.iconst dX9_takesWatcher_20 rfl ki_5 ?_
    obtain ⟨v5, h4, q3, hx⟩ := ob2_some hx
    refine U.callV (As := [.int (0 : Int32), .int (0 : Int32), .int (5 : Int32)]) (rest := []) (st' := [.int v5]) hE.1 (mX9_takes hE t0 q3) mic_X9_takes rfl t0 (by decide) rfl rfl wq_m_X9_269 wq_i_yX9_takes wq_s_yX9_takes ⟨Nat.le_of_ble_eq_true rfl, Nat.le_of_ble_eq_true rfl⟩ (Nat.le_of_ble_eq_true rfl) dX9_takesWatcher_21 rfl rfl rfl ?_
    refine V.if_eq (tgt := 38) hx dX9_takesWatcher_24 (by decide) rfl (fun hx => ?_) (fun hx => ?_)
    · refine V.iconst dX9_takesWatcher_38 rfl ki_0 ?_
      obtain rfl := Option.some.inj hx
      exact U.retI rfl rfl rfl rfl dX9_takesWatcher_39
    · refine V.aload_n (j := 0) dX9_takesWatcher_27 rfl rfl rfl ?_
      refine V.iconst dX9_takesWatcher_28 rfl ki_1 ?_
      refine V.iconst dX9_takesWatcher_29 rfl ki_0 ?_
      refine V.bipush dX9_takesWatcher_30 rfl kb_29 ?_
      obtain ⟨v8, h7, q6, hx⟩ := ob2_some hx
      refine U.callV (As := [.int (1 : Int32), .int (0 : Int32), .int (29 : Int32)]) (rest := []) (st' := [.int v8]) hE.1 (mX9_takes hE t0 q6) mic_X9_takes rfl t0 (by decide) rfl rfl wq_m_X9_269 wq_i_yX9_takes wq_s_yX9_takes ⟨Nat.le_of_ble_eq_true rfl, Nat.le_of_ble_eq_true rfl⟩ (Nat.le_of_ble_eq_true rfl) dX9_takesWatcher_32 rfl rfl rfl ?_
      refine V.if_ne (tgt := 40) hx dX9_takesWatcher_35 (by decide) rfl (fun hx => ?_) (fun hx => ?_)
      · refine V.aload_n (j := 0) dX9_takesWatcher_40 rfl rfl rfl ?_
        refine U.getP fl_X9_45 t0 dX9_takesWatcher_41 rfl ?_
        refine V.aload_n (j := 0) dX9_takesWatcher_44 rfl rfl rfl ?_
        refine U.getP fl_X9_48 t0 dX9_takesWatcher_45 rfl ?_
        refine V.iconst dX9_takesWatcher_48 rfl ki_0 ?_
        refine U.iald hx (ty_X9_18 t0) dX9_takesWatcher_49 rfl (fun hx => ?_)
        refine V.aload_n (j := 0) dX9_takesWatcher_50 rfl rfl rfl ?_
        refine U.getP fl_X9_48 t0 dX9_takesWatcher_51 rfl ?_
        refine V.iconst dX9_takesWatcher_54 rfl ki_1 ?_
        refine U.iald hx (ty_X9_18 t0) dX9_takesWatcher_55 rfl (fun hx => ?_)
        obtain ⟨h10, q9, hx⟩ := ob_some hx
        refine U.callS (As := [.ref (G.1 + (PC th 17)), .int (hI h7 (PC th 18) (ix (0 : Int32))), .int (hI h7 (PC th 18) (ix (1 : Int32)))]) (rest := []) (st' := []) hE.1 (mX9_layWatcher hE (ty_X9_17 t0) q9) mic_X9_layWatcher rfl wq_m_X9_89 wq_t_yX9_layWatcher ⟨Nat.le_of_ble_eq_true rfl, Nat.le_of_ble_eq_true rfl⟩ (Nat.le_of_ble_eq_true rfl) dX9_takesWatcher_56 rfl rfl rfl ?_
        refine V.iconst dX9_takesWatcher_59 rfl ki_1 ?_
        obtain rfl := Option.some.inj hx
        exact U.retI rfl rfl rfl rfl dX9_takesWatcher_60
      · refine V.iconst dX9_takesWatcher_38 rfl ki_0 ?_
        obtain rfl := Option.some.inj hx
        exact U.retI rfl rfl rfl rfl dX9_takesWatcher_39
  · refine V.iconst dX9_takesWatcher_11 rfl ki_0 ?_
    obtain rfl := Option.some.inj hx
    exact U.retI rfl rfl rfl rfl dX9_takesWatcher_12
set_option maxRecDepth 100000 in
set_option maxHeartbeats 4000000 in
theorem mX9_takesDo {l : Launch} {G : GG} {EX : State → Prop} (hE : EXB G EX) {th : Nat} {h : AH} (t0 : KD th = 8) {r : Int32 × AH} (hx : fX9_takesDo th h = some r) : MetU l G EX mi_X9_takesDo 8 191 [.ref (G.1 + th)] h (some (.int r.1)) r.2 := by
  refine MetU.of mic_X9_takesDo.1 (Nat.le_of_ble_eq_true rfl) ?_
  refine show U l G EX mi_X9_takesDo 8 191 (some (.int r.1)) r.2 0 [(0, .ref (G.1 + th))] [] h from ?_
  unfold fX9_takesDo at hx
  refine V.aload_n (j := 0) dX9_takesDo_0 rfl rfl rfl ?_
  obtain ⟨h2, q1, hx⟩ := ob_some hx
  refine U.callV (As := []) (rest := []) (st' := []) hE.1 (mX9_goBehind hE t0 q1) mic_X9_goBehind rfl t0 (by decide) rfl rfl wq_m_X9_266 wq_i_yX9_goBehind wq_s_yX9_goBehind ⟨Nat.le_of_ble_eq_true rfl, Nat.le_of_ble_eq_true rfl⟩ (Nat.le_of_ble_eq_true rfl) dX9_takesDo_1 rfl rfl rfl ?_
  refine V.aload_n (j := 0) dX9_takesDo_4 rfl rfl rfl ?_
  refine V.iconst dX9_takesDo_5 rfl ki_0 ?_
  refine V.iconst dX9_takesDo_6 rfl ki_0 ?_
  refine V.bipush dX9_takesDo_7 rfl kb_29 ?_
  obtain ⟨v5, h4, q3, hx⟩ := ob2_some hx
  refine U.callV (As := [.int (0 : Int32), .int (0 : Int32), .int (29 : Int32)]) (rest := []) (st' := [.int v5]) hE.1 (mX9_takes hE t0 q3) mic_X9_takes rfl t0 (by decide) rfl rfl wq_m_X9_269 wq_i_yX9_takes wq_s_yX9_takes ⟨Nat.le_of_ble_eq_true rfl, Nat.le_of_ble_eq_true rfl⟩ (Nat.le_of_ble_eq_true rfl) dX9_takesDo_9 rfl rfl rfl ?_
  refine V.if_eq (tgt := 35) hx dX9_takesDo_12 (by decide) rfl (fun hx => ?_) (fun hx => ?_)
  · refine V.iconst dX9_takesDo_35 rfl ki_0 ?_
    obtain rfl := Option.some.inj hx
    exact U.retI rfl rfl rfl rfl dX9_takesDo_36
  · refine V.aload_n (j := 0) dX9_takesDo_15 rfl rfl rfl ?_
    refine U.getP fl_X9_45 t0 dX9_takesDo_16 rfl ?_
    refine V.aload_n (j := 0) dX9_takesDo_19 rfl rfl rfl ?_
    refine U.getP fl_X9_48 t0 dX9_takesDo_20 rfl ?_
    refine V.iconst dX9_takesDo_23 rfl ki_0 ?_
    refine U.iald hx (ty_X9_18 t0) dX9_takesDo_24 rfl (fun hx => ?_)
    obtain ⟨v8, h7, q6, hx⟩ := ob2_some hx
    refine U.callS (As := [.ref (G.1 + (PC th 17)), .int (hI h4 (PC th 18) (ix (0 : Int32)))]) (rest := []) (st' := [.int v8]) hE.1 (mX9_goDoing hE (ty_X9_17 t0) q6) mic_X9_goDoing rfl wq_m_X9_143 wq_t_yX9_goDoing ⟨Nat.le_of_ble_eq_true rfl, Nat.le_of_ble_eq_true rfl⟩ (Nat.le_of_ble_eq_true rfl) dX9_takesDo_25 rfl rfl rfl ?_
    refine V.if_lt (tgt := 35) hx dX9_takesDo_28 (by decide) rfl (fun hx => ?_) (fun hx => ?_)
    · refine V.iconst dX9_takesDo_35 rfl ki_0 ?_
      obtain rfl := Option.some.inj hx
      exact U.retI rfl rfl rfl rfl dX9_takesDo_36
    · refine V.iconst dX9_takesDo_31 rfl ki_1 ?_
      refine V.goto (q := 36) dX9_takesDo_32 (by decide) ?_
      obtain rfl := Option.some.inj hx
      exact U.retI rfl rfl rfl rfl dX9_takesDo_36
set_option maxRecDepth 100000 in
set_option maxHeartbeats 4000000 in
theorem mX9_takesRest {l : Launch} {G : GG} {EX : State → Prop} (hE : EXB G EX) {th : Nat} {h : AH} (t0 : KD th = 8) {r : Int32 × AH} (hx : fX9_takesRest th h = some r) : MetU l G EX mi_X9_takesRest 5 112 [.ref (G.1 + th)] h (some (.int r.1)) r.2 := by
  refine MetU.of mic_X9_takesRest.1 (Nat.le_of_ble_eq_true rfl) ?_
  refine show U l G EX mi_X9_takesRest 5 112 (some (.int r.1)) r.2 0 [(0, .ref (G.1 + th))] [] h from ?_
  unfold fX9_takesRest at hx
  refine V.aload_n (j := 0) dX9_takesRest_0 rfl rfl rfl ?_
  obtain ⟨h2, q1, hx⟩ := ob_some hx
  refine U.callV (As := []) (rest := []) (st' := []) hE.1 (mX9_goBehind hE t0 q1) mic_X9_goBehind rfl t0 (by decide) rfl rfl wq_m_X9_266 wq_i_yX9_goBehind wq_s_yX9_goBehind ⟨Nat.le_of_ble_eq_true rfl, Nat.le_of_ble_eq_true rfl⟩ (Nat.le_of_ble_eq_true rfl) dX9_takesRest_1 rfl rfl rfl ?_
  refine V.aload_n (j := 0) dX9_takesRest_4 rfl rfl rfl ?_
  refine V.iconst dX9_takesRest_5 rfl ki_0 ?_
  refine V.iconst dX9_takesRest_6 rfl ki_1 ?_
  refine V.bipush dX9_takesRest_7 rfl kb_99 ?_
  obtain ⟨v5, h4, q3, hx⟩ := ob2_some hx
  refine U.callV (As := [.int (0 : Int32), .int (1 : Int32), .int (99 : Int32)]) (rest := []) (st' := [.int v5]) hE.1 (mX9_takes hE t0 q3) mic_X9_takes rfl t0 (by decide) rfl rfl wq_m_X9_269 wq_i_yX9_takes wq_s_yX9_takes ⟨Nat.le_of_ble_eq_true rfl, Nat.le_of_ble_eq_true rfl⟩ (Nat.le_of_ble_eq_true rfl) dX9_takesRest_9 rfl rfl rfl ?_
  refine V.if_ne (tgt := 17) hx dX9_takesRest_12 (by decide) rfl (fun hx => ?_) (fun hx => ?_)
  · refine V.aload_n (j := 0) dX9_takesRest_17 rfl rfl rfl ?_
    refine U.getP fl_X9_45 t0 dX9_takesRest_18 rfl ?_
    refine V.aload_n (j := 0) dX9_takesRest_21 rfl rfl rfl ?_
    refine U.getP fl_X9_48 t0 dX9_takesRest_22 rfl ?_
    refine V.iconst dX9_takesRest_25 rfl ki_0 ?_
    refine U.iald hx (ty_X9_18 t0) dX9_takesRest_26 rfl (fun hx => ?_)
    obtain ⟨h7, q6, hx⟩ := ob_some hx
    refine U.callS (As := [.ref (G.1 + (PC th 17)), .int (hI h4 (PC th 18) (ix (0 : Int32)))]) (rest := []) (st' := []) hE.1 (mX9_goRest hE (ty_X9_17 t0) q6) mic_X9_goRest rfl wq_m_X9_149 wq_t_yX9_goRest ⟨Nat.le_of_ble_eq_true rfl, Nat.le_of_ble_eq_true rfl⟩ (Nat.le_of_ble_eq_true rfl) dX9_takesRest_27 rfl rfl rfl ?_
    refine V.iconst dX9_takesRest_30 rfl ki_1 ?_
    obtain rfl := Option.some.inj hx
    exact U.retI rfl rfl rfl rfl dX9_takesRest_31
  · refine V.iconst dX9_takesRest_15 rfl ki_0 ?_
    obtain rfl := Option.some.inj hx
    exact U.retI rfl rfl rfl rfl dX9_takesRest_16
set_option maxRecDepth 100000 in
set_option maxHeartbeats 4000000 in
theorem vX9_isWatcherWord_73 {l : Launch} {G : GG} {EX : State → Prop} (hE : EXB G EX) {r : Int32 × AH} : ∀ (l0 : Nat) (l1 : Int32) (l2 : Int32) (s0 : Nat) (s1 : Int32) (h : AH) (t0 : KD l0 = 8) (ts0 : KD s0 = 8), fX9_isWatcherWord_73 l0 l1 l2 s0 s1 h = some r → U l G EX mi_X9_isWatcherWord 1 29 (some (.int r.1)) r.2 73 [(0, .ref (G.1 + l0)), (1, .int l1), (2, .int l2)] [.int s1, .ref (G.1 + s0)] h := by
  intro l0 l1 l2 s0 s1 h t0 ts0 hx
  unfold fX9_isWatcherWord_73 at hx
  refine U.putI hx fl_X9_247 ts0 rfl rfl dX9_isWatcherWord_73 rfl (fun h4 hx => ?_)
  refine V.iload_n (j := 1) dX9_isWatcherWord_76 rfl rfl rfl ?_
  refine V.if_eq (tgt := 105) hx dX9_isWatcherWord_77 (by decide) rfl (fun hx => ?_) (fun hx => ?_)
  · refine V.iconst dX9_isWatcherWord_105 rfl ki_0 ?_
    obtain rfl := Option.some.inj hx
    exact U.retI rfl rfl rfl rfl dX9_isWatcherWord_106
  · refine V.iload_n (j := 2) dX9_isWatcherWord_80 rfl rfl rfl ?_
    refine V.if_eq (tgt := 105) hx dX9_isWatcherWord_81 (by decide) rfl (fun hx => ?_) (fun hx => ?_)
    · refine V.iconst dX9_isWatcherWord_105 rfl ki_0 ?_
      obtain rfl := Option.some.inj hx
      exact U.retI rfl rfl rfl rfl dX9_isWatcherWord_106
    · refine V.aload_n (j := 0) dX9_isWatcherWord_84 rfl rfl rfl ?_
      refine U.getP fl_X9_42 t0 dX9_isWatcherWord_85 rfl ?_
      refine V.aload_n (j := 0) dX9_isWatcherWord_88 rfl rfl rfl ?_
      refine U.getI fl_X9_244 t0 dX9_isWatcherWord_89 rfl ?_
      refine V.bipush dX9_isWatcherWord_92 rfl kb_6 ?_
      refine V.iadd dX9_isWatcherWord_94 rfl ?_
      refine U.iald hx (ty_X9_11 t0) dX9_isWatcherWord_95 rfl (fun hx => ?_)
      refine V.bipush dX9_isWatcherWord_96 rfl kb_114 ?_
      refine V.icmp_ne (tgt := 105) hx dX9_isWatcherWord_98 (by decide) rfl (fun hx => ?_) (fun hx => ?_)
      · refine V.iconst dX9_isWatcherWord_105 rfl ki_0 ?_
        obtain rfl := Option.some.inj hx
        exact U.retI rfl rfl rfl rfl dX9_isWatcherWord_106
      · refine V.iconst dX9_isWatcherWord_101 rfl ki_1 ?_
        refine V.goto (q := 106) dX9_isWatcherWord_102 (by decide) ?_
        obtain rfl := Option.some.inj hx
        exact U.retI rfl rfl rfl rfl dX9_isWatcherWord_106
set_option maxRecDepth 100000 in
set_option maxHeartbeats 4000000 in
theorem vX9_isWatcherWord_37 {l : Launch} {G : GG} {EX : State → Prop} (hE : EXB G EX) {r : Int32 × AH} : ∀ (l0 : Nat) (l1 : Int32) (s0 : Nat) (s1 : Int32) (h : AH) (t0 : KD l0 = 8) (ts0 : KD s0 = 8), fX9_isWatcherWord_37 l0 l1 s0 s1 h = some r → U l G EX mi_X9_isWatcherWord 1 29 (some (.int r.1)) r.2 37 [(0, .ref (G.1 + l0)), (1, .int l1)] [.int s1, .ref (G.1 + s0)] h := by
  intro l0 l1 s0 s1 h t0 ts0 hx
  unfold fX9_isWatcherWord_37 at hx
  refine U.putI hx fl_X9_247 ts0 rfl rfl dX9_isWatcherWord_37 rfl (fun h1 hx => ?_)
  refine V.aload_n (j := 0) dX9_isWatcherWord_40 rfl rfl rfl ?_
  refine V.bipush dX9_isWatcherWord_41 rfl kb_6 ?_
  refine V.bipush dX9_isWatcherWord_43 rfl kb_119 ?_
  refine V.bipush dX9_isWatcherWord_45 rfl kb_97 ?_
  refine V.bipush dX9_isWatcherWord_47 rfl kb_116 ?_
  refine V.bipush dX9_isWatcherWord_49 rfl kb_99 ?_
  refine V.bipush dX9_isWatcherWord_51 rfl kb_104 ?_
  refine V.bipush dX9_isWatcherWord_53 rfl kb_101 ?_
  obtain ⟨v3, q2, hx⟩ := ob_some hx
  refine U.callV (As := [.int (6 : Int32), .int (119 : Int32), .int (97 : Int32), .int (116 : Int32), .int (99 : Int32), .int (104 : Int32), .int (101 : Int32)]) (rest := []) (st' := [.int v3]) hE.1 (mX9_spells hE t0 q2) mic_X9_spells rfl t0 (by decide) rfl rfl wq_m_X9_272 wq_i_yX9_spells wq_s_yX9_spells ⟨Nat.le_of_ble_eq_true rfl, Nat.le_of_ble_eq_true rfl⟩ (Nat.le_of_ble_eq_true rfl) dX9_isWatcherWord_55 rfl rfl rfl ?_
  refine V.istore_n [(2, .int v3), (0, .ref (G.1 + l0)), (1, .int l1)] dX9_isWatcherWord_58 rfl rfl (Nat.le_of_ble_eq_true rfl) rfl ?_
  refine V.aload_n (j := 1) dX9_isWatcherWord_59 rfl rfl rfl ?_
  refine V.iload_n (j := 2) dX9_isWatcherWord_60 rfl rfl rfl ?_
  refine V.if_eq (tgt := 69) hx dX9_isWatcherWord_61 (by decide) rfl (fun hx => ?_) (fun hx => ?_)
  · refine V.aload_n (j := 1) dX9_isWatcherWord_69 rfl rfl rfl ?_
    refine U.getI fl_X9_247 t0 dX9_isWatcherWord_70 rfl ?_
    refine V.pick [1, 2, 0] rfl ?_
    exact vX9_isWatcherWord_73 hE l0 l1 v3 l0 (hI h1 l0 14) h1 t0 t0 hx
  · refine V.bipush dX9_isWatcherWord_64 rfl kb_7 ?_
    refine V.goto (q := 73) dX9_isWatcherWord_66 (by decide) ?_
    refine V.pick [1, 2, 0] rfl ?_
    exact vX9_isWatcherWord_73 hE l0 l1 v3 l0 (7 : Int32) h1 t0 t0 hx
set_option maxRecDepth 100000 in
set_option maxHeartbeats 4000000 in
theorem vX9_isWatcherWord_22 {l : Launch} {G : GG} {EX : State → Prop} (hE : EXB G EX) {r : Int32 × AH} : ∀ (l0 : Nat) (s0 : Int32) (h : AH) (t0 : KD l0 = 8), fX9_isWatcherWord_22 l0 s0 h = some r → U l G EX mi_X9_isWatcherWord 1 29 (some (.int r.1)) r.2 22 [(0, .ref (G.1 + l0))] [.int s0] h := by
  intro l0 s0 h t0 hx
  unfold fX9_isWatcherWord_22 at hx
  refine V.istore_n [(1, .int s0), (0, .ref (G.1 + l0))] dX9_isWatcherWord_22 rfl rfl (Nat.le_of_ble_eq_true rfl) rfl ?_
  refine V.aload_n (j := 1) dX9_isWatcherWord_23 rfl rfl rfl ?_
  refine V.iload_n (j := 0) dX9_isWatcherWord_24 rfl rfl rfl ?_
  refine V.if_eq (tgt := 33) hx dX9_isWatcherWord_25 (by decide) rfl (fun hx => ?_) (fun hx => ?_)
  · refine V.aload_n (j := 1) dX9_isWatcherWord_33 rfl rfl rfl ?_
    refine U.getI fl_X9_247 t0 dX9_isWatcherWord_34 rfl ?_
    refine V.pick [1, 0] rfl ?_
    exact vX9_isWatcherWord_37 hE l0 s0 l0 (hI h l0 14) h t0 t0 hx
  · refine V.bipush dX9_isWatcherWord_28 rfl kb_6 ?_
    refine V.goto (q := 37) dX9_isWatcherWord_30 (by decide) ?_
    refine V.pick [1, 0] rfl ?_
    exact vX9_isWatcherWord_37 hE l0 s0 l0 (6 : Int32) h t0 t0 hx
set_option maxRecDepth 100000 in
set_option maxHeartbeats 4000000 in
theorem vX9_isWatcherWord_21 {l : Launch} {G : GG} {EX : State → Prop} (hE : EXB G EX) {r : Int32 × AH} : ∀ (l0 : Nat) (h : AH) (t0 : KD l0 = 8), fX9_isWatcherWord_21 l0 h = some r → U l G EX mi_X9_isWatcherWord 1 29 (some (.int r.1)) r.2 21 [(0, .ref (G.1 + l0))] [] h := by
  intro l0 h t0 hx
  unfold fX9_isWatcherWord_21 at hx
  refine V.iconst dX9_isWatcherWord_21 rfl ki_0 ?_
  exact vX9_isWatcherWord_22 hE l0 (0 : Int32) h t0 hx
set_option maxRecDepth 100000 in
set_option maxHeartbeats 4000000 in
theorem mX9_isWatcherWord {l : Launch} {G : GG} {EX : State → Prop} (hE : EXB G EX) {th : Nat} {h : AH} (t0 : KD th = 8) {r : Int32 × AH} (hx : fX9_isWatcherWord th h = some r) : MetU l G EX mi_X9_isWatcherWord 1 29 [.ref (G.1 + th)] h (some (.int r.1)) r.2 := by
  refine MetU.of mic_X9_isWatcherWord.1 (Nat.le_of_ble_eq_true rfl) ?_
  refine show U l G EX mi_X9_isWatcherWord 1 29 (some (.int r.1)) r.2 0 [(0, .ref (G.1 + th))] [] h from ?_
  unfold fX9_isWatcherWord at hx
  refine V.aload_n (j := 0) dX9_isWatcherWord_0 rfl rfl rfl ?_
  refine U.getI fl_X9_250 t0 dX9_isWatcherWord_1 rfl ?_
  refine V.iconst dX9_isWatcherWord_4 rfl ki_1 ?_
  refine V.icmp_ne (tgt := 21) hx dX9_isWatcherWord_5 (by decide) rfl (fun hx => ?_) (fun hx => ?_)
  · exact vX9_isWatcherWord_21 hE th h t0 hx
  · refine V.aload_n (j := 0) dX9_isWatcherWord_8 rfl rfl rfl ?_
    refine U.getI fl_X9_247 t0 dX9_isWatcherWord_9 rfl ?_
    refine V.bipush dX9_isWatcherWord_12 rfl kb_7 ?_
    refine V.icmp_ne (tgt := 21) hx dX9_isWatcherWord_14 (by decide) rfl (fun hx => ?_) (fun hx => ?_)
    · exact vX9_isWatcherWord_21 hE th h t0 hx
    · refine V.iconst dX9_isWatcherWord_17 rfl ki_1 ?_
      refine V.goto (q := 22) dX9_isWatcherWord_18 (by decide) ?_
      exact vX9_isWatcherWord_22 hE th (1 : Int32) h t0 hx
set_option maxRecDepth 100000 in
set_option maxHeartbeats 4000000 in
theorem mX9_takesItem {l : Launch} {G : GG} {EX : State → Prop} (hE : EXB G EX) {th : Nat} {h : AH} (t0 : KD th = 8) {r : Int32 × AH} (hx : fX9_takesItem th h = some r) : MetU l G EX mi_X9_takesItem 9 211 [.ref (G.1 + th)] h (some (.int r.1)) r.2 := by
  refine MetU.of mic_X9_takesItem.1 (Nat.le_of_ble_eq_true rfl) ?_
  refine show U l G EX mi_X9_takesItem 9 211 (some (.int r.1)) r.2 0 [(0, .ref (G.1 + th))] [] h from ?_
  unfold fX9_takesItem at hx
  refine V.aload_n (j := 0) dX9_takesItem_0 rfl rfl rfl ?_
  refine V.iconst dX9_takesItem_1 rfl ki_4 ?_
  refine V.bipush dX9_takesItem_2 rfl kb_115 ?_
  refine V.bipush dX9_takesItem_4 rfl kb_104 ?_
  refine V.bipush dX9_takesItem_6 rfl kb_111 ?_
  refine V.bipush dX9_takesItem_8 rfl kb_119 ?_
  refine V.iconst dX9_takesItem_10 rfl ki_0 ?_
  refine V.iconst dX9_takesItem_11 rfl ki_0 ?_
  obtain ⟨v2, q1, hx⟩ := ob_some hx
  refine U.callV (As := [.int (4 : Int32), .int (115 : Int32), .int (104 : Int32), .int (111 : Int32), .int (119 : Int32), .int (0 : Int32), .int (0 : Int32)]) (rest := []) (st' := [.int v2]) hE.1 (mX9_spells hE t0 q1) mic_X9_spells rfl t0 (by decide) rfl rfl wq_m_X9_272 wq_i_yX9_spells wq_s_yX9_spells ⟨Nat.le_of_ble_eq_true rfl, Nat.le_of_ble_eq_true rfl⟩ (Nat.le_of_ble_eq_true rfl) dX9_takesItem_12 rfl rfl rfl ?_
  refine V.if_eq (tgt := 23) hx dX9_takesItem_15 (by decide) rfl (fun hx => ?_) (fun hx => ?_)
  · refine V.aload_n (j := 0) dX9_takesItem_23 rfl rfl rfl ?_
    refine V.iconst dX9_takesItem_24 rfl ki_3 ?_
    refine V.bipush dX9_takesItem_25 rfl kb_111 ?_
    refine V.bipush dX9_takesItem_27 rfl kb_102 ?_
    refine V.bipush dX9_takesItem_29 rfl kb_102 ?_
    refine V.iconst dX9_takesItem_31 rfl ki_0 ?_
    refine V.iconst dX9_takesItem_32 rfl ki_0 ?_
    refine V.iconst dX9_takesItem_33 rfl ki_0 ?_
    obtain ⟨v4, q3, hx⟩ := ob_some hx
    refine U.callV (As := [.int (3 : Int32), .int (111 : Int32), .int (102 : Int32), .int (102 : Int32), .int (0 : Int32), .int (0 : Int32), .int (0 : Int32)]) (rest := []) (st' := [.int v4]) hE.1 (mX9_spells hE t0 q3) mic_X9_spells rfl t0 (by decide) rfl rfl wq_m_X9_272 wq_i_yX9_spells wq_s_yX9_spells ⟨Nat.le_of_ble_eq_true rfl, Nat.le_of_ble_eq_true rfl⟩ (Nat.le_of_ble_eq_true rfl) dX9_takesItem_34 rfl rfl rfl ?_
    refine V.if_eq (tgt := 45) hx dX9_takesItem_37 (by decide) rfl (fun hx => ?_) (fun hx => ?_)
    · refine V.aload_n (j := 0) dX9_takesItem_45 rfl rfl rfl ?_
      refine V.iconst dX9_takesItem_46 rfl ki_2 ?_
      refine V.bipush dX9_takesItem_47 rfl kb_100 ?_
      refine V.bipush dX9_takesItem_49 rfl kb_111 ?_
      refine V.iconst dX9_takesItem_51 rfl ki_0 ?_
      refine V.iconst dX9_takesItem_52 rfl ki_0 ?_
      refine V.iconst dX9_takesItem_53 rfl ki_0 ?_
      refine V.iconst dX9_takesItem_54 rfl ki_0 ?_
      obtain ⟨v6, q5, hx⟩ := ob_some hx
      refine U.callV (As := [.int (2 : Int32), .int (100 : Int32), .int (111 : Int32), .int (0 : Int32), .int (0 : Int32), .int (0 : Int32), .int (0 : Int32)]) (rest := []) (st' := [.int v6]) hE.1 (mX9_spells hE t0 q5) mic_X9_spells rfl t0 (by decide) rfl rfl wq_m_X9_272 wq_i_yX9_spells wq_s_yX9_spells ⟨Nat.le_of_ble_eq_true rfl, Nat.le_of_ble_eq_true rfl⟩ (Nat.le_of_ble_eq_true rfl) dX9_takesItem_55 rfl rfl rfl ?_
      refine V.if_eq (tgt := 66) hx dX9_takesItem_58 (by decide) rfl (fun hx => ?_) (fun hx => ?_)
      · refine V.aload_n (j := 0) dX9_takesItem_66 rfl rfl rfl ?_
        refine V.iconst dX9_takesItem_67 rfl ki_4 ?_
        refine V.bipush dX9_takesItem_68 rfl kb_114 ?_
        refine V.bipush dX9_takesItem_70 rfl kb_101 ?_
        refine V.bipush dX9_takesItem_72 rfl kb_115 ?_
        refine V.bipush dX9_takesItem_74 rfl kb_116 ?_
        refine V.iconst dX9_takesItem_76 rfl ki_0 ?_
        refine V.iconst dX9_takesItem_77 rfl ki_0 ?_
        obtain ⟨v8, q7, hx⟩ := ob_some hx
        refine U.callV (As := [.int (4 : Int32), .int (114 : Int32), .int (101 : Int32), .int (115 : Int32), .int (116 : Int32), .int (0 : Int32), .int (0 : Int32)]) (rest := []) (st' := [.int v8]) hE.1 (mX9_spells hE t0 q7) mic_X9_spells rfl t0 (by decide) rfl rfl wq_m_X9_272 wq_i_yX9_spells wq_s_yX9_spells ⟨Nat.le_of_ble_eq_true rfl, Nat.le_of_ble_eq_true rfl⟩ (Nat.le_of_ble_eq_true rfl) dX9_takesItem_78 rfl rfl rfl ?_
        refine V.if_eq (tgt := 89) hx dX9_takesItem_81 (by decide) rfl (fun hx => ?_) (fun hx => ?_)
        · refine V.aload_n (j := 0) dX9_takesItem_89 rfl rfl rfl ?_
          obtain ⟨v11, h10, q9, hx⟩ := ob2_some hx
          refine U.callV (As := []) (rest := []) (st' := [.int v11]) hE.1 (mX9_isWatcherWord hE t0 q9) mic_X9_isWatcherWord rfl t0 (by decide) rfl rfl wq_m_X9_289 wq_i_yX9_isWatcherWord wq_s_yX9_isWatcherWord ⟨Nat.le_of_ble_eq_true rfl, Nat.le_of_ble_eq_true rfl⟩ (Nat.le_of_ble_eq_true rfl) dX9_takesItem_90 rfl rfl rfl ?_
          refine V.if_eq (tgt := 107) hx dX9_takesItem_93 (by decide) rfl (fun hx => ?_) (fun hx => ?_)
          · refine V.iconst dX9_takesItem_107 rfl ki_0 ?_
            obtain rfl := Option.some.inj hx
            exact U.retI rfl rfl rfl rfl dX9_takesItem_108
          · refine V.aload_n (j := 0) dX9_takesItem_96 rfl rfl rfl ?_
            obtain ⟨v14, h13, q12, hx⟩ := ob2_some hx
            refine U.callV (As := []) (rest := []) (st' := [.int v14]) hE.1 (mX9_takesWatcher hE t0 q12) mic_X9_takesWatcher rfl t0 (by decide) rfl rfl wq_m_X9_292 wq_i_yX9_takesWatcher wq_s_yX9_takesWatcher ⟨Nat.le_of_ble_eq_true rfl, Nat.le_of_ble_eq_true rfl⟩ (Nat.le_of_ble_eq_true rfl) dX9_takesItem_97 rfl rfl rfl ?_
            refine V.if_eq (tgt := 107) hx dX9_takesItem_100 (by decide) rfl (fun hx => ?_) (fun hx => ?_)
            · refine V.iconst dX9_takesItem_107 rfl ki_0 ?_
              obtain rfl := Option.some.inj hx
              exact U.retI rfl rfl rfl rfl dX9_takesItem_108
            · refine V.iconst dX9_takesItem_103 rfl ki_1 ?_
              refine V.goto (q := 108) dX9_takesItem_104 (by decide) ?_
              obtain rfl := Option.some.inj hx
              exact U.retI rfl rfl rfl rfl dX9_takesItem_108
        · refine V.aload_n (j := 0) dX9_takesItem_84 rfl rfl rfl ?_
          obtain ⟨v17, h16, q15, hx⟩ := ob2_some hx
          refine U.callV (As := []) (rest := []) (st' := [.int v17]) hE.1 (mX9_takesRest hE t0 q15) mic_X9_takesRest rfl t0 (by decide) rfl rfl wq_m_X9_286 wq_i_yX9_takesRest wq_s_yX9_takesRest ⟨Nat.le_of_ble_eq_true rfl, Nat.le_of_ble_eq_true rfl⟩ (Nat.le_of_ble_eq_true rfl) dX9_takesItem_85 rfl rfl rfl ?_
          obtain ⟨g18, hx⟩ := oG_some hx
          obtain rfl := Option.some.inj hx
          exact U.retI rfl rfl rfl (isB_nar g18) dX9_takesItem_88
      · refine V.aload_n (j := 0) dX9_takesItem_61 rfl rfl rfl ?_
        obtain ⟨v21, h20, q19, hx⟩ := ob2_some hx
        refine U.callV (As := []) (rest := []) (st' := [.int v21]) hE.1 (mX9_takesDo hE t0 q19) mic_X9_takesDo rfl t0 (by decide) rfl rfl wq_m_X9_283 wq_i_yX9_takesDo wq_s_yX9_takesDo ⟨Nat.le_of_ble_eq_true rfl, Nat.le_of_ble_eq_true rfl⟩ (Nat.le_of_ble_eq_true rfl) dX9_takesItem_62 rfl rfl rfl ?_
        obtain ⟨g22, hx⟩ := oG_some hx
        obtain rfl := Option.some.inj hx
        exact U.retI rfl rfl rfl (isB_nar g22) dX9_takesItem_65
    · refine V.aload_n (j := 0) dX9_takesItem_40 rfl rfl rfl ?_
      obtain ⟨v25, h24, q23, hx⟩ := ob2_some hx
      refine U.callV (As := []) (rest := []) (st' := [.int v25]) hE.1 (mX9_takesOff hE t0 q23) mic_X9_takesOff rfl t0 (by decide) rfl rfl wq_m_X9_280 wq_i_yX9_takesOff wq_s_yX9_takesOff ⟨Nat.le_of_ble_eq_true rfl, Nat.le_of_ble_eq_true rfl⟩ (Nat.le_of_ble_eq_true rfl) dX9_takesItem_41 rfl rfl rfl ?_
      obtain ⟨g26, hx⟩ := oG_some hx
      obtain rfl := Option.some.inj hx
      exact U.retI rfl rfl rfl (isB_nar g26) dX9_takesItem_44
  · refine V.aload_n (j := 0) dX9_takesItem_18 rfl rfl rfl ?_
    obtain ⟨v29, h28, q27, hx⟩ := ob2_some hx
    refine U.callV (As := []) (rest := []) (st' := [.int v29]) hE.1 (mX9_takesShow hE t0 q27) mic_X9_takesShow rfl t0 (by decide) rfl rfl wq_m_X9_276 wq_i_yX9_takesShow wq_s_yX9_takesShow ⟨Nat.le_of_ble_eq_true rfl, Nat.le_of_ble_eq_true rfl⟩ (Nat.le_of_ble_eq_true rfl) dX9_takesItem_19 rfl rfl rfl ?_
    obtain ⟨g30, hx⟩ := oG_some hx
    obtain rfl := Option.some.inj hx
    exact U.retI rfl rfl rfl (isB_nar g30) dX9_takesItem_22
set_option maxRecDepth 100000 in
set_option maxHeartbeats 4000000 in
theorem vX9_read_106 {l : Launch} {G : GG} {EX : State → Prop} (hE : EXB G EX) {r : Int32 × AH} : ∀ (n : Nat) (l0 : Nat) (l1 : Int32) (l2 : Int32) (h : AH) (t0 : KD l0 = 8), fX9_read_106 n l0 l1 l2 h = some r → U l G EX mi_X9_read 10 231 (some (.int r.1)) r.2 106 [(0, .ref (G.1 + l0)), (1, .int l1), (2, .int l2)] [] h := by
  intro n
  induction n with
  | zero =>
    intro l0 l1 l2 h t0 hx
    have hx : none = some r := hx
    cases hx
  | succ n ih =>
    intro l0 l1 l2 h t0 hx
    rw [fX9_read_106] at hx
    refine V.iload_n (j := 2) dX9_read_106 rfl rfl rfl ?_
    refine V.bipush dX9_read_107 rfl kb_112 ?_
    refine V.icmp_ge (tgt := 130) hx dX9_read_109 (by decide) rfl (fun hx => ?_) (fun hx => ?_)
    · refine V.iload_n (j := 1) dX9_read_130 rfl rfl rfl ?_
      obtain rfl := Option.some.inj hx
      exact U.retI rfl rfl rfl rfl dX9_read_131
    · refine V.aload_n (j := 0) dX9_read_112 rfl rfl rfl ?_
      refine U.getP fl_X9_7 t0 dX9_read_113 rfl ?_
      refine V.iload_n (j := 2) dX9_read_116 rfl rfl rfl ?_
      refine V.aload_n (j := 0) dX9_read_117 rfl rfl rfl ?_
      refine U.getP fl_X9_45 t0 dX9_read_118 rfl ?_
      refine V.iload_n (j := 2) dX9_read_121 rfl rfl rfl ?_
      refine U.iald hx (ty_X9_17 t0) dX9_read_122 rfl (fun hx => ?_)
      refine U.iast hx (ty_X9_0 t0) dX9_read_123 rfl (fun h11 hx => ?_)
      refine U.iinc hx (fun v12 => [(2, .int v12), (0, .ref (G.1 + l0)), (1, .int l1)]) (j := 2) rfl (by decide) (Nat.le_of_ble_eq_true rfl) (fun _ => rfl) dX9_read_124 rfl (fun v12 hx => ?_)
      refine V.goto (q := 106) dX9_read_127 (by decide) ?_
      refine V.pick [1, 2, 0] rfl ?_
      exact ih l0 l1 v12 h11 t0 hx
set_option maxRecDepth 100000 in
set_option maxHeartbeats 4000000 in
theorem vX9_read_104 {l : Launch} {G : GG} {EX : State → Prop} (hE : EXB G EX) {r : Int32 × AH} : ∀ (l0 : Nat) (l1 : Int32) (h : AH) (t0 : KD l0 = 8), fX9_read_104 l0 l1 h = some r → U l G EX mi_X9_read 10 231 (some (.int r.1)) r.2 104 [(0, .ref (G.1 + l0)), (1, .int l1)] [] h := by
  intro l0 l1 h t0 hx
  unfold fX9_read_104 at hx
  refine V.iconst dX9_read_104 rfl ki_0 ?_
  refine V.istore_n [(2, .int (0 : Int32)), (0, .ref (G.1 + l0)), (1, .int l1)] dX9_read_105 rfl rfl (Nat.le_of_ble_eq_true rfl) rfl ?_
  refine V.pick [1, 2, 0] rfl ?_
  exact vX9_read_106 hE FU l0 l1 (0 : Int32) h t0 hx
set_option maxRecDepth 100000 in
set_option maxHeartbeats 4000000 in
theorem vX9_read_86 {l : Launch} {G : GG} {EX : State → Prop} (hE : EXB G EX) {r : Int32 × AH} : ∀ (l0 : Nat) (h : AH) (t0 : KD l0 = 8), fX9_read_86 l0 h = some r → U l G EX mi_X9_read 10 231 (some (.int r.1)) r.2 86 [(0, .ref (G.1 + l0))] [] h := by
  intro l0 h t0 hx
  unfold fX9_read_86 at hx
  refine V.bipush dX9_read_86 rfl kb_m10 ?_
  refine V.aload_n (j := 0) dX9_read_88 rfl rfl rfl ?_
  refine U.getI fl_X9_244 t0 dX9_read_89 rfl ?_
  refine V.isub dX9_read_92 rfl ?_
  obtain rfl := Option.some.inj hx
  exact U.retI rfl rfl rfl rfl dX9_read_93
set_option maxRecDepth 100000 in
set_option maxHeartbeats 4000000 in
theorem vX9_read_64 {l : Launch} {G : GG} {EX : State → Prop} (hE : EXB G EX) {r : Int32 × AH} : ∀ (n : Nat) (l0 : Nat) (l1 : Int32) (h : AH) (t0 : KD l0 = 8), fX9_read_64 n l0 l1 h = some r → U l G EX mi_X9_read 10 231 (some (.int r.1)) r.2 64 [(0, .ref (G.1 + l0)), (1, .int l1)] [] h := by
  intro n
  induction n with
  | zero =>
    intro l0 l1 h t0 hx
    have hx : none = some r := hx
    cases hx
  | succ n ih =>
    intro l0 l1 h t0 hx
    rw [fX9_read_64] at hx
    refine V.aload_n (j := 0) dX9_read_64 rfl rfl rfl ?_
    refine U.getI fl_X9_250 t0 dX9_read_65 rfl ?_
    refine V.if_eq (tgt := 104) hx dX9_read_68 (by decide) rfl (fun hx => ?_) (fun hx => ?_)
    · exact vX9_read_104 hE l0 l1 h t0 hx
    · refine V.aload_n (j := 0) dX9_read_71 rfl rfl rfl ?_
      obtain ⟨v15, h14, q13, hx⟩ := ob2_some hx
      refine U.callV (As := []) (rest := []) (st' := [.int v15]) hE.1 (mX9_takesItem hE t0 q13) mic_X9_takesItem rfl t0 (by decide) rfl rfl wq_m_X9_295 wq_i_yX9_takesItem wq_s_yX9_takesItem ⟨Nat.le_of_ble_eq_true rfl, Nat.le_of_ble_eq_true rfl⟩ (Nat.le_of_ble_eq_true rfl) dX9_read_72 rfl rfl rfl ?_
      refine V.if_eq (tgt := 86) hx dX9_read_75 (by decide) rfl (fun hx => ?_) (fun hx => ?_)
      · refine V.pick [0] rfl ?_
        exact vX9_read_86 hE l0 h14 t0 hx
      · refine V.aload_n (j := 0) dX9_read_78 rfl rfl rfl ?_
        refine U.getI fl_X9_250 t0 dX9_read_79 rfl ?_
        refine V.iconst dX9_read_82 rfl ki_3 ?_
        refine V.icmp_eq (tgt := 94) hx dX9_read_83 (by decide) rfl (fun hx => ?_) (fun hx => ?_)
        · refine V.aload_n (j := 0) dX9_read_94 rfl rfl rfl ?_
          obtain ⟨h17, q16, hx⟩ := ob_some hx
          refine U.callV (As := []) (rest := []) (st' := []) hE.1 (mX9_goBehind hE t0 q16) mic_X9_goBehind rfl t0 (by decide) rfl rfl wq_m_X9_266 wq_i_yX9_goBehind wq_s_yX9_goBehind ⟨Nat.le_of_ble_eq_true rfl, Nat.le_of_ble_eq_true rfl⟩ (Nat.le_of_ble_eq_true rfl) dX9_read_95 rfl rfl rfl ?_
          refine U.iinc hx (fun v18 => [(1, .int v18), (0, .ref (G.1 + l0))]) (j := 1) rfl (by decide) (Nat.le_of_ble_eq_true rfl) (fun _ => rfl) dX9_read_98 rfl (fun v18 hx => ?_)
          refine V.goto (q := 64) dX9_read_101 (by decide) ?_
          refine V.pick [1, 0] rfl ?_
          exact ih l0 v18 h17 t0 hx
        · refine V.pick [0] rfl ?_
          exact vX9_read_86 hE l0 h14 t0 hx
set_option maxRecDepth 100000 in
set_option maxHeartbeats 4000000 in
theorem mX9_read {l : Launch} {G : GG} {EX : State → Prop} (hE : EXB G EX) {th : Nat} {h : AH} (t0 : KD th = 8) {r : Int32 × AH} (hx : fX9_read th h = some r) : MetU l G EX mi_X9_read 10 231 [.ref (G.1 + th)] h (some (.int r.1)) r.2 := by
  refine MetU.of mic_X9_read.1 (Nat.le_of_ble_eq_true rfl) ?_
  refine show U l G EX mi_X9_read 10 231 (some (.int r.1)) r.2 0 [(0, .ref (G.1 + th))] [] h from ?_
  unfold fX9_read at hx
  refine V.aload_n (j := 0) dX9_read_0 rfl rfl rfl ?_
  refine V.iconst dX9_read_1 rfl ki_0 ?_
  obtain ⟨h2, q1, hx⟩ := ob_some hx
  refine U.callV (As := [.int (0 : Int32)]) (rest := []) (st' := []) hE.1 (mX9_lookAt hE t0 q1) mic_X9_lookAt rfl t0 (by decide) rfl rfl wq_m_X9_262 wq_i_yX9_lookAt wq_s_yX9_lookAt ⟨Nat.le_of_ble_eq_true rfl, Nat.le_of_ble_eq_true rfl⟩ (Nat.le_of_ble_eq_true rfl) dX9_read_2 rfl rfl rfl ?_
  refine V.aload_n (j := 0) dX9_read_5 rfl rfl rfl ?_
  refine V.iconst dX9_read_6 rfl ki_4 ?_
  refine V.bipush dX9_read_7 rfl kb_108 ?_
  refine V.bipush dX9_read_9 rfl kb_97 ?_
  refine V.bipush dX9_read_11 rfl kb_110 ?_
  refine V.bipush dX9_read_13 rfl kb_100 ?_
  refine V.iconst dX9_read_15 rfl ki_0 ?_
  refine V.iconst dX9_read_16 rfl ki_0 ?_
  obtain ⟨v4, q3, hx⟩ := ob_some hx
  refine U.callV (As := [.int (4 : Int32), .int (108 : Int32), .int (97 : Int32), .int (110 : Int32), .int (100 : Int32), .int (0 : Int32), .int (0 : Int32)]) (rest := []) (st' := [.int v4]) hE.1 (mX9_spells hE t0 q3) mic_X9_spells rfl t0 (by decide) rfl rfl wq_m_X9_272 wq_i_yX9_spells wq_s_yX9_spells ⟨Nat.le_of_ble_eq_true rfl, Nat.le_of_ble_eq_true rfl⟩ (Nat.le_of_ble_eq_true rfl) dX9_read_17 rfl rfl rfl ?_
  refine V.if_ne (tgt := 31) hx dX9_read_20 (by decide) rfl (fun hx => ?_) (fun hx => ?_)
  · refine V.aload_n (j := 0) dX9_read_31 rfl rfl rfl ?_
    obtain ⟨h6, q5, hx⟩ := ob_some hx
    refine U.callV (As := []) (rest := []) (st' := []) hE.1 (mX9_goBehind hE t0 q5) mic_X9_goBehind rfl t0 (by decide) rfl rfl wq_m_X9_266 wq_i_yX9_goBehind wq_s_yX9_goBehind ⟨Nat.le_of_ble_eq_true rfl, Nat.le_of_ble_eq_true rfl⟩ (Nat.le_of_ble_eq_true rfl) dX9_read_32 rfl rfl rfl ?_
    refine V.aload_n (j := 0) dX9_read_35 rfl rfl rfl ?_
    refine U.getI fl_X9_250 t0 dX9_read_36 rfl ?_
    refine V.iconst dX9_read_39 rfl ki_3 ?_
    refine V.icmp_eq (tgt := 51) hx dX9_read_40 (by decide) rfl (fun hx => ?_) (fun hx => ?_)
    · refine V.aload_n (j := 0) dX9_read_51 rfl rfl rfl ?_
      obtain ⟨h8, q7, hx⟩ := ob_some hx
      refine U.callV (As := []) (rest := []) (st' := []) hE.1 (mX9_goBehind hE t0 q7) mic_X9_goBehind rfl t0 (by decide) rfl rfl wq_m_X9_266 wq_i_yX9_goBehind wq_s_yX9_goBehind ⟨Nat.le_of_ble_eq_true rfl, Nat.le_of_ble_eq_true rfl⟩ (Nat.le_of_ble_eq_true rfl) dX9_read_52 rfl rfl rfl ?_
      refine V.aload_n (j := 0) dX9_read_55 rfl rfl rfl ?_
      refine U.getP fl_X9_45 t0 dX9_read_56 rfl ?_
      obtain ⟨h10, q9, hx⟩ := ob_some hx
      refine U.callS (As := [.ref (G.1 + (PC th 17))]) (rest := []) (st' := []) hE.1 (mX9_begin hE (ty_X9_17 t0) q9) mic_X9_begin rfl wq_m_X9_51 wq_t_yX9_begin ⟨Nat.le_of_ble_eq_true rfl, Nat.le_of_ble_eq_true rfl⟩ (Nat.le_of_ble_eq_true rfl) dX9_read_59 rfl rfl rfl ?_
      refine V.iconst dX9_read_62 rfl ki_1 ?_
      refine V.istore_n [(1, .int (1 : Int32)), (0, .ref (G.1 + th))] dX9_read_63 rfl rfl (Nat.le_of_ble_eq_true rfl) rfl ?_
      refine V.pick [1, 0] rfl ?_
      exact vX9_read_64 hE FU th (1 : Int32) h10 t0 hx
    · refine V.bipush dX9_read_43 rfl kb_m10 ?_
      refine V.aload_n (j := 0) dX9_read_45 rfl rfl rfl ?_
      refine U.getI fl_X9_244 t0 dX9_read_46 rfl ?_
      refine V.isub dX9_read_49 rfl ?_
      obtain rfl := Option.some.inj hx
      exact U.retI rfl rfl rfl rfl dX9_read_50
  · refine V.bipush dX9_read_23 rfl kb_m10 ?_
    refine V.aload_n (j := 0) dX9_read_25 rfl rfl rfl ?_
    refine U.getI fl_X9_244 t0 dX9_read_26 rfl ?_
    refine V.isub dX9_read_29 rfl ?_
    obtain rfl := Option.some.inj hx
    exact U.retI rfl rfl rfl rfl dX9_read_30
set_option maxRecDepth 100000 in
set_option maxHeartbeats 4000000 in
theorem mX9_part {l : Launch} {G : GG} {EX : State → Prop} (hE : EXB G EX) {th : Nat} {a1 : Int32} {h : AH} (t0 : KD th = 8) {r : Int64 × AH} (hx : fX9_part th a1 h = some r) : MetU l G EX mi_X9_part 1 21 [.ref (G.1 + th), .int a1] h (some (.long r.1)) r.2 := by
  refine MetU.of mic_X9_part.1 (Nat.le_of_ble_eq_true rfl) ?_
  refine show U l G EX mi_X9_part 1 21 (some (.long r.1)) r.2 0 [(0, .ref (G.1 + th)), (1, .int a1)] [] h from ?_
  unfold fX9_part at hx
  refine V.iload_n (j := 1) dX9_part_0 rfl rfl rfl ?_
  refine V.if_ne (tgt := 11) hx dX9_part_1 (by decide) rfl (fun hx => ?_) (fun hx => ?_)
  · refine V.iload_n (j := 1) dX9_part_11 rfl rfl rfl ?_
    refine V.iconst dX9_part_12 rfl ki_1 ?_
    refine V.icmp_ne (tgt := 23) hx dX9_part_13 (by decide) rfl (fun hx => ?_) (fun hx => ?_)
    · refine V.aload_n (j := 0) dX9_part_23 rfl rfl rfl ?_
      refine V.bipush dX9_part_24 rfl kb_m2 ?_
      obtain ⟨v3, h2, q1, hx⟩ := ob2_some hx
      refine U.callV (As := [.int (-2 : Int32)]) (rest := []) (st' := [.int v3]) hE.1 (mX9_bad hE t0 q1) mic_X9_bad rfl t0 (by decide) rfl rfl wq_m_X9_78 wq_i_yX9_bad wq_s_yX9_bad ⟨Nat.le_of_ble_eq_true rfl, Nat.le_of_ble_eq_true rfl⟩ (Nat.le_of_ble_eq_true rfl) dX9_part_26 rfl rfl rfl ?_
      refine V.i2l dX9_part_29 rfl ?_
      obtain rfl := Option.some.inj hx
      exact U.retJ rfl rfl rfl dX9_part_30
    · refine V.aload_n (j := 0) dX9_part_16 rfl rfl rfl ?_
      refine U.getJ fl_X9_23 t0 dX9_part_17 rfl ?_
      refine V.goto (q := 30) dX9_part_20 (by decide) ?_
      obtain rfl := Option.some.inj hx
      exact U.retJ rfl rfl rfl dX9_part_30
  · refine V.aload_n (j := 0) dX9_part_4 rfl rfl rfl ?_
    refine U.getJ fl_X9_207 t0 dX9_part_5 rfl ?_
    refine V.goto (q := 30) dX9_part_8 (by decide) ?_
    obtain rfl := Option.some.inj hx
    exact U.retJ rfl rfl rfl dX9_part_30
set_option maxRecDepth 100000 in
set_option maxHeartbeats 4000000 in
theorem vX9_image_50 {l : Launch} {G : GG} {EX : State → Prop} (hE : EXB G EX) {r : Int32 × AH} : ∀ (l0 : Nat) (l1 : Int32) (h : AH) (t0 : KD l0 = 8), fX9_image_50 l0 l1 h = some r → U l G EX mi_X9_image 1 25 (some (.int r.1)) r.2 50 [(0, .ref (G.1 + l0)), (1, .int l1)] [] h := by
  intro l0 l1 h t0 hx
  unfold fX9_image_50 at hx
  refine V.aload_n (j := 0) dX9_image_50 rfl rfl rfl ?_
  refine U.getP fl_X9_16 t0 dX9_image_51 rfl ?_
  refine V.iload_n (j := 1) dX9_image_54 rfl rfl rfl ?_
  refine V.iconst dX9_image_55 rfl ki_1 ?_
  refine U.zast hx (ty_X9_2 t0) dX9_image_56 rfl (fun h3 hx => ?_)
  refine V.iconst dX9_image_57 rfl ki_1 ?_
  obtain rfl := Option.some.inj hx
  exact U.retI rfl rfl rfl rfl dX9_image_58
set_option maxRecDepth 100000 in
set_option maxHeartbeats 4000000 in
theorem vX9_image_19 {l : Launch} {G : GG} {EX : State → Prop} (hE : EXB G EX) {r : Int32 × AH} : ∀ (n : Nat) (l0 : Nat) (l1 : Int32) (l2 : Int32) (h : AH) (t0 : KD l0 = 8), fX9_image_19 n l0 l1 l2 h = some r → U l G EX mi_X9_image 1 25 (some (.int r.1)) r.2 19 [(0, .ref (G.1 + l0)), (1, .int l1), (2, .int l2)] [] h := by
  intro n
  induction n with
  | zero =>
    intro l0 l1 l2 h t0 hx
    have hx : none = some r := hx
    cases hx
  | succ n ih =>
    intro l0 l1 l2 h t0 hx
    rw [fX9_image_19] at hx
    refine V.iload_n (j := 2) dX9_image_19 rfl rfl rfl ?_
    refine V.sipush dX9_image_20 rfl ks_304 ?_
    refine V.icmp_ge (tgt := 50) hx dX9_image_23 (by decide) rfl (fun hx => ?_) (fun hx => ?_)
    · refine V.pick [0, 1] rfl ?_
      exact vX9_image_50 hE l0 l1 h t0 hx
    · refine V.aload_n (j := 0) dX9_image_26 rfl rfl rfl ?_
      refine U.getP fl_X9_13 t0 dX9_image_27 rfl ?_
      refine V.sipush dX9_image_30 rfl ks_304 ?_
      refine V.iload_n (j := 1) dX9_image_33 rfl rfl rfl ?_
      refine V.imul dX9_image_34 rfl ?_
      refine V.iload_n (j := 2) dX9_image_35 rfl rfl rfl ?_
      refine V.iadd dX9_image_36 rfl ?_
      refine V.aload_n (j := 0) dX9_image_37 rfl rfl rfl ?_
      refine U.getP fl_X9_7 t0 dX9_image_38 rfl ?_
      refine V.iload_n (j := 2) dX9_image_41 rfl rfl rfl ?_
      refine U.iald hx (ty_X9_0 t0) dX9_image_42 rfl (fun hx => ?_)
      refine U.iast hx (ty_X9_1 t0) dX9_image_43 rfl (fun h4 hx => ?_)
      refine U.iinc hx (fun v5 => [(2, .int v5), (0, .ref (G.1 + l0)), (1, .int l1)]) (j := 2) rfl (by decide) (Nat.le_of_ble_eq_true rfl) (fun _ => rfl) dX9_image_44 rfl (fun v5 hx => ?_)
      refine V.goto (q := 19) dX9_image_47 (by decide) ?_
      refine V.pick [1, 2, 0] rfl ?_
      exact ih l0 l1 v5 h4 t0 hx
set_option maxRecDepth 100000 in
set_option maxHeartbeats 4000000 in
theorem mX9_image {l : Launch} {G : GG} {EX : State → Prop} (hE : EXB G EX) {th : Nat} {a1 : Int32} {h : AH} (t0 : KD th = 8) {r : Int32 × AH} (hx : fX9_image th a1 h = some r) : MetU l G EX mi_X9_image 1 25 [.ref (G.1 + th), .int a1] h (some (.int r.1)) r.2 := by
  refine MetU.of mic_X9_image.1 (Nat.le_of_ble_eq_true rfl) ?_
  refine show U l G EX mi_X9_image 1 25 (some (.int r.1)) r.2 0 [(0, .ref (G.1 + th)), (1, .int a1)] [] h from ?_
  unfold fX9_image at hx
  refine V.iload_n (j := 1) dX9_image_0 rfl rfl rfl ?_
  refine V.i2l dX9_image_1 rfl ?_
  refine V.lconst dX9_image_2 rfl kl_0 ?_
  refine V.lconst dX9_image_3 rfl kl_1 ?_
  obtain ⟨v2, q1, hx⟩ := ob_some hx
  refine U.callS (As := [.long a1.toInt64, .long (0 : Int64), .long (1 : Int64)]) (rest := []) (st' := [.int v2]) hE.1 (mX9_in hE q1) mic_X9_in rfl wq_m_X9_59 wq_t_yX9_in ⟨Nat.le_of_ble_eq_true rfl, Nat.le_of_ble_eq_true rfl⟩ (Nat.le_of_ble_eq_true rfl) dX9_image_4 rfl rfl rfl ?_
  refine V.if_ne (tgt := 17) hx dX9_image_7 (by decide) rfl (fun hx => ?_) (fun hx => ?_)
  · refine V.iconst dX9_image_17 rfl ki_0 ?_
    refine V.istore_n [(2, .int (0 : Int32)), (0, .ref (G.1 + th)), (1, .int a1)] dX9_image_18 rfl rfl (Nat.le_of_ble_eq_true rfl) rfl ?_
    refine V.pick [1, 2, 0] rfl ?_
    exact vX9_image_19 hE FU th a1 (0 : Int32) h t0 hx
  · refine V.aload_n (j := 0) dX9_image_10 rfl rfl rfl ?_
    refine V.bipush dX9_image_11 rfl kb_m2 ?_
    obtain ⟨v8, h7, q6, hx⟩ := ob2_some hx
    refine U.callV (As := [.int (-2 : Int32)]) (rest := []) (st' := [.int v8]) hE.1 (mX9_bad hE t0 q6) mic_X9_bad rfl t0 (by decide) rfl rfl wq_m_X9_78 wq_i_yX9_bad wq_s_yX9_bad ⟨Nat.le_of_ble_eq_true rfl, Nat.le_of_ble_eq_true rfl⟩ (Nat.le_of_ble_eq_true rfl) dX9_image_13 rfl rfl rfl ?_
    obtain rfl := Option.some.inj hx
    exact U.retI rfl rfl rfl rfl dX9_image_16
set_option maxRecDepth 100000 in
set_option maxHeartbeats 4000000 in
theorem vX9_from_33 {l : Launch} {G : GG} {EX : State → Prop} (hE : EXB G EX) {r : Int32 × AH} : ∀ (n : Nat) (l0 : Nat) (l1 : Int32) (l2 : Int32) (h : AH) (t0 : KD l0 = 8), fX9_from_33 n l0 l1 l2 h = some r → U l G EX mi_X9_from 1 25 (some (.int r.1)) r.2 33 [(0, .ref (G.1 + l0)), (1, .int l1), (2, .int l2)] [] h := by
  intro n
  induction n with
  | zero =>
    intro l0 l1 l2 h t0 hx
    have hx : none = some r := hx
    cases hx
  | succ n ih =>
    intro l0 l1 l2 h t0 hx
    rw [fX9_from_33] at hx
    refine V.iload_n (j := 2) dX9_from_33 rfl rfl rfl ?_
    refine V.sipush dX9_from_34 rfl ks_304 ?_
    refine V.icmp_ge (tgt := 64) hx dX9_from_37 (by decide) rfl (fun hx => ?_) (fun hx => ?_)
    · refine V.iconst dX9_from_64 rfl ki_1 ?_
      obtain rfl := Option.some.inj hx
      exact U.retI rfl rfl rfl rfl dX9_from_65
    · refine V.aload_n (j := 0) dX9_from_40 rfl rfl rfl ?_
      refine U.getP fl_X9_7 t0 dX9_from_41 rfl ?_
      refine V.iload_n (j := 2) dX9_from_44 rfl rfl rfl ?_
      refine V.aload_n (j := 0) dX9_from_45 rfl rfl rfl ?_
      refine U.getP fl_X9_13 t0 dX9_from_46 rfl ?_
      refine V.sipush dX9_from_49 rfl ks_304 ?_
      refine V.iload_n (j := 1) dX9_from_52 rfl rfl rfl ?_
      refine V.imul dX9_from_53 rfl ?_
      refine V.iload_n (j := 2) dX9_from_54 rfl rfl rfl ?_
      refine V.iadd dX9_from_55 rfl ?_
      refine U.iald hx (ty_X9_1 t0) dX9_from_56 rfl (fun hx => ?_)
      refine U.iast hx (ty_X9_0 t0) dX9_from_57 rfl (fun h3 hx => ?_)
      refine U.iinc hx (fun v4 => [(2, .int v4), (0, .ref (G.1 + l0)), (1, .int l1)]) (j := 2) rfl (by decide) (Nat.le_of_ble_eq_true rfl) (fun _ => rfl) dX9_from_58 rfl (fun v4 hx => ?_)
      refine V.goto (q := 33) dX9_from_61 (by decide) ?_
      refine V.pick [1, 2, 0] rfl ?_
      exact ih l0 l1 v4 h3 t0 hx
set_option maxRecDepth 100000 in
set_option maxHeartbeats 4000000 in
theorem mX9_from {l : Launch} {G : GG} {EX : State → Prop} (hE : EXB G EX) {th : Nat} {a1 : Int32} {h : AH} (t0 : KD th = 8) {r : Int32 × AH} (hx : fX9_from th a1 h = some r) : MetU l G EX mi_X9_from 1 25 [.ref (G.1 + th), .int a1] h (some (.int r.1)) r.2 := by
  refine MetU.of mic_X9_from.1 (Nat.le_of_ble_eq_true rfl) ?_
  refine show U l G EX mi_X9_from 1 25 (some (.int r.1)) r.2 0 [(0, .ref (G.1 + th)), (1, .int a1)] [] h from ?_
  unfold fX9_from at hx
  refine V.iload_n (j := 1) dX9_from_0 rfl rfl rfl ?_
  refine V.i2l dX9_from_1 rfl ?_
  refine V.lconst dX9_from_2 rfl kl_0 ?_
  refine V.lconst dX9_from_3 rfl kl_1 ?_
  obtain ⟨v2, q1, hx⟩ := ob_some hx
  refine U.callS (As := [.long a1.toInt64, .long (0 : Int64), .long (1 : Int64)]) (rest := []) (st' := [.int v2]) hE.1 (mX9_in hE q1) mic_X9_in rfl wq_m_X9_59 wq_t_yX9_in ⟨Nat.le_of_ble_eq_true rfl, Nat.le_of_ble_eq_true rfl⟩ (Nat.le_of_ble_eq_true rfl) dX9_from_4 rfl rfl rfl ?_
  refine V.if_ne (tgt := 17) hx dX9_from_7 (by decide) rfl (fun hx => ?_) (fun hx => ?_)
  · refine V.aload_n (j := 0) dX9_from_17 rfl rfl rfl ?_
    refine U.getP fl_X9_16 t0 dX9_from_18 rfl ?_
    refine V.iload_n (j := 1) dX9_from_21 rfl rfl rfl ?_
    refine U.zald hx (ty_X9_2 t0) dX9_from_22 rfl (fun hx => ?_)
    refine V.if_ne (tgt := 31) hx dX9_from_23 (by decide) rfl (fun hx => ?_) (fun hx => ?_)
    · refine V.iconst dX9_from_31 rfl ki_0 ?_
      refine V.istore_n [(2, .int (0 : Int32)), (0, .ref (G.1 + th)), (1, .int a1)] dX9_from_32 rfl rfl (Nat.le_of_ble_eq_true rfl) rfl ?_
      refine V.pick [1, 2, 0] rfl ?_
      exact vX9_from_33 hE FU th a1 (0 : Int32) h t0 hx
    · refine V.aload_n (j := 0) dX9_from_26 rfl rfl rfl ?_
      obtain ⟨v7, h6, q5, hx⟩ := ob2_some hx
      refine U.callV (As := []) (rest := []) (st' := [.int v7]) hE.1 (mX9_no hE t0 q5) mic_X9_no rfl t0 (by decide) rfl rfl wq_m_X9_162 wq_i_yX9_no wq_s_yX9_no ⟨Nat.le_of_ble_eq_true rfl, Nat.le_of_ble_eq_true rfl⟩ (Nat.le_of_ble_eq_true rfl) dX9_from_27 rfl rfl rfl ?_
      obtain rfl := Option.some.inj hx
      exact U.retI rfl rfl rfl rfl dX9_from_30
  · refine V.aload_n (j := 0) dX9_from_10 rfl rfl rfl ?_
    refine V.bipush dX9_from_11 rfl kb_m2 ?_
    obtain ⟨v10, h9, q8, hx⟩ := ob2_some hx
    refine U.callV (As := [.int (-2 : Int32)]) (rest := []) (st' := [.int v10]) hE.1 (mX9_bad hE t0 q8) mic_X9_bad rfl t0 (by decide) rfl rfl wq_m_X9_78 wq_i_yX9_bad wq_s_yX9_bad ⟨Nat.le_of_ble_eq_true rfl, Nat.le_of_ble_eq_true rfl⟩ (Nat.le_of_ble_eq_true rfl) dX9_from_13 rfl rfl rfl ?_
    obtain rfl := Option.some.inj hx
    exact U.retI rfl rfl rfl rfl dX9_from_16
set_option maxRecDepth 100000 in
set_option maxHeartbeats 4000000 in
theorem mX9_status {l : Launch} {G : GG} {EX : State → Prop} (hE : EXB G EX) {th : Nat} {a1 : Int32} {h : AH} (t0 : KD th = 8) {r : Int32 × AH} (hx : fX9_status th a1 h = some r) : MetU l G EX mi_X9_status 1 25 [.ref (G.1 + th), .int a1] h (some (.int r.1)) r.2 := by
  refine MetU.of mic_X9_status.1 (Nat.le_of_ble_eq_true rfl) ?_
  refine show U l G EX mi_X9_status 1 25 (some (.int r.1)) r.2 0 [(0, .ref (G.1 + th)), (1, .int a1)] [] h from ?_
  unfold fX9_status at hx
  refine V.iload_n (j := 1) dX9_status_0 rfl rfl rfl ?_
  refine V.i2l dX9_status_1 rfl ?_
  refine V.lconst dX9_status_2 rfl kl_0 ?_
  refine V.ldc2_w dX9_status_3 rfl wq_l_X9_167 ?_
  obtain ⟨v2, q1, hx⟩ := ob_some hx
  refine U.callS (As := [.long a1.toInt64, .long (0 : Int64), .long (2 : Int64)]) (rest := []) (st' := [.int v2]) hE.1 (mX9_in hE q1) mic_X9_in rfl wq_m_X9_59 wq_t_yX9_in ⟨Nat.le_of_ble_eq_true rfl, Nat.le_of_ble_eq_true rfl⟩ (Nat.le_of_ble_eq_true rfl) dX9_status_6 rfl rfl rfl ?_
  refine V.if_eq (tgt := 21) hx dX9_status_9 (by decide) rfl (fun hx => ?_) (fun hx => ?_)
  · refine V.aload_n (j := 0) dX9_status_21 rfl rfl rfl ?_
    refine V.iconst dX9_status_22 rfl ki_m1 ?_
    obtain ⟨v5, h4, q3, hx⟩ := ob2_some hx
    refine U.callV (As := [.int (-1 : Int32)]) (rest := []) (st' := [.int v5]) hE.1 (mX9_bad hE t0 q3) mic_X9_bad rfl t0 (by decide) rfl rfl wq_m_X9_78 wq_i_yX9_bad wq_s_yX9_bad ⟨Nat.le_of_ble_eq_true rfl, Nat.le_of_ble_eq_true rfl⟩ (Nat.le_of_ble_eq_true rfl) dX9_status_23 rfl rfl rfl ?_
    obtain rfl := Option.some.inj hx
    exact U.retI rfl rfl rfl rfl dX9_status_26
  · refine V.aload_n (j := 0) dX9_status_12 rfl rfl rfl ?_
    refine U.getP fl_X9_20 t0 dX9_status_13 rfl ?_
    refine V.iload_n (j := 1) dX9_status_16 rfl rfl rfl ?_
    refine U.iald hx (ty_X9_3 t0) dX9_status_17 rfl (fun hx => ?_)
    refine V.goto (q := 26) dX9_status_18 (by decide) ?_
    obtain rfl := Option.some.inj hx
    exact U.retI rfl rfl rfl rfl dX9_status_26
set_option maxRecDepth 100000 in
set_option maxHeartbeats 4000000 in
theorem vX9_allKnow_4 {l : Launch} {G : GG} {EX : State → Prop} (hE : EXB G EX) {h : AH} {r : Int32} : ∀ (n : Nat) (l0 : Nat) (l1 : Int32) (l2 : Int32) (t0 : KD l0 = 8), fX9_allKnow_4 h n l0 l1 l2 = some r → U l G EX mi_X9_allKnow 1 20 (some (.int r)) h 4 [(0, .ref (G.1 + l0)), (1, .int l1), (2, .int l2)] [] h := by
  intro n
  induction n with
  | zero =>
    intro l0 l1 l2 t0 hx
    have hx : none = some r := hx
    cases hx
  | succ n ih =>
    intro l0 l1 l2 t0 hx
    rw [fX9_allKnow_4] at hx
    refine V.iload_n (j := 2) dX9_allKnow_4 rfl rfl rfl ?_
    refine V.aload_n (j := 0) dX9_allKnow_5 rfl rfl rfl ?_
    obtain ⟨v2, q1, hx⟩ := ob_some hx
    refine U.callV (As := []) (rest := [.int l2]) (st' := [.int v2, .int l2]) hE.1 (mX9_manyWatchers hE t0 q1) mic_X9_manyWatchers rfl t0 (by decide) rfl rfl wq_m_X9_63 wq_i_yX9_manyWatchers wq_s_yX9_manyWatchers ⟨Nat.le_of_ble_eq_true rfl, Nat.le_of_ble_eq_true rfl⟩ (Nat.le_of_ble_eq_true rfl) dX9_allKnow_6 rfl rfl rfl ?_
    refine V.icmp_ge (tgt := 30) hx dX9_allKnow_9 (by decide) rfl (fun hx => ?_) (fun hx => ?_)
    · refine V.iload_n (j := 1) dX9_allKnow_30 rfl rfl rfl ?_
      obtain rfl := Option.some.inj hx
      exact U.retI rfl rfl rfl rfl dX9_allKnow_31
    · refine V.iload_n (j := 1) dX9_allKnow_12 rfl rfl rfl ?_
      refine V.aload_n (j := 0) dX9_allKnow_13 rfl rfl rfl ?_
      refine U.getP fl_X9_7 t0 dX9_allKnow_14 rfl ?_
      refine V.bipush dX9_allKnow_17 rfl kb_6 ?_
      refine V.iload_n (j := 2) dX9_allKnow_19 rfl rfl rfl ?_
      refine V.iadd dX9_allKnow_20 rfl ?_
      refine U.iald hx (ty_X9_0 t0) dX9_allKnow_21 rfl (fun hx => ?_)
      refine V.iadd dX9_allKnow_22 rfl ?_
      refine U.letI hx (fun v3 hx => ?_)
      refine V.istore_n [(1, .int v3), (0, .ref (G.1 + l0)), (2, .int l2)] dX9_allKnow_23 rfl rfl (Nat.le_of_ble_eq_true rfl) rfl ?_
      refine U.iinc hx (fun v4 => [(2, .int v4), (1, .int v3), (0, .ref (G.1 + l0))]) (j := 2) rfl (by decide) (Nat.le_of_ble_eq_true rfl) (fun _ => rfl) dX9_allKnow_24 rfl (fun v4 hx => ?_)
      refine V.goto (q := 4) dX9_allKnow_27 (by decide) ?_
      refine V.pick [2, 1, 0] rfl ?_
      exact ih l0 v3 v4 t0 hx
set_option maxRecDepth 100000 in
set_option maxHeartbeats 4000000 in
theorem mX9_allKnow {l : Launch} {G : GG} {EX : State → Prop} (hE : EXB G EX) {th : Nat} {h : AH} (t0 : KD th = 8) {r : Int32} (hx : fX9_allKnow th h = some r) : MetU l G EX mi_X9_allKnow 1 20 [.ref (G.1 + th)] h (some (.int r)) h := by
  refine MetU.of mic_X9_allKnow.1 (Nat.le_of_ble_eq_true rfl) ?_
  refine show U l G EX mi_X9_allKnow 1 20 (some (.int r)) h 0 [(0, .ref (G.1 + th))] [] h from ?_
  unfold fX9_allKnow at hx
  refine V.iconst dX9_allKnow_0 rfl ki_0 ?_
  refine V.istore_n [(1, .int (0 : Int32)), (0, .ref (G.1 + th))] dX9_allKnow_1 rfl rfl (Nat.le_of_ble_eq_true rfl) rfl ?_
  refine V.iconst dX9_allKnow_2 rfl ki_0 ?_
  refine V.istore_n [(2, .int (0 : Int32)), (1, .int (0 : Int32)), (0, .ref (G.1 + th))] dX9_allKnow_3 rfl rfl (Nat.le_of_ble_eq_true rfl) rfl ?_
  refine V.pick [2, 1, 0] rfl ?_
  exact vX9_allKnow_4 hE FU th (0 : Int32) (0 : Int32) t0 hx
set_option maxRecDepth 100000 in
set_option maxHeartbeats 4000000 in
theorem mX9_counted {l : Launch} {G : GG} {EX : State → Prop} (hE : EXB G EX) {th : Nat} {a1 : Int32} {h : AH} (t0 : KD th = 8) {r : Int32} (hx : fX9_counted th a1 h = some r) : MetU l G EX mi_X9_counted 2 42 [.ref (G.1 + th), .int a1] h (some (.int r)) h := by
  refine MetU.of mic_X9_counted.1 (Nat.le_of_ble_eq_true rfl) ?_
  refine show U l G EX mi_X9_counted 2 42 (some (.int r)) h 0 [(0, .ref (G.1 + th)), (1, .int a1)] [] h from ?_
  unfold fX9_counted at hx
  refine V.iload_n (j := 1) dX9_counted_0 rfl rfl rfl ?_
  refine sw_case (ci := 0) hx (by decide) (fun c2 hx => ?_) (fun c2 hx => ?_)
  · refine V.tableIn (tgt := 60) dX9_counted_1 (by rw [c2]; decide) (by rw [c2]; decide) (by rw [c2]; rfl) (by decide) ?_
    refine V.aload_n (j := 0) dX9_counted_60 rfl rfl rfl ?_
    obtain ⟨v2, q1, hx⟩ := ob_some hx
    refine U.callV (As := []) (rest := []) (st' := [.int v2]) hE.1 (mX9_many hE t0 q1) mic_X9_many rfl t0 (by decide) rfl rfl wq_m_X9_55 wq_i_yX9_many wq_s_yX9_many ⟨Nat.le_of_ble_eq_true rfl, Nat.le_of_ble_eq_true rfl⟩ (Nat.le_of_ble_eq_true rfl) dX9_counted_61 rfl rfl rfl ?_
    obtain rfl := Option.some.inj hx
    exact U.retI rfl rfl rfl rfl dX9_counted_64
  refine sw_case (ci := 1) hx (by decide) (fun c5 hx => ?_) (fun c5 hx => ?_)
  · refine V.tableIn (tgt := 65) dX9_counted_1 (by rw [c5]; decide) (by rw [c5]; decide) (by rw [c5]; rfl) (by decide) ?_
    refine V.aload_n (j := 0) dX9_counted_65 rfl rfl rfl ?_
    obtain ⟨v5, q4, hx⟩ := ob_some hx
    refine U.callV (As := []) (rest := []) (st' := [.int v5]) hE.1 (mX9_manyWatchers hE t0 q4) mic_X9_manyWatchers rfl t0 (by decide) rfl rfl wq_m_X9_63 wq_i_yX9_manyWatchers wq_s_yX9_manyWatchers ⟨Nat.le_of_ble_eq_true rfl, Nat.le_of_ble_eq_true rfl⟩ (Nat.le_of_ble_eq_true rfl) dX9_counted_66 rfl rfl rfl ?_
    obtain rfl := Option.some.inj hx
    exact U.retI rfl rfl rfl rfl dX9_counted_69
  refine sw_case (ci := 2) hx (by decide) (fun c6 hx => ?_) (fun c6 hx => ?_)
  · refine V.tableIn (tgt := 70) dX9_counted_1 (by rw [c6]; decide) (by rw [c6]; decide) (by rw [c6]; rfl) (by decide) ?_
    refine V.aload_n (j := 0) dX9_counted_70 rfl rfl rfl ?_
    refine U.getP fl_X9_7 t0 dX9_counted_71 rfl ?_
    refine V.bipush dX9_counted_74 rfl kb_13 ?_
    refine U.iald hx (ty_X9_0 t0) dX9_counted_76 rfl (fun hx => ?_)
    obtain rfl := Option.some.inj hx
    exact U.retI rfl rfl rfl rfl dX9_counted_77
  refine sw_case (ci := 3) hx (by decide) (fun c7 hx => ?_) (fun c7 hx => ?_)
  · refine V.tableIn (tgt := 78) dX9_counted_1 (by rw [c7]; decide) (by rw [c7]; decide) (by rw [c7]; rfl) (by decide) ?_
    refine V.aload_n (j := 0) dX9_counted_78 rfl rfl rfl ?_
    refine U.getP fl_X9_7 t0 dX9_counted_79 rfl ?_
    refine V.bipush dX9_counted_82 rfl kb_12 ?_
    refine U.iald hx (ty_X9_0 t0) dX9_counted_84 rfl (fun hx => ?_)
    obtain rfl := Option.some.inj hx
    exact U.retI rfl rfl rfl rfl dX9_counted_85
  refine sw_case (ci := 4) hx (by decide) (fun c12 hx => ?_) (fun c12 hx => ?_)
  · refine V.tableIn (tgt := 86) dX9_counted_1 (by rw [c12]; decide) (by rw [c12]; decide) (by rw [c12]; rfl) (by decide) ?_
    refine V.aload_n (j := 0) dX9_counted_86 rfl rfl rfl ?_
    refine U.getP fl_X9_7 t0 dX9_counted_87 rfl ?_
    obtain ⟨v10, q9, hx⟩ := ob_some hx
    refine U.callS (As := [.ref (G.1 + (PC th 0))]) (rest := []) (st' := [.int v10]) hE.1 (mX9_isOn hE (ty_X9_0 t0) q9) mic_X9_isOn rfl wq_m_X9_133 wq_t_yX9_isOn ⟨Nat.le_of_ble_eq_true rfl, Nat.le_of_ble_eq_true rfl⟩ (Nat.le_of_ble_eq_true rfl) dX9_counted_90 rfl rfl rfl ?_
    obtain ⟨v12, q11, hx⟩ := ob_some hx
    refine U.callS (As := [.int v10]) (rest := []) (st' := [.int v12]) hE.1 (mX9_bits hE q11) mic_X9_bits rfl wq_m_X9_183 wq_t_yX9_bits ⟨Nat.le_of_ble_eq_true rfl, Nat.le_of_ble_eq_true rfl⟩ (Nat.le_of_ble_eq_true rfl) dX9_counted_93 rfl rfl rfl ?_
    obtain rfl := Option.some.inj hx
    exact U.retI rfl rfl rfl rfl dX9_counted_96
  refine sw_case (ci := 5) hx (by decide) (fun c15 hx => ?_) (fun c15 hx => ?_)
  · refine V.tableIn (tgt := 97) dX9_counted_1 (by rw [c15]; decide) (by rw [c15]; decide) (by rw [c15]; rfl) (by decide) ?_
    refine V.aload_n (j := 0) dX9_counted_97 rfl rfl rfl ?_
    obtain ⟨v15, q14, hx⟩ := ob_some hx
    refine U.callV (As := []) (rest := []) (st' := [.int v15]) hE.1 (mX9_allKnow hE t0 q14) mic_X9_allKnow rfl t0 (by decide) rfl rfl wq_m_X9_298 wq_i_yX9_allKnow wq_s_yX9_allKnow ⟨Nat.le_of_ble_eq_true rfl, Nat.le_of_ble_eq_true rfl⟩ (Nat.le_of_ble_eq_true rfl) dX9_counted_98 rfl rfl rfl ?_
    obtain rfl := Option.some.inj hx
    exact U.retI rfl rfl rfl rfl dX9_counted_101
  refine sw_case (ci := 6) hx (by decide) (fun c16 hx => ?_) (fun c16 hx => ?_)
  · refine V.tableIn (tgt := 114) dX9_counted_1 (by rw [c16]; decide) (by rw [c16]; decide) (by rw [c16]; rfl) (by decide) ?_
    refine V.aload_n (j := 0) dX9_counted_114 rfl rfl rfl ?_
    refine U.getP fl_X9_7 t0 dX9_counted_115 rfl ?_
    refine V.iconst dX9_counted_118 rfl ki_2 ?_
    refine V.iload_n (j := 1) dX9_counted_119 rfl rfl rfl ?_
    refine V.iadd dX9_counted_120 rfl ?_
    refine V.bipush dX9_counted_121 rfl kb_6 ?_
    refine V.isub dX9_counted_123 rfl ?_
    refine U.iald hx (ty_X9_0 t0) dX9_counted_124 rfl (fun hx => ?_)
    obtain rfl := Option.some.inj hx
    exact U.retI rfl rfl rfl rfl dX9_counted_125
  refine sw_case (ci := 7) hx (by decide) (fun c17 hx => ?_) (fun c17 hx => ?_)
  · refine V.tableIn (tgt := 114) dX9_counted_1 (by rw [c17]; decide) (by rw [c17]; decide) (by rw [c17]; rfl) (by decide) ?_
    refine V.aload_n (j := 0) dX9_counted_114 rfl rfl rfl ?_
    refine U.getP fl_X9_7 t0 dX9_counted_115 rfl ?_
    refine V.iconst dX9_counted_118 rfl ki_2 ?_
    refine V.iload_n (j := 1) dX9_counted_119 rfl rfl rfl ?_
    refine V.iadd dX9_counted_120 rfl ?_
    refine V.bipush dX9_counted_121 rfl kb_6 ?_
    refine V.isub dX9_counted_123 rfl ?_
    refine U.iald hx (ty_X9_0 t0) dX9_counted_124 rfl (fun hx => ?_)
    obtain rfl := Option.some.inj hx
    exact U.retI rfl rfl rfl rfl dX9_counted_125
  refine sw_case (ci := 8) hx (by decide) (fun c18 hx => ?_) (fun c18 hx => ?_)
  · refine V.tableIn (tgt := 114) dX9_counted_1 (by rw [c18]; decide) (by rw [c18]; decide) (by rw [c18]; rfl) (by decide) ?_
    refine V.aload_n (j := 0) dX9_counted_114 rfl rfl rfl ?_
    refine U.getP fl_X9_7 t0 dX9_counted_115 rfl ?_
    refine V.iconst dX9_counted_118 rfl ki_2 ?_
    refine V.iload_n (j := 1) dX9_counted_119 rfl rfl rfl ?_
    refine V.iadd dX9_counted_120 rfl ?_
    refine V.bipush dX9_counted_121 rfl kb_6 ?_
    refine V.isub dX9_counted_123 rfl ?_
    refine U.iald hx (ty_X9_0 t0) dX9_counted_124 rfl (fun hx => ?_)
    obtain rfl := Option.some.inj hx
    exact U.retI rfl rfl rfl rfl dX9_counted_125
  refine sw_case (ci := 9) hx (by decide) (fun c19 hx => ?_) (fun c19 hx => ?_)
  · refine V.tableIn (tgt := 102) dX9_counted_1 (by rw [c19]; decide) (by rw [c19]; decide) (by rw [c19]; rfl) (by decide) ?_
    refine V.aload_n (j := 0) dX9_counted_102 rfl rfl rfl ?_
    refine U.getP fl_X9_7 t0 dX9_counted_103 rfl ?_
    refine V.iconst dX9_counted_106 rfl ki_5 ?_
    refine U.iald hx (ty_X9_0 t0) dX9_counted_107 rfl (fun hx => ?_)
    obtain rfl := Option.some.inj hx
    exact U.retI rfl rfl rfl rfl dX9_counted_108
  refine sw_case (ci := 10) hx (by decide) (fun c20 hx => ?_) (fun c20 hx => ?_)
  · refine V.tableIn (tgt := 109) dX9_counted_1 (by rw [c20]; decide) (by rw [c20]; decide) (by rw [c20]; rfl) (by decide) ?_
    refine V.aload_n (j := 0) dX9_counted_109 rfl rfl rfl ?_
    refine U.getI fl_X9_232 t0 dX9_counted_110 rfl ?_
    obtain rfl := Option.some.inj hx
    exact U.retI rfl rfl rfl rfl dX9_counted_113
  refine V.tableOut (tgt := 114) dX9_counted_1 (by omega) (by decide) ?_
  refine V.aload_n (j := 0) dX9_counted_114 rfl rfl rfl ?_
  refine U.getP fl_X9_7 t0 dX9_counted_115 rfl ?_
  refine V.iconst dX9_counted_118 rfl ki_2 ?_
  refine V.iload_n (j := 1) dX9_counted_119 rfl rfl rfl ?_
  refine V.iadd dX9_counted_120 rfl ?_
  refine V.bipush dX9_counted_121 rfl kb_6 ?_
  refine V.isub dX9_counted_123 rfl ?_
  refine U.iald hx (ty_X9_0 t0) dX9_counted_124 rfl (fun hx => ?_)
  obtain rfl := Option.some.inj hx
  exact U.retI rfl rfl rfl rfl dX9_counted_125
set_option maxRecDepth 100000 in
set_option maxHeartbeats 4000000 in
theorem mX9_count {l : Launch} {G : GG} {EX : State → Prop} (hE : EXB G EX) {th : Nat} {a1 : Int32} {h : AH} (t0 : KD th = 8) {r : Int32 × AH} (hx : fX9_count th a1 h = some r) : MetU l G EX mi_X9_count 3 63 [.ref (G.1 + th), .int a1] h (some (.int r.1)) r.2 := by
  refine MetU.of mic_X9_count.1 (Nat.le_of_ble_eq_true rfl) ?_
  refine show U l G EX mi_X9_count 3 63 (some (.int r.1)) r.2 0 [(0, .ref (G.1 + th)), (1, .int a1)] [] h from ?_
  unfold fX9_count at hx
  refine V.iload_n (j := 1) dX9_count_0 rfl rfl rfl ?_
  refine V.i2l dX9_count_1 rfl ?_
  refine V.lconst dX9_count_2 rfl kl_0 ?_
  refine V.ldc2_w dX9_count_3 rfl wq_l_X9_210 ?_
  obtain ⟨v2, q1, hx⟩ := ob_some hx
  refine U.callS (As := [.long a1.toInt64, .long (0 : Int64), .long (10 : Int64)]) (rest := []) (st' := [.int v2]) hE.1 (mX9_in hE q1) mic_X9_in rfl wq_m_X9_59 wq_t_yX9_in ⟨Nat.le_of_ble_eq_true rfl, Nat.le_of_ble_eq_true rfl⟩ (Nat.le_of_ble_eq_true rfl) dX9_count_6 rfl rfl rfl ?_
  refine V.if_eq (tgt := 20) hx dX9_count_9 (by decide) rfl (fun hx => ?_) (fun hx => ?_)
  · refine V.aload_n (j := 0) dX9_count_20 rfl rfl rfl ?_
    refine V.bipush dX9_count_21 rfl kb_m2 ?_
    obtain ⟨v5, h4, q3, hx⟩ := ob2_some hx
    refine U.callV (As := [.int (-2 : Int32)]) (rest := []) (st' := [.int v5]) hE.1 (mX9_bad hE t0 q3) mic_X9_bad rfl t0 (by decide) rfl rfl wq_m_X9_78 wq_i_yX9_bad wq_s_yX9_bad ⟨Nat.le_of_ble_eq_true rfl, Nat.le_of_ble_eq_true rfl⟩ (Nat.le_of_ble_eq_true rfl) dX9_count_23 rfl rfl rfl ?_
    obtain rfl := Option.some.inj hx
    exact U.retI rfl rfl rfl rfl dX9_count_26
  · refine V.aload_n (j := 0) dX9_count_12 rfl rfl rfl ?_
    refine V.iload_n (j := 1) dX9_count_13 rfl rfl rfl ?_
    obtain ⟨v7, q6, hx⟩ := ob_some hx
    refine U.callV (As := [.int a1]) (rest := []) (st' := [.int v7]) hE.1 (mX9_counted hE t0 q6) mic_X9_counted rfl t0 (by decide) rfl rfl wq_m_X9_301 wq_i_yX9_counted wq_s_yX9_counted ⟨Nat.le_of_ble_eq_true rfl, Nat.le_of_ble_eq_true rfl⟩ (Nat.le_of_ble_eq_true rfl) dX9_count_14 rfl rfl rfl ?_
    refine V.goto (q := 26) dX9_count_17 (by decide) ?_
    obtain rfl := Option.some.inj hx
    exact U.retI rfl rfl rfl rfl dX9_count_26
set_option maxRecDepth 100000 in
set_option maxHeartbeats 4000000 in
theorem vX9_sums_6 {l : Launch} {G : GG} {EX : State → Prop} (hE : EXB G EX) {h : AH} {r : Int64} : ∀ (n : Nat) (l0 : Nat) (l3 : Int32) (l4 : Int32) (l5 : Int64) (l7 : Int32) (t0 : KD l0 = 8), fX9_sums_6 h n l0 l3 l4 l5 l7 = some r → U l G EX mi_X9_sums 0 0 (some (.long r)) h 6 [(0, .ref (G.1 + l0)), (3, .int l3), (4, .int l4), (5, .long l5), (7, .int l7)] [] h := by
  intro n
  induction n with
  | zero =>
    intro l0 l3 l4 l5 l7 t0 hx
    have hx : none = some r := hx
    cases hx
  | succ n ih =>
    intro l0 l3 l4 l5 l7 t0 hx
    rw [fX9_sums_6] at hx
    refine V.iload (j := 4) dX9_sums_6 rfl rfl ?_
    refine V.iload (j := 2) dX9_sums_8 rfl rfl ?_
    refine V.icmp_ge (tgt := 38) hx dX9_sums_10 (by decide) rfl (fun hx => ?_) (fun hx => ?_)
    · refine V.lload (j := 3) dX9_sums_38 rfl rfl ?_
      obtain rfl := Option.some.inj hx
      exact U.retJ rfl rfl rfl dX9_sums_40
    · refine V.ldc2_w dX9_sums_13 rfl wq_l_X9_304 ?_
      refine V.lload (j := 3) dX9_sums_16 rfl rfl ?_
      refine V.lmul dX9_sums_18 rfl ?_
      refine V.aload_n (j := 0) dX9_sums_19 rfl rfl rfl ?_
      refine U.getP fl_X9_7 t0 dX9_sums_20 rfl ?_
      refine V.iload_n (j := 1) dX9_sums_23 rfl rfl rfl ?_
      refine V.iload (j := 4) dX9_sums_24 rfl rfl ?_
      refine V.iadd dX9_sums_26 rfl ?_
      refine U.iald hx (ty_X9_0 t0) dX9_sums_27 rfl (fun hx => ?_)
      refine V.i2l dX9_sums_28 rfl ?_
      refine V.ladd dX9_sums_29 rfl ?_
      refine U.letJ hx (fun v1 hx => ?_)
      refine V.lstore [(5, .long v1), (0, .ref (G.1 + l0)), (3, .int l3), (4, .int l4), (7, .int l7)] dX9_sums_30 rfl (Nat.le_of_ble_eq_true rfl) rfl ?_
      refine U.iinc hx (fun v2 => [(7, .int v2), (5, .long v1), (0, .ref (G.1 + l0)), (3, .int l3), (4, .int l4)]) (j := 4) rfl (by decide) (Nat.le_of_ble_eq_true rfl) (fun _ => rfl) dX9_sums_32 rfl (fun v2 hx => ?_)
      refine V.goto (q := 6) dX9_sums_35 (by decide) ?_
      refine V.pick [2, 3, 4, 1, 0] rfl ?_
      exact ih l0 l3 l4 v1 v2 t0 hx
set_option maxRecDepth 100000 in
set_option maxHeartbeats 4000000 in
theorem mX9_sums {l : Launch} {G : GG} {EX : State → Prop} (hE : EXB G EX) {th : Nat} {a1 : Int64} {a2 : Int32} {a3 : Int32} {h : AH} (t0 : KD th = 8) {r : Int64} (hx : fX9_sums th a1 a2 a3 h = some r) : MetU l G EX mi_X9_sums 0 0 [.ref (G.1 + th), .long a1, .int a2, .int a3] h (some (.long r)) h := by
  refine MetU.of mic_X9_sums.1 (Nat.le_of_ble_eq_true rfl) ?_
  refine show U l G EX mi_X9_sums 0 0 (some (.long r)) h 0 [(0, .ref (G.1 + th)), (1, .long a1), (3, .int a2), (4, .int a3)] [] h from ?_
  unfold fX9_sums at hx
  refine V.lload_n (j := 1) dX9_sums_0 rfl rfl rfl ?_
  refine V.lstore [(5, .long a1), (0, .ref (G.1 + th)), (1, .long a1), (3, .int a2), (4, .int a3)] dX9_sums_1 rfl (Nat.le_of_ble_eq_true rfl) rfl ?_
  refine V.iconst dX9_sums_3 rfl ki_0 ?_
  refine V.istore [(7, .int (0 : Int32)), (5, .long a1), (0, .ref (G.1 + th)), (1, .long a1), (3, .int a2), (4, .int a3)] dX9_sums_4 rfl (Nat.le_of_ble_eq_true rfl) rfl ?_
  refine V.pick [2, 4, 5, 1, 0] rfl ?_
  exact vX9_sums_6 hE FU th a2 a3 a1 (0 : Int32) t0 hx
set_option maxRecDepth 100000 in
set_option maxHeartbeats 4000000 in
theorem vX9_digest_174 {l : Launch} {G : GG} {EX : State → Prop} (hE : EXB G EX) {h : AH} {r : Int64} : ∀ (l0 : Nat) (l1 : Int64) (t0 : KD l0 = 8), fX9_digest_174 h l0 l1 = some r → U l G EX mi_X9_digest 3 63 (some (.long r)) h 174 [(0, .ref (G.1 + l0)), (1, .long l1)] [] h := by
  intro l0 l1 t0 hx
  unfold fX9_digest_174 at hx
  refine V.aload_n (j := 0) dX9_digest_174 rfl rfl rfl ?_
  refine V.lload_n (j := 1) dX9_digest_175 rfl rfl rfl ?_
  refine V.bipush dX9_digest_176 rfl kb_46 ?_
  refine V.iconst dX9_digest_178 rfl ki_2 ?_
  refine V.aload_n (j := 0) dX9_digest_179 rfl rfl rfl ?_
  refine U.getP fl_X9_7 t0 dX9_digest_180 rfl ?_
  refine V.iconst dX9_digest_183 rfl ki_2 ?_
  refine U.iald hx (ty_X9_0 t0) dX9_digest_184 rfl (fun hx => ?_)
  refine V.imul dX9_digest_185 rfl ?_
  obtain ⟨v6, q5, hx⟩ := ob_some hx
  refine U.callV (As := [.long l1, .int (46 : Int32), .int ((2 : Int32) * (hI h (PC l0 0) (ix (2 : Int32))))]) (rest := []) (st' := [.long v6]) hE.1 (mX9_sums hE t0 q5) mic_X9_sums rfl t0 (by decide) rfl rfl wq_m_X9_308 wq_i_yX9_sums wq_s_yX9_sums ⟨Nat.le_of_ble_eq_true rfl, Nat.le_of_ble_eq_true rfl⟩ (Nat.le_of_ble_eq_true rfl) dX9_digest_186 rfl rfl rfl ?_
  refine V.lstore_n [(1, .long v6), (0, .ref (G.1 + l0))] dX9_digest_189 rfl rfl (Nat.le_of_ble_eq_true rfl) rfl ?_
  refine V.aload_n (j := 1) dX9_digest_190 rfl rfl rfl ?_
  refine V.lload_n (j := 0) dX9_digest_191 rfl rfl rfl ?_
  refine V.bipush dX9_digest_192 rfl kb_58 ?_
  refine V.iconst dX9_digest_194 rfl ki_5 ?_
  refine V.aload_n (j := 1) dX9_digest_195 rfl rfl rfl ?_
  refine U.getP fl_X9_7 t0 dX9_digest_196 rfl ?_
  refine V.iconst dX9_digest_199 rfl ki_3 ?_
  refine U.iald hx (ty_X9_0 t0) dX9_digest_200 rfl (fun hx => ?_)
  refine V.imul dX9_digest_201 rfl ?_
  obtain ⟨v8, q7, hx⟩ := ob_some hx
  refine U.callV (As := [.long v6, .int (58 : Int32), .int ((5 : Int32) * (hI h (PC l0 0) (ix (3 : Int32))))]) (rest := []) (st' := [.long v8]) hE.1 (mX9_sums hE t0 q7) mic_X9_sums rfl t0 (by decide) rfl rfl wq_m_X9_308 wq_i_yX9_sums wq_s_yX9_sums ⟨Nat.le_of_ble_eq_true rfl, Nat.le_of_ble_eq_true rfl⟩ (Nat.le_of_ble_eq_true rfl) dX9_digest_202 rfl rfl rfl ?_
  refine V.lstore_n [(1, .long v8), (0, .ref (G.1 + l0))] dX9_digest_205 rfl rfl (Nat.le_of_ble_eq_true rfl) rfl ?_
  refine V.aload_n (j := 1) dX9_digest_206 rfl rfl rfl ?_
  refine V.lload_n (j := 0) dX9_digest_207 rfl rfl rfl ?_
  refine V.bipush dX9_digest_208 rfl kb_88 ?_
  refine V.iconst dX9_digest_210 rfl ki_4 ?_
  refine V.aload_n (j := 1) dX9_digest_211 rfl rfl rfl ?_
  refine U.getP fl_X9_7 t0 dX9_digest_212 rfl ?_
  refine V.iconst dX9_digest_215 rfl ki_4 ?_
  refine U.iald hx (ty_X9_0 t0) dX9_digest_216 rfl (fun hx => ?_)
  refine V.imul dX9_digest_217 rfl ?_
  obtain ⟨v10, q9, hx⟩ := ob_some hx
  refine U.callV (As := [.long v8, .int (88 : Int32), .int ((4 : Int32) * (hI h (PC l0 0) (ix (4 : Int32))))]) (rest := []) (st' := [.long v10]) hE.1 (mX9_sums hE t0 q9) mic_X9_sums rfl t0 (by decide) rfl rfl wq_m_X9_308 wq_i_yX9_sums wq_s_yX9_sums ⟨Nat.le_of_ble_eq_true rfl, Nat.le_of_ble_eq_true rfl⟩ (Nat.le_of_ble_eq_true rfl) dX9_digest_218 rfl rfl rfl ?_
  refine V.lstore_n [(1, .long v10), (0, .ref (G.1 + l0))] dX9_digest_221 rfl rfl (Nat.le_of_ble_eq_true rfl) rfl ?_
  refine V.ldc2_w dX9_digest_222 rfl wq_l_X9_304 ?_
  refine V.ldc2_w dX9_digest_225 rfl wq_l_X9_304 ?_
  refine V.lload_n (j := 0) dX9_digest_228 rfl rfl rfl ?_
  refine V.lmul dX9_digest_229 rfl ?_
  refine V.aload_n (j := 1) dX9_digest_230 rfl rfl rfl ?_
  refine U.getJ fl_X9_207 t0 dX9_digest_231 rfl ?_
  refine V.ladd dX9_digest_234 rfl ?_
  refine V.lmul dX9_digest_235 rfl ?_
  refine V.aload_n (j := 1) dX9_digest_236 rfl rfl rfl ?_
  refine U.getJ fl_X9_23 t0 dX9_digest_237 rfl ?_
  refine V.ladd dX9_digest_240 rfl ?_
  obtain rfl := Option.some.inj hx
  exact U.retJ rfl rfl rfl dX9_digest_241
set_option maxRecDepth 100000 in
set_option maxHeartbeats 4000000 in
theorem vX9_digest_113 {l : Launch} {G : GG} {EX : State → Prop} (hE : EXB G EX) {h : AH} {r : Int64} : ∀ (n : Nat) (l0 : Nat) (l1 : Int64) (l3 : Int32) (t0 : KD l0 = 8), fX9_digest_113 h n l0 l1 l3 = some r → U l G EX mi_X9_digest 3 63 (some (.long r)) h 113 [(0, .ref (G.1 + l0)), (1, .long l1), (3, .int l3)] [] h := by
  intro n
  induction n with
  | zero =>
    intro l0 l1 l3 t0 hx
    have hx : none = some r := hx
    cases hx
  | succ n ih =>
    intro l0 l1 l3 t0 hx
    rw [fX9_digest_113] at hx
    refine V.iload_n (j := 2) dX9_digest_113 rfl rfl rfl ?_
    refine V.aload_n (j := 0) dX9_digest_114 rfl rfl rfl ?_
    obtain ⟨v4, q3, hx⟩ := ob_some hx
    refine U.callV (As := []) (rest := [.int l3]) (st' := [.int v4, .int l3]) hE.1 (mX9_manyWatchers hE t0 q3) mic_X9_manyWatchers rfl t0 (by decide) rfl rfl wq_m_X9_63 wq_i_yX9_manyWatchers wq_s_yX9_manyWatchers ⟨Nat.le_of_ble_eq_true rfl, Nat.le_of_ble_eq_true rfl⟩ (Nat.le_of_ble_eq_true rfl) dX9_digest_115 rfl rfl rfl ?_
    refine V.icmp_ge (tgt := 174) hx dX9_digest_118 (by decide) rfl (fun hx => ?_) (fun hx => ?_)
    · refine V.pick [0, 1] rfl ?_
      exact vX9_digest_174 hE l0 l1 t0 hx
    · refine V.ldc2_w dX9_digest_121 rfl wq_l_X9_304 ?_
      refine V.ldc2_w dX9_digest_124 rfl wq_l_X9_304 ?_
      refine V.ldc2_w dX9_digest_127 rfl wq_l_X9_304 ?_
      refine V.lload_n (j := 1) dX9_digest_130 rfl rfl rfl ?_
      refine V.lmul dX9_digest_131 rfl ?_
      refine V.aload_n (j := 0) dX9_digest_132 rfl rfl rfl ?_
      refine U.getP fl_X9_7 t0 dX9_digest_133 rfl ?_
      refine V.bipush dX9_digest_136 rfl kb_40 ?_
      refine V.iload_n (j := 2) dX9_digest_138 rfl rfl rfl ?_
      refine V.iadd dX9_digest_139 rfl ?_
      refine U.iald hx (ty_X9_0 t0) dX9_digest_140 rfl (fun hx => ?_)
      refine V.i2l dX9_digest_141 rfl ?_
      refine V.ladd dX9_digest_142 rfl ?_
      refine V.lmul dX9_digest_143 rfl ?_
      refine V.aload_n (j := 0) dX9_digest_144 rfl rfl rfl ?_
      refine U.getP fl_X9_7 t0 dX9_digest_145 rfl ?_
      refine V.bipush dX9_digest_148 rfl kb_19 ?_
      refine V.iload_n (j := 2) dX9_digest_150 rfl rfl rfl ?_
      refine V.iadd dX9_digest_151 rfl ?_
      refine U.iald hx (ty_X9_0 t0) dX9_digest_152 rfl (fun hx => ?_)
      refine V.i2l dX9_digest_153 rfl ?_
      refine V.ladd dX9_digest_154 rfl ?_
      refine V.lmul dX9_digest_155 rfl ?_
      refine V.aload_n (j := 0) dX9_digest_156 rfl rfl rfl ?_
      refine U.getP fl_X9_7 t0 dX9_digest_157 rfl ?_
      refine V.bipush dX9_digest_160 rfl kb_6 ?_
      refine V.iload_n (j := 2) dX9_digest_162 rfl rfl rfl ?_
      refine V.iadd dX9_digest_163 rfl ?_
      refine U.iald hx (ty_X9_0 t0) dX9_digest_164 rfl (fun hx => ?_)
      refine V.i2l dX9_digest_165 rfl ?_
      refine V.ladd dX9_digest_166 rfl ?_
      refine U.letJ hx (fun v11 hx => ?_)
      refine V.lstore_n [(1, .long v11), (0, .ref (G.1 + l0)), (3, .int l3)] dX9_digest_167 rfl rfl (Nat.le_of_ble_eq_true rfl) rfl ?_
      refine U.iinc hx (fun v12 => [(3, .int v12), (1, .long v11), (0, .ref (G.1 + l0))]) (j := 2) rfl (by decide) (Nat.le_of_ble_eq_true rfl) (fun _ => rfl) dX9_digest_168 rfl (fun v12 hx => ?_)
      refine V.goto (q := 113) dX9_digest_171 (by decide) ?_
      refine V.pick [2, 1, 0] rfl ?_
      exact ih l0 v11 v12 t0 hx
set_option maxRecDepth 100000 in
set_option maxHeartbeats 4000000 in
theorem vX9_digest_111 {l : Launch} {G : GG} {EX : State → Prop} (hE : EXB G EX) {h : AH} {r : Int64} : ∀ (l0 : Nat) (l1 : Int64) (t0 : KD l0 = 8), fX9_digest_111 h l0 l1 = some r → U l G EX mi_X9_digest 3 63 (some (.long r)) h 111 [(0, .ref (G.1 + l0)), (1, .long l1)] [] h := by
  intro l0 l1 t0 hx
  unfold fX9_digest_111 at hx
  refine V.iconst dX9_digest_111 rfl ki_0 ?_
  refine V.istore_n [(3, .int (0 : Int32)), (0, .ref (G.1 + l0)), (1, .long l1)] dX9_digest_112 rfl rfl (Nat.le_of_ble_eq_true rfl) rfl ?_
  refine V.pick [1, 2, 0] rfl ?_
  exact vX9_digest_113 hE FU l0 l1 (0 : Int32) t0 hx
set_option maxRecDepth 100000 in
set_option maxHeartbeats 4000000 in
theorem vX9_digest_33 {l : Launch} {G : GG} {EX : State → Prop} (hE : EXB G EX) {h : AH} {r : Int64} : ∀ (n : Nat) (l0 : Nat) (l1 : Int64) (l3 : Int32) (t0 : KD l0 = 8), fX9_digest_33 h n l0 l1 l3 = some r → U l G EX mi_X9_digest 3 63 (some (.long r)) h 33 [(0, .ref (G.1 + l0)), (1, .long l1), (3, .int l3)] [] h := by
  intro n
  induction n with
  | zero =>
    intro l0 l1 l3 t0 hx
    have hx : none = some r := hx
    cases hx
  | succ n ih =>
    intro l0 l1 l3 t0 hx
    rw [fX9_digest_33] at hx
    refine V.iload_n (j := 2) dX9_digest_33 rfl rfl rfl ?_
    refine V.aload_n (j := 0) dX9_digest_34 rfl rfl rfl ?_
    obtain ⟨v2, q1, hx⟩ := ob_some hx
    refine U.callV (As := []) (rest := [.int l3]) (st' := [.int v2, .int l3]) hE.1 (mX9_many hE t0 q1) mic_X9_many rfl t0 (by decide) rfl rfl wq_m_X9_55 wq_i_yX9_many wq_s_yX9_many ⟨Nat.le_of_ble_eq_true rfl, Nat.le_of_ble_eq_true rfl⟩ (Nat.le_of_ble_eq_true rfl) dX9_digest_35 rfl rfl rfl ?_
    refine V.icmp_ge (tgt := 111) hx dX9_digest_38 (by decide) rfl (fun hx => ?_) (fun hx => ?_)
    · refine V.pick [0, 1] rfl ?_
      exact vX9_digest_111 hE l0 l1 t0 hx
    · refine V.ldc2_w dX9_digest_41 rfl wq_l_X9_304 ?_
      refine V.ldc2_w dX9_digest_44 rfl wq_l_X9_304 ?_
      refine V.lload_n (j := 1) dX9_digest_47 rfl rfl rfl ?_
      refine V.lmul dX9_digest_48 rfl ?_
      refine V.aload_n (j := 0) dX9_digest_49 rfl rfl rfl ?_
      refine U.getP fl_X9_7 t0 dX9_digest_50 rfl ?_
      refine V.bipush dX9_digest_53 rfl kb_30 ?_
      refine V.iload_n (j := 2) dX9_digest_55 rfl rfl rfl ?_
      refine V.iadd dX9_digest_56 rfl ?_
      refine U.iald hx (ty_X9_0 t0) dX9_digest_57 rfl (fun hx => ?_)
      refine V.i2l dX9_digest_58 rfl ?_
      refine V.ladd dX9_digest_59 rfl ?_
      refine V.lmul dX9_digest_60 rfl ?_
      refine V.aload_n (j := 0) dX9_digest_61 rfl rfl rfl ?_
      refine U.getP fl_X9_7 t0 dX9_digest_62 rfl ?_
      refine V.bipush dX9_digest_65 rfl kb_14 ?_
      refine V.iload_n (j := 2) dX9_digest_67 rfl rfl rfl ?_
      refine V.iadd dX9_digest_68 rfl ?_
      refine U.iald hx (ty_X9_0 t0) dX9_digest_69 rfl (fun hx => ?_)
      refine V.i2l dX9_digest_70 rfl ?_
      refine V.ladd dX9_digest_71 rfl ?_
      refine U.letJ hx (fun v13 hx => ?_)
      refine V.lstore_n [(1, .long v13), (0, .ref (G.1 + l0)), (3, .int l3)] dX9_digest_72 rfl rfl (Nat.le_of_ble_eq_true rfl) rfl ?_
      refine V.ldc2_w dX9_digest_73 rfl wq_l_X9_304 ?_
      refine V.ldc2_w dX9_digest_76 rfl wq_l_X9_304 ?_
      refine V.lload_n (j := 0) dX9_digest_79 rfl rfl rfl ?_
      refine V.lmul dX9_digest_80 rfl ?_
      refine V.aload_n (j := 1) dX9_digest_81 rfl rfl rfl ?_
      refine U.getP fl_X9_7 t0 dX9_digest_82 rfl ?_
      refine V.bipush dX9_digest_85 rfl kb_35 ?_
      refine V.iload_n (j := 2) dX9_digest_87 rfl rfl rfl ?_
      refine V.iadd dX9_digest_88 rfl ?_
      refine U.iald hx (ty_X9_0 t0) dX9_digest_89 rfl (fun hx => ?_)
      refine V.i2l dX9_digest_90 rfl ?_
      refine V.ladd dX9_digest_91 rfl ?_
      refine V.lmul dX9_digest_92 rfl ?_
      refine V.aload_n (j := 1) dX9_digest_93 rfl rfl rfl ?_
      refine U.getP fl_X9_7 t0 dX9_digest_94 rfl ?_
      refine V.bipush dX9_digest_97 rfl kb_25 ?_
      refine V.iload_n (j := 2) dX9_digest_99 rfl rfl rfl ?_
      refine V.iadd dX9_digest_100 rfl ?_
      refine U.iald hx (ty_X9_0 t0) dX9_digest_101 rfl (fun hx => ?_)
      refine V.i2l dX9_digest_102 rfl ?_
      refine V.ladd dX9_digest_103 rfl ?_
      refine U.letJ hx (fun v14 hx => ?_)
      refine V.lstore_n [(1, .long v14), (0, .ref (G.1 + l0)), (3, .int l3)] dX9_digest_104 rfl rfl (Nat.le_of_ble_eq_true rfl) rfl ?_
      refine U.iinc hx (fun v15 => [(3, .int v15), (1, .long v14), (0, .ref (G.1 + l0))]) (j := 2) rfl (by decide) (Nat.le_of_ble_eq_true rfl) (fun _ => rfl) dX9_digest_105 rfl (fun v15 hx => ?_)
      refine V.goto (q := 33) dX9_digest_108 (by decide) ?_
      refine V.pick [2, 1, 0] rfl ?_
      exact ih l0 v14 v15 t0 hx
set_option maxRecDepth 100000 in
set_option maxHeartbeats 4000000 in
theorem vX9_digest_31 {l : Launch} {G : GG} {EX : State → Prop} (hE : EXB G EX) {h : AH} {r : Int64} : ∀ (l0 : Nat) (l1 : Int64) (t0 : KD l0 = 8), fX9_digest_31 h l0 l1 = some r → U l G EX mi_X9_digest 3 63 (some (.long r)) h 31 [(0, .ref (G.1 + l0)), (1, .long l1)] [] h := by
  intro l0 l1 t0 hx
  unfold fX9_digest_31 at hx
  refine V.iconst dX9_digest_31 rfl ki_0 ?_
  refine V.istore_n [(3, .int (0 : Int32)), (0, .ref (G.1 + l0)), (1, .long l1)] dX9_digest_32 rfl rfl (Nat.le_of_ble_eq_true rfl) rfl ?_
  refine V.pick [1, 2, 0] rfl ?_
  exact vX9_digest_33 hE FU l0 l1 (0 : Int32) t0 hx
set_option maxRecDepth 100000 in
set_option maxHeartbeats 4000000 in
theorem vX9_digest_6 {l : Launch} {G : GG} {EX : State → Prop} (hE : EXB G EX) {h : AH} {r : Int64} : ∀ (n : Nat) (l0 : Nat) (l1 : Int64) (l3 : Int32) (t0 : KD l0 = 8), fX9_digest_6 h n l0 l1 l3 = some r → U l G EX mi_X9_digest 3 63 (some (.long r)) h 6 [(0, .ref (G.1 + l0)), (1, .long l1), (3, .int l3)] [] h := by
  intro n
  induction n with
  | zero =>
    intro l0 l1 l3 t0 hx
    have hx : none = some r := hx
    cases hx
  | succ n ih =>
    intro l0 l1 l3 t0 hx
    rw [fX9_digest_6] at hx
    refine V.iload_n (j := 2) dX9_digest_6 rfl rfl rfl ?_
    refine V.bipush dX9_digest_7 rfl kb_11 ?_
    refine V.icmp_ge (tgt := 31) hx dX9_digest_9 (by decide) rfl (fun hx => ?_) (fun hx => ?_)
    · refine V.pick [0, 1] rfl ?_
      exact vX9_digest_31 hE l0 l1 t0 hx
    · refine V.ldc2_w dX9_digest_12 rfl wq_l_X9_304 ?_
      refine V.lload_n (j := 1) dX9_digest_15 rfl rfl rfl ?_
      refine V.lmul dX9_digest_16 rfl ?_
      refine V.aload_n (j := 0) dX9_digest_17 rfl rfl rfl ?_
      refine V.iload_n (j := 2) dX9_digest_18 rfl rfl rfl ?_
      obtain ⟨v17, q16, hx⟩ := ob_some hx
      refine U.callV (As := [.int l3]) (rest := [.long ((31 : Int64) * l1)]) (st' := [.int v17, .long ((31 : Int64) * l1)]) hE.1 (mX9_counted hE t0 q16) mic_X9_counted rfl t0 (by decide) rfl rfl wq_m_X9_301 wq_i_yX9_counted wq_s_yX9_counted ⟨Nat.le_of_ble_eq_true rfl, Nat.le_of_ble_eq_true rfl⟩ (Nat.le_of_ble_eq_true rfl) dX9_digest_19 rfl rfl rfl ?_
      refine V.i2l dX9_digest_22 rfl ?_
      refine V.ladd dX9_digest_23 rfl ?_
      refine U.letJ hx (fun v18 hx => ?_)
      refine V.lstore_n [(1, .long v18), (0, .ref (G.1 + l0)), (3, .int l3)] dX9_digest_24 rfl rfl (Nat.le_of_ble_eq_true rfl) rfl ?_
      refine U.iinc hx (fun v19 => [(3, .int v19), (1, .long v18), (0, .ref (G.1 + l0))]) (j := 2) rfl (by decide) (Nat.le_of_ble_eq_true rfl) (fun _ => rfl) dX9_digest_25 rfl (fun v19 hx => ?_)
      refine V.goto (q := 6) dX9_digest_28 (by decide) ?_
      refine V.pick [2, 1, 0] rfl ?_
      exact ih l0 v18 v19 t0 hx
set_option maxRecDepth 100000 in
set_option maxHeartbeats 4000000 in
theorem mX9_digest {l : Launch} {G : GG} {EX : State → Prop} (hE : EXB G EX) {th : Nat} {h : AH} (t0 : KD th = 8) {r : Int64} (hx : fX9_digest th h = some r) : MetU l G EX mi_X9_digest 3 63 [.ref (G.1 + th)] h (some (.long r)) h := by
  refine MetU.of mic_X9_digest.1 (Nat.le_of_ble_eq_true rfl) ?_
  refine show U l G EX mi_X9_digest 3 63 (some (.long r)) h 0 [(0, .ref (G.1 + th))] [] h from ?_
  unfold fX9_digest at hx
  refine V.ldc2_w dX9_digest_0 rfl wq_l_X9_306 ?_
  refine V.lstore_n [(1, .long (1487 : Int64)), (0, .ref (G.1 + th))] dX9_digest_3 rfl rfl (Nat.le_of_ble_eq_true rfl) rfl ?_
  refine V.iconst dX9_digest_4 rfl ki_0 ?_
  refine V.istore_n [(3, .int (0 : Int32)), (1, .long (1487 : Int64)), (0, .ref (G.1 + th))] dX9_digest_5 rfl rfl (Nat.le_of_ble_eq_true rfl) rfl ?_
  refine V.pick [2, 1, 0] rfl ?_
  exact vX9_digest_6 hE FU th (1487 : Int64) (0 : Int32) t0 hx
