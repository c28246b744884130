set_option maxRecDepth 100000 in
set_option maxHeartbeats 4000000 in
theorem vX9_note_48 {l : Launch} {G : GG} {EX : State → Prop} (hE : EXB G EX) {r : Int32 × AH} : ∀ (l0 : Nat) (h : AH) (t0 : KD l0 = 8), fX9_note_48 l0 h = some r → U l G EX mi_X9_note 2 46 (some (.int r.1)) r.2 48 [(0, .ref (G.1 + l0))] [] h := by
  intro l0 h t0 hx
  unfold fX9_note_48 at hx
  refine V.aload_n (j := 0) dX9_note_48 rfl rfl rfl ?_
  refine V.bipush dX9_note_49 rfl kb_m2 ?_
  obtain ⟨v5, h4, q3, hx⟩ := ob2_some hx
  refine U.callV (As := [.int (-2 : Int32)]) (rest := []) (st' := [.int v5]) hE.1 (mX9_bad hE t0 q3) mic_X9_bad rfl t0 (by decide) rfl rfl wq_m_X9_78 wq_i_yX9_bad wq_s_yX9_bad ⟨Nat.le_of_ble_eq_true rfl, Nat.le_of_ble_eq_true rfl⟩ (Nat.le_of_ble_eq_true rfl) dX9_note_51 rfl rfl rfl ?_
  obtain rfl := Option.some.inj hx
  exact U.retI rfl rfl rfl rfl dX9_note_54
set_option maxRecDepth 100000 in
set_option maxHeartbeats 4000000 in
theorem mX9_note {l : Launch} {G : GG} {EX : State → Prop} (hE : EXB G EX) {th : Nat} {a1 : Int32} {a2 : Int32} {a3 : Int32} {a4 : Int32} {a5 : Int32} {h : AH} (t0 : KD th = 8) {r : Int32 × AH} (hx : fX9_note th a1 a2 a3 a4 a5 h = some r) : MetU l G EX mi_X9_note 2 46 [.ref (G.1 + th), .int a1, .int a2, .int a3, .int a4, .int a5] h (some (.int r.1)) r.2 := by
  refine MetU.of mic_X9_note.1 (Nat.le_of_ble_eq_true rfl) ?_
  refine show U l G EX mi_X9_note 2 46 (some (.int r.1)) r.2 0 [(0, .ref (G.1 + th)), (1, .int a1), (2, .int a2), (3, .int a3), (4, .int a4), (5, .int a5)] [] h from ?_
  unfold fX9_note at hx
  refine V.aload_n (j := 0) dX9_note_0 rfl rfl rfl ?_
  refine V.iload_n (j := 1) dX9_note_1 rfl rfl rfl ?_
  obtain ⟨v2, q1, hx⟩ := ob_some hx
  refine U.callV (As := [.int a1]) (rest := []) (st' := [.int v2]) hE.1 (mX9_isShow hE t0 q1) mic_X9_isShow rfl t0 (by decide) rfl rfl wq_m_X9_153 wq_i_yX9_isShow wq_s_yX9_isShow ⟨Nat.le_of_ble_eq_true rfl, Nat.le_of_ble_eq_true rfl⟩ (Nat.le_of_ble_eq_true rfl) dX9_note_2 rfl rfl rfl ?_
  refine V.if_eq (tgt := 48) hx dX9_note_5 (by decide) rfl (fun hx => ?_) (fun hx => ?_)
  · refine V.pick [0] rfl ?_
    exact vX9_note_48 hE th h t0 hx
  · refine V.iload_n (j := 2) dX9_note_8 rfl rfl rfl ?_
    refine V.i2l dX9_note_9 rfl ?_
    refine V.lconst dX9_note_10 rfl kl_1 ?_
    refine V.ldc2_w dX9_note_11 rfl wq_l_X9_70 ?_
    obtain ⟨v7, q6, hx⟩ := ob_some hx
    refine U.callS (As := [.long a2.toInt64, .long (1 : Int64), .long (9 : Int64)]) (rest := []) (st' := [.int v7]) hE.1 (mX9_in hE q6) mic_X9_in rfl wq_m_X9_59 wq_t_yX9_in ⟨Nat.le_of_ble_eq_true rfl, Nat.le_of_ble_eq_true rfl⟩ (Nat.le_of_ble_eq_true rfl) dX9_note_14 rfl rfl rfl ?_
    refine V.if_eq (tgt := 48) hx dX9_note_17 (by decide) rfl (fun hx => ?_) (fun hx => ?_)
    · refine V.pick [0] rfl ?_
      exact vX9_note_48 hE th h t0 hx
    · refine V.iload_n (j := 3) dX9_note_20 rfl rfl rfl ?_
      obtain ⟨v9, q8, hx⟩ := ob_some hx
      refine U.callS (As := [.int a3]) (rest := []) (st' := [.int v9]) hE.1 (mX9_isFar hE q8) mic_X9_isFar rfl wq_m_X9_198 wq_t_yX9_isFar ⟨Nat.le_of_ble_eq_true rfl, Nat.le_of_ble_eq_true rfl⟩ (Nat.le_of_ble_eq_true rfl) dX9_note_21 rfl rfl rfl ?_
      refine V.if_eq (tgt := 48) hx dX9_note_24 (by decide) rfl (fun hx => ?_) (fun hx => ?_)
      · refine V.pick [0] rfl ?_
        exact vX9_note_48 hE th h t0 hx
      · refine V.iload (j := 4) dX9_note_27 rfl rfl ?_
        obtain ⟨v11, q10, hx⟩ := ob_some hx
        refine U.callS (As := [.int a4]) (rest := []) (st' := [.int v11]) hE.1 (mX9_isStep hE q10) mic_X9_isStep rfl wq_m_X9_177 wq_t_yX9_isStep ⟨Nat.le_of_ble_eq_true rfl, Nat.le_of_ble_eq_true rfl⟩ (Nat.le_of_ble_eq_true rfl) dX9_note_29 rfl rfl rfl ?_
        refine V.if_eq (tgt := 48) hx dX9_note_32 (by decide) rfl (fun hx => ?_) (fun hx => ?_)
        · refine V.pick [0] rfl ?_
          exact vX9_note_48 hE th h t0 hx
        · refine V.iload (j := 5) dX9_note_35 rfl rfl ?_
          refine V.i2l dX9_note_37 rfl ?_
          refine V.lconst dX9_note_38 rfl kl_0 ?_
          refine V.ldc2_w dX9_note_39 rfl wq_l_X9_190 ?_
          obtain ⟨v13, q12, hx⟩ := ob_some hx
          refine U.callS (As := [.long a5.toInt64, .long (0 : Int64), .long (40 : Int64)]) (rest := []) (st' := [.int v13]) hE.1 (mX9_in hE q12) mic_X9_in rfl wq_m_X9_59 wq_t_yX9_in ⟨Nat.le_of_ble_eq_true rfl, Nat.le_of_ble_eq_true rfl⟩ (Nat.le_of_ble_eq_true rfl) dX9_note_42 rfl rfl rfl ?_
          refine V.if_ne (tgt := 55) hx dX9_note_45 (by decide) rfl (fun hx => ?_) (fun hx => ?_)
          · refine V.aload_n (j := 0) dX9_note_55 rfl rfl rfl ?_
            refine U.getP fl_X9_7 t0 dX9_note_56 rfl ?_
            refine V.iconst dX9_note_59 rfl ki_3 ?_
            refine U.iald hx (ty_X9_0 t0) dX9_note_60 rfl (fun hx => ?_)
            refine V.bipush dX9_note_61 rfl kb_6 ?_
            refine V.icmp_ne (tgt := 71) hx dX9_note_63 (by decide) rfl (fun hx => ?_) (fun hx => ?_)
            · refine V.bipush dX9_note_71 rfl kb_58 ?_
              refine V.iconst dX9_note_73 rfl ki_5 ?_
              refine V.aload_n (j := 0) dX9_note_74 rfl rfl rfl ?_
              refine U.getP fl_X9_7 t0 dX9_note_75 rfl ?_
              refine V.iconst dX9_note_78 rfl ki_3 ?_
              refine U.iald hx (ty_X9_0 t0) dX9_note_79 rfl (fun hx => ?_)
              refine V.imul dX9_note_80 rfl ?_
              refine V.iadd dX9_note_81 rfl ?_
              refine U.letI hx (fun v14 hx => ?_)
              refine V.istore [(6, .int v14), (0, .ref (G.1 + th)), (1, .int a1), (2, .int a2), (3, .int a3), (4, .int a4), (5, .int a5)] dX9_note_82 rfl (Nat.le_of_ble_eq_true rfl) rfl ?_
              refine V.aload_n (j := 1) dX9_note_84 rfl rfl rfl ?_
              refine U.getP fl_X9_7 t0 dX9_note_85 rfl ?_
              refine V.iload (j := 0) dX9_note_88 rfl rfl ?_
              refine V.iload_n (j := 2) dX9_note_90 rfl rfl rfl ?_
              refine U.iast hx (ty_X9_0 t0) dX9_note_91 rfl (fun h15 hx => ?_)
              refine V.aload_n (j := 1) dX9_note_92 rfl rfl rfl ?_
              refine U.getP fl_X9_7 t0 dX9_note_93 rfl ?_
              refine V.iload (j := 0) dX9_note_96 rfl rfl ?_
              refine V.iconst dX9_note_98 rfl ki_1 ?_
              refine V.iadd dX9_note_99 rfl ?_
              refine V.iload_n (j := 3) dX9_note_100 rfl rfl rfl ?_
              refine U.iast hx (ty_X9_0 t0) dX9_note_101 rfl (fun h16 hx => ?_)
              refine V.aload_n (j := 1) dX9_note_102 rfl rfl rfl ?_
              refine U.getP fl_X9_7 t0 dX9_note_103 rfl ?_
              refine V.iload (j := 0) dX9_note_106 rfl rfl ?_
              refine V.iconst dX9_note_108 rfl ki_2 ?_
              refine V.iadd dX9_note_109 rfl ?_
              refine V.iload_n (j := 4) dX9_note_110 rfl rfl rfl ?_
              refine U.iast hx (ty_X9_0 t0) dX9_note_111 rfl (fun h17 hx => ?_)
              refine V.aload_n (j := 1) dX9_note_112 rfl rfl rfl ?_
              refine U.getP fl_X9_7 t0 dX9_note_113 rfl ?_
              refine V.iload (j := 0) dX9_note_116 rfl rfl ?_
              refine V.iconst dX9_note_118 rfl ki_3 ?_
              refine V.iadd dX9_note_119 rfl ?_
              refine V.iload (j := 5) dX9_note_120 rfl rfl ?_
              refine U.iast hx (ty_X9_0 t0) dX9_note_122 rfl (fun h18 hx => ?_)
              refine V.aload_n (j := 1) dX9_note_123 rfl rfl rfl ?_
              refine U.getP fl_X9_7 t0 dX9_note_124 rfl ?_
              refine V.iload (j := 0) dX9_note_127 rfl rfl ?_
              refine V.iconst dX9_note_129 rfl ki_4 ?_
              refine V.iadd dX9_note_130 rfl ?_
              refine V.iload (j := 6) dX9_note_131 rfl rfl ?_
              refine U.iast hx (ty_X9_0 t0) dX9_note_133 rfl (fun h19 hx => ?_)
              refine V.aload_n (j := 1) dX9_note_134 rfl rfl rfl ?_
              refine U.getP fl_X9_7 t0 dX9_note_135 rfl ?_
              refine V.iconst dX9_note_138 rfl ki_3 ?_
              refine V.dup2 dX9_note_139 rfl rfl rfl ?_
              refine U.iald hx (ty_X9_0 t0) dX9_note_140 rfl (fun hx => ?_)
              refine V.iconst dX9_note_141 rfl ki_1 ?_
              refine V.iadd dX9_note_142 rfl ?_
              refine U.iast hx (ty_X9_0 t0) dX9_note_143 rfl (fun h20 hx => ?_)
              refine V.aload_n (j := 1) dX9_note_144 rfl rfl rfl ?_
              refine U.getP fl_X9_7 t0 dX9_note_145 rfl ?_
              refine V.iconst dX9_note_148 rfl ki_3 ?_
              refine U.iald hx (ty_X9_0 t0) dX9_note_149 rfl (fun hx => ?_)
              obtain rfl := Option.some.inj hx
              exact U.retI rfl rfl rfl rfl dX9_note_150
            · refine V.aload_n (j := 0) dX9_note_66 rfl rfl rfl ?_
              obtain ⟨v23, h22, q21, hx⟩ := ob2_some hx
              refine U.callV (As := []) (rest := []) (st' := [.int v23]) hE.1 (mX9_full hE t0 q21) mic_X9_full rfl t0 (by decide) rfl rfl wq_m_X9_82 wq_i_yX9_full wq_s_yX9_full ⟨Nat.le_of_ble_eq_true rfl, Nat.le_of_ble_eq_true rfl⟩ (Nat.le_of_ble_eq_true rfl) dX9_note_67 rfl rfl rfl ?_
              obtain rfl := Option.some.inj hx
              exact U.retI rfl rfl rfl rfl dX9_note_70
          · refine V.pick [0] rfl ?_
            exact vX9_note_48 hE th h t0 hx
set_option maxRecDepth 100000 in
set_option maxHeartbeats 4000000 in
theorem vX9_mark_38 {l : Launch} {G : GG} {EX : State → Prop} (hE : EXB G EX) {r : Int32 × AH} : ∀ (l0 : Nat) (h : AH) (t0 : KD l0 = 8), fX9_mark_38 l0 h = some r → U l G EX mi_X9_mark 2 46 (some (.int r.1)) r.2 38 [(0, .ref (G.1 + l0))] [] h := by
  intro l0 h t0 hx
  unfold fX9_mark_38 at hx
  refine V.aload_n (j := 0) dX9_mark_38 rfl rfl rfl ?_
  refine V.bipush dX9_mark_39 rfl kb_m2 ?_
  obtain ⟨v5, h4, q3, hx⟩ := ob2_some hx
  refine U.callV (As := [.int (-2 : Int32)]) (rest := []) (st' := [.int v5]) hE.1 (mX9_bad hE t0 q3) mic_X9_bad rfl t0 (by decide) rfl rfl wq_m_X9_78 wq_i_yX9_bad wq_s_yX9_bad ⟨Nat.le_of_ble_eq_true rfl, Nat.le_of_ble_eq_true rfl⟩ (Nat.le_of_ble_eq_true rfl) dX9_mark_41 rfl rfl rfl ?_
  obtain rfl := Option.some.inj hx
  exact U.retI rfl rfl rfl rfl dX9_mark_44
set_option maxRecDepth 100000 in
set_option maxHeartbeats 4000000 in
theorem mX9_mark {l : Launch} {G : GG} {EX : State → Prop} (hE : EXB G EX) {th : Nat} {a1 : Int32} {a2 : Int32} {a3 : Int32} {a4 : Int32} {h : AH} (t0 : KD th = 8) {r : Int32 × AH} (hx : fX9_mark th a1 a2 a3 a4 h = some r) : MetU l G EX mi_X9_mark 2 46 [.ref (G.1 + th), .int a1, .int a2, .int a3, .int a4] h (some (.int r.1)) r.2 := by
  refine MetU.of mic_X9_mark.1 (Nat.le_of_ble_eq_true rfl) ?_
  refine show U l G EX mi_X9_mark 2 46 (some (.int r.1)) r.2 0 [(0, .ref (G.1 + th)), (1, .int a1), (2, .int a2), (3, .int a3), (4, .int a4)] [] h from ?_
  unfold fX9_mark at hx
  refine V.aload_n (j := 0) dX9_mark_0 rfl rfl rfl ?_
  refine V.iload_n (j := 1) dX9_mark_1 rfl rfl rfl ?_
  obtain ⟨v2, q1, hx⟩ := ob_some hx
  refine U.callV (As := [.int a1]) (rest := []) (st' := [.int v2]) hE.1 (mX9_isWatcher hE t0 q1) mic_X9_isWatcher rfl t0 (by decide) rfl rfl wq_m_X9_159 wq_i_yX9_isWatcher wq_s_yX9_isWatcher ⟨Nat.le_of_ble_eq_true rfl, Nat.le_of_ble_eq_true rfl⟩ (Nat.le_of_ble_eq_true rfl) dX9_mark_2 rfl rfl rfl ?_
  refine V.if_eq (tgt := 38) hx dX9_mark_5 (by decide) rfl (fun hx => ?_) (fun hx => ?_)
  · refine V.pick [0] rfl ?_
    exact vX9_mark_38 hE th h t0 hx
  · refine V.iload_n (j := 2) dX9_mark_8 rfl rfl rfl ?_
    obtain ⟨v7, q6, hx⟩ := ob_some hx
    refine U.callS (As := [.int a2]) (rest := []) (st' := [.int v7]) hE.1 (mX9_isFar hE q6) mic_X9_isFar rfl wq_m_X9_198 wq_t_yX9_isFar ⟨Nat.le_of_ble_eq_true rfl, Nat.le_of_ble_eq_true rfl⟩ (Nat.le_of_ble_eq_true rfl) dX9_mark_9 rfl rfl rfl ?_
    refine V.if_eq (tgt := 38) hx dX9_mark_12 (by decide) rfl (fun hx => ?_) (fun hx => ?_)
    · refine V.pick [0] rfl ?_
      exact vX9_mark_38 hE th h t0 hx
    · refine V.iload_n (j := 3) dX9_mark_15 rfl rfl rfl ?_
      refine V.i2l dX9_mark_16 rfl ?_
      refine V.lconst dX9_mark_17 rfl kl_0 ?_
      refine V.ldc2_w dX9_mark_18 rfl wq_l_X9_190 ?_
      obtain ⟨v9, q8, hx⟩ := ob_some hx
      refine U.callS (As := [.long a3.toInt64, .long (0 : Int64), .long (40 : Int64)]) (rest := []) (st' := [.int v9]) hE.1 (mX9_in hE q8) mic_X9_in rfl wq_m_X9_59 wq_t_yX9_in ⟨Nat.le_of_ble_eq_true rfl, Nat.le_of_ble_eq_true rfl⟩ (Nat.le_of_ble_eq_true rfl) dX9_mark_21 rfl rfl rfl ?_
      refine V.if_eq (tgt := 38) hx dX9_mark_24 (by decide) rfl (fun hx => ?_) (fun hx => ?_)
      · refine V.pick [0] rfl ?_
        exact vX9_mark_38 hE th h t0 hx
      · refine V.iload (j := 4) dX9_mark_27 rfl rfl ?_
        refine V.i2l dX9_mark_29 rfl ?_
        refine V.lconst dX9_mark_30 rfl kl_0 ?_
        refine V.lconst dX9_mark_31 rfl kl_1 ?_
        obtain ⟨v11, q10, hx⟩ := ob_some hx
        refine U.callS (As := [.long a4.toInt64, .long (0 : Int64), .long (1 : Int64)]) (rest := []) (st' := [.int v11]) hE.1 (mX9_in hE q10) mic_X9_in rfl wq_m_X9_59 wq_t_yX9_in ⟨Nat.le_of_ble_eq_true rfl, Nat.le_of_ble_eq_true rfl⟩ (Nat.le_of_ble_eq_true rfl) dX9_mark_32 rfl rfl rfl ?_
        refine V.if_ne (tgt := 45) hx dX9_mark_35 (by decide) rfl (fun hx => ?_) (fun hx => ?_)
        · refine V.aload_n (j := 0) dX9_mark_45 rfl rfl rfl ?_
          refine U.getP fl_X9_7 t0 dX9_mark_46 rfl ?_
          refine V.iconst dX9_mark_49 rfl ki_4 ?_
          refine U.iald hx (ty_X9_0 t0) dX9_mark_50 rfl (fun hx => ?_)
          refine V.bipush dX9_mark_51 rfl kb_6 ?_
          refine V.icmp_ne (tgt := 61) hx dX9_mark_53 (by decide) rfl (fun hx => ?_) (fun hx => ?_)
          · refine V.bipush dX9_mark_61 rfl kb_88 ?_
            refine V.iconst dX9_mark_63 rfl ki_4 ?_
            refine V.aload_n (j := 0) dX9_mark_64 rfl rfl rfl ?_
            refine U.getP fl_X9_7 t0 dX9_mark_65 rfl ?_
            refine V.iconst dX9_mark_68 rfl ki_4 ?_
            refine U.iald hx (ty_X9_0 t0) dX9_mark_69 rfl (fun hx => ?_)
            refine V.imul dX9_mark_70 rfl ?_
            refine V.iadd dX9_mark_71 rfl ?_
            refine U.letI hx (fun v12 hx => ?_)
            refine V.istore [(5, .int v12), (0, .ref (G.1 + th)), (1, .int a1), (2, .int a2), (3, .int a3), (4, .int a4)] dX9_mark_72 rfl (Nat.le_of_ble_eq_true rfl) rfl ?_
            refine V.aload_n (j := 1) dX9_mark_74 rfl rfl rfl ?_
            refine U.getP fl_X9_7 t0 dX9_mark_75 rfl ?_
            refine V.iload (j := 0) dX9_mark_78 rfl rfl ?_
            refine V.iload_n (j := 2) dX9_mark_80 rfl rfl rfl ?_
            refine U.iast hx (ty_X9_0 t0) dX9_mark_81 rfl (fun h13 hx => ?_)
            refine V.aload_n (j := 1) dX9_mark_82 rfl rfl rfl ?_
            refine U.getP fl_X9_7 t0 dX9_mark_83 rfl ?_
            refine V.iload (j := 0) dX9_mark_86 rfl rfl ?_
            refine V.iconst dX9_mark_88 rfl ki_1 ?_
            refine V.iadd dX9_mark_89 rfl ?_
            refine V.iload_n (j := 3) dX9_mark_90 rfl rfl rfl ?_
            refine U.iast hx (ty_X9_0 t0) dX9_mark_91 rfl (fun h14 hx => ?_)
            refine V.aload_n (j := 1) dX9_mark_92 rfl rfl rfl ?_
            refine U.getP fl_X9_7 t0 dX9_mark_93 rfl ?_
            refine V.iload (j := 0) dX9_mark_96 rfl rfl ?_
            refine V.iconst dX9_mark_98 rfl ki_2 ?_
            refine V.iadd dX9_mark_99 rfl ?_
            refine V.iload_n (j := 4) dX9_mark_100 rfl rfl rfl ?_
            refine U.iast hx (ty_X9_0 t0) dX9_mark_101 rfl (fun h15 hx => ?_)
            refine V.aload_n (j := 1) dX9_mark_102 rfl rfl rfl ?_
            refine U.getP fl_X9_7 t0 dX9_mark_103 rfl ?_
            refine V.iload (j := 0) dX9_mark_106 rfl rfl ?_
            refine V.iconst dX9_mark_108 rfl ki_3 ?_
            refine V.iadd dX9_mark_109 rfl ?_
            refine V.iload (j := 5) dX9_mark_110 rfl rfl ?_
            refine U.iast hx (ty_X9_0 t0) dX9_mark_112 rfl (fun h16 hx => ?_)
            refine V.aload_n (j := 1) dX9_mark_113 rfl rfl rfl ?_
            refine U.getP fl_X9_7 t0 dX9_mark_114 rfl ?_
            refine V.iconst dX9_mark_117 rfl ki_4 ?_
            refine V.dup2 dX9_mark_118 rfl rfl rfl ?_
            refine U.iald hx (ty_X9_0 t0) dX9_mark_119 rfl (fun hx => ?_)
            refine V.iconst dX9_mark_120 rfl ki_1 ?_
            refine V.iadd dX9_mark_121 rfl ?_
            refine U.iast hx (ty_X9_0 t0) dX9_mark_122 rfl (fun h17 hx => ?_)
            refine V.aload_n (j := 1) dX9_mark_123 rfl rfl rfl ?_
            refine U.getP fl_X9_7 t0 dX9_mark_124 rfl ?_
            refine V.iconst dX9_mark_127 rfl ki_4 ?_
            refine U.iald hx (ty_X9_0 t0) dX9_mark_128 rfl (fun hx => ?_)
            obtain rfl := Option.some.inj hx
            exact U.retI rfl rfl rfl rfl dX9_mark_129
          · refine V.aload_n (j := 0) dX9_mark_56 rfl rfl rfl ?_
            obtain ⟨v20, h19, q18, hx⟩ := ob2_some hx
            refine U.callV (As := []) (rest := []) (st' := [.int v20]) hE.1 (mX9_full hE t0 q18) mic_X9_full rfl t0 (by decide) rfl rfl wq_m_X9_82 wq_i_yX9_full wq_s_yX9_full ⟨Nat.le_of_ble_eq_true rfl, Nat.le_of_ble_eq_true rfl⟩ (Nat.le_of_ble_eq_true rfl) dX9_mark_57 rfl rfl rfl ?_
            obtain rfl := Option.some.inj hx
            exact U.retI rfl rfl rfl rfl dX9_mark_60
        · refine V.pick [0] rfl ?_
          exact vX9_mark_38 hE th h t0 hx
set_option maxRecDepth 100000 in
set_option maxHeartbeats 4000000 in
theorem mX9_forget {l : Launch} {G : GG} {EX : State → Prop} (hE : EXB G EX) {th : Nat} {a1 : Int32} {h : AH} (t0 : KD th = 8) {r : Int32 × AH} (hx : fX9_forget th a1 h = some r) : MetU l G EX mi_X9_forget 1 25 [.ref (G.1 + th), .int a1] h (some (.int r.1)) r.2 := by
  refine MetU.of mic_X9_forget.1 (Nat.le_of_ble_eq_true rfl) ?_
  refine show U l G EX mi_X9_forget 1 25 (some (.int r.1)) r.2 0 [(0, .ref (G.1 + th)), (1, .int a1)] [] h from ?_
  unfold fX9_forget at hx
  refine V.iload_n (j := 1) dX9_forget_0 rfl rfl rfl ?_
  refine V.i2l dX9_forget_1 rfl ?_
  refine V.lconst dX9_forget_2 rfl kl_0 ?_
  refine V.ldc2_w dX9_forget_3 rfl wq_l_X9_167 ?_
  obtain ⟨v2, q1, hx⟩ := ob_some hx
  refine U.callS (As := [.long a1.toInt64, .long (0 : Int64), .long (2 : Int64)]) (rest := []) (st' := [.int v2]) hE.1 (mX9_in hE q1) mic_X9_in rfl wq_m_X9_59 wq_t_yX9_in ⟨Nat.le_of_ble_eq_true rfl, Nat.le_of_ble_eq_true rfl⟩ (Nat.le_of_ble_eq_true rfl) dX9_forget_6 rfl rfl rfl ?_
  refine V.if_ne (tgt := 19) hx dX9_forget_9 (by decide) rfl (fun hx => ?_) (fun hx => ?_)
  · refine V.aload_n (j := 0) dX9_forget_19 rfl rfl rfl ?_
    refine U.getP fl_X9_7 t0 dX9_forget_20 rfl ?_
    refine V.iconst dX9_forget_23 rfl ki_2 ?_
    refine V.iload_n (j := 1) dX9_forget_24 rfl rfl rfl ?_
    refine V.iadd dX9_forget_25 rfl ?_
    refine U.iald hx (ty_X9_0 t0) dX9_forget_26 rfl (fun hx => ?_)
    refine U.letI hx (fun v3 hx => ?_)
    refine V.istore_n [(2, .int v3), (0, .ref (G.1 + th)), (1, .int a1)] dX9_forget_27 rfl rfl (Nat.le_of_ble_eq_true rfl) rfl ?_
    refine V.aload_n (j := 1) dX9_forget_28 rfl rfl rfl ?_
    refine U.getP fl_X9_7 t0 dX9_forget_29 rfl ?_
    refine V.iconst dX9_forget_32 rfl ki_2 ?_
    refine V.iload_n (j := 2) dX9_forget_33 rfl rfl rfl ?_
    refine V.iadd dX9_forget_34 rfl ?_
    refine V.iconst dX9_forget_35 rfl ki_0 ?_
    refine U.iast hx (ty_X9_0 t0) dX9_forget_36 rfl (fun h4 hx => ?_)
    refine V.iload_n (j := 0) dX9_forget_37 rfl rfl rfl ?_
    obtain rfl := Option.some.inj hx
    exact U.retI rfl rfl rfl rfl dX9_forget_38
  · refine V.aload_n (j := 0) dX9_forget_12 rfl rfl rfl ?_
    refine V.bipush dX9_forget_13 rfl kb_m2 ?_
    obtain ⟨v7, h6, q5, hx⟩ := ob2_some hx
    refine U.callV (As := [.int (-2 : Int32)]) (rest := []) (st' := [.int v7]) hE.1 (mX9_bad hE t0 q5) mic_X9_bad rfl t0 (by decide) rfl rfl wq_m_X9_78 wq_i_yX9_bad wq_s_yX9_bad ⟨Nat.le_of_ble_eq_true rfl, Nat.le_of_ble_eq_true rfl⟩ (Nat.le_of_ble_eq_true rfl) dX9_forget_15 rfl rfl rfl ?_
    obtain rfl := Option.some.inj hx
    exact U.retI rfl rfl rfl rfl dX9_forget_18
set_option maxRecDepth 100000 in
set_option maxHeartbeats 4000000 in
theorem vX9_kindsOf_100 {l : Launch} {G : GG} {EX : State → Prop} (hE : EXB G EX) {h : AH} {r : Int32} {k16 : Nat → Int32 → Int32 → Int32 → Int32 → Int32 → Option (Int32)} {k108 : Nat → Int32 → Int32 → Int32 → Int32 → Option (Int32)} (hk16 : ∀ (l0 : Nat) (l1 : Int32) (l2 : Int32) (l3 : Int32) (l4 : Int32) (l5 : Int32) (t0 : KD l0 = 8), k16 l0 l1 l2 l3 l4 l5 = some r → U l G EX mi_X9_kindsOf 3 69 (some (.int r)) h 16 [(0, .ref (G.1 + l0)), (1, .int l1), (2, .int l2), (3, .int l3), (4, .int l4), (5, .int l5)] [] h) (hk108 : ∀ (l0 : Nat) (l1 : Int32) (l2 : Int32) (l3 : Int32) (l4 : Int32) (t0 : KD l0 = 8), k108 l0 l1 l2 l3 l4 = some r → U l G EX mi_X9_kindsOf 3 69 (some (.int r)) h 108 [(0, .ref (G.1 + l0)), (1, .int l1), (2, .int l2), (3, .int l3), (4, .int l4)] [] h) : ∀ (l0 : Nat) (l1 : Int32) (l2 : Int32) (l3 : Int32) (l5 : Int32) (s0 : Int32) (t0 : KD l0 = 8), fX9_kindsOf_100 h k16 k108 l0 l1 l2 l3 l5 s0 = some r → U l G EX mi_X9_kindsOf 3 69 (some (.int r)) h 100 [(0, .ref (G.1 + l0)), (1, .int l1), (2, .int l2), (3, .int l3), (5, .int l5)] [.int s0] h := by
  intro l0 l1 l2 l3 l5 s0 t0 hx
  unfold fX9_kindsOf_100 at hx
  refine V.istore [(4, .int s0), (0, .ref (G.1 + l0)), (1, .int l1), (2, .int l2), (3, .int l3), (5, .int l5)] dX9_kindsOf_100 rfl (Nat.le_of_ble_eq_true rfl) rfl ?_
  refine U.iinc hx (fun v2 => [(5, .int v2), (4, .int s0), (0, .ref (G.1 + l0)), (1, .int l1), (2, .int l2), (3, .int l3)]) (j := 5) rfl (by decide) (Nat.le_of_ble_eq_true rfl) (fun _ => rfl) dX9_kindsOf_102 rfl (fun v2 hx => ?_)
  refine V.goto (q := 16) dX9_kindsOf_105 (by decide) ?_
  refine V.pick [2, 3, 4, 5, 1, 0] rfl ?_
  exact hk16 l0 l1 l2 l3 s0 v2 t0 hx
set_option maxRecDepth 100000 in
set_option maxHeartbeats 4000000 in
theorem vX9_kindsOf_99 {l : Launch} {G : GG} {EX : State → Prop} (hE : EXB G EX) {h : AH} {r : Int32} {k16 : Nat → Int32 → Int32 → Int32 → Int32 → Int32 → Option (Int32)} {k108 : Nat → Int32 → Int32 → Int32 → Int32 → Option (Int32)} (hk16 : ∀ (l0 : Nat) (l1 : Int32) (l2 : Int32) (l3 : Int32) (l4 : Int32) (l5 : Int32) (t0 : KD l0 = 8), k16 l0 l1 l2 l3 l4 l5 = some r → U l G EX mi_X9_kindsOf 3 69 (some (.int r)) h 16 [(0, .ref (G.1 + l0)), (1, .int l1), (2, .int l2), (3, .int l3), (4, .int l4), (5, .int l5)] [] h) (hk108 : ∀ (l0 : Nat) (l1 : Int32) (l2 : Int32) (l3 : Int32) (l4 : Int32) (t0 : KD l0 = 8), k108 l0 l1 l2 l3 l4 = some r → U l G EX mi_X9_kindsOf 3 69 (some (.int r)) h 108 [(0, .ref (G.1 + l0)), (1, .int l1), (2, .int l2), (3, .int l3), (4, .int l4)] [] h) : ∀ (l0 : Nat) (l1 : Int32) (l2 : Int32) (l3 : Int32) (l5 : Int32) (t0 : KD l0 = 8), fX9_kindsOf_99 h k16 k108 l0 l1 l2 l3 l5 = some r → U l G EX mi_X9_kindsOf 3 69 (some (.int r)) h 99 [(0, .ref (G.1 + l0)), (1, .int l1), (2, .int l2), (3, .int l3), (5, .int l5)] [] h := by
  intro l0 l1 l2 l3 l5 t0 hx
  unfold fX9_kindsOf_99 at hx
  refine V.iconst dX9_kindsOf_99 rfl ki_0 ?_
  exact vX9_kindsOf_100 hE hk16 hk108 l0 l1 l2 l3 l5 (0 : Int32) t0 hx
set_option maxRecDepth 100000 in
set_option maxHeartbeats 4000000 in
theorem vX9_kindsOf_95 {l : Launch} {G : GG} {EX : State → Prop} (hE : EXB G EX) {h : AH} {r : Int32} {k16 : Nat → Int32 → Int32 → Int32 → Int32 → Int32 → Option (Int32)} {k108 : Nat → Int32 → Int32 → Int32 → Int32 → Option (Int32)} (hk16 : ∀ (l0 : Nat) (l1 : Int32) (l2 : Int32) (l3 : Int32) (l4 : Int32) (l5 : Int32) (t0 : KD l0 = 8), k16 l0 l1 l2 l3 l4 l5 = some r → U l G EX mi_X9_kindsOf 3 69 (some (.int r)) h 16 [(0, .ref (G.1 + l0)), (1, .int l1), (2, .int l2), (3, .int l3), (4, .int l4), (5, .int l5)] [] h) (hk108 : ∀ (l0 : Nat) (l1 : Int32) (l2 : Int32) (l3 : Int32) (l4 : Int32) (t0 : KD l0 = 8), k108 l0 l1 l2 l3 l4 = some r → U l G EX mi_X9_kindsOf 3 69 (some (.int r)) h 108 [(0, .ref (G.1 + l0)), (1, .int l1), (2, .int l2), (3, .int l3), (4, .int l4)] [] h) : ∀ (l0 : Nat) (l1 : Int32) (l2 : Int32) (l3 : Int32) (l5 : Int32) (t0 : KD l0 = 8), fX9_kindsOf_95 h k16 k108 l0 l1 l2 l3 l5 = some r → U l G EX mi_X9_kindsOf 3 69 (some (.int r)) h 95 [(0, .ref (G.1 + l0)), (1, .int l1), (2, .int l2), (3, .int l3), (5, .int l5)] [] h := by
  intro l0 l1 l2 l3 l5 t0 hx
  unfold fX9_kindsOf_95 at hx
  refine V.iconst dX9_kindsOf_95 rfl ki_1 ?_
  refine V.goto (q := 100) dX9_kindsOf_96 (by decide) ?_
  exact vX9_kindsOf_100 hE hk16 hk108 l0 l1 l2 l3 l5 (1 : Int32) t0 hx
set_option maxRecDepth 100000 in
set_option maxHeartbeats 4000000 in
theorem vX9_kindsOf_16 {l : Launch} {G : GG} {EX : State → Prop} (hE : EXB G EX) {h : AH} {r : Int32} {k108 : Nat → Int32 → Int32 → Int32 → Int32 → Option (Int32)} (hk108 : ∀ (l0 : Nat) (l1 : Int32) (l2 : Int32) (l3 : Int32) (l4 : Int32) (t0 : KD l0 = 8), k108 l0 l1 l2 l3 l4 = some r → U l G EX mi_X9_kindsOf 3 69 (some (.int r)) h 108 [(0, .ref (G.1 + l0)), (1, .int l1), (2, .int l2), (3, .int l3), (4, .int l4)] [] h) : ∀ (n : Nat) (l0 : Nat) (l1 : Int32) (l2 : Int32) (l3 : Int32) (l4 : Int32) (l5 : Int32) (t0 : KD l0 = 8), fX9_kindsOf_16 h k108 n l0 l1 l2 l3 l4 l5 = some r → U l G EX mi_X9_kindsOf 3 69 (some (.int r)) h 16 [(0, .ref (G.1 + l0)), (1, .int l1), (2, .int l2), (3, .int l3), (4, .int l4), (5, .int l5)] [] h := by
  intro n
  induction n with
  | zero =>
    intro l0 l1 l2 l3 l4 l5 t0 hx
    have hx : none = some r := hx
    cases hx
  | succ n ih =>
    intro l0 l1 l2 l3 l4 l5 t0 hx
    rw [fX9_kindsOf_16] at hx
    refine V.iload (j := 5) dX9_kindsOf_16 rfl rfl ?_
    refine V.aload_n (j := 0) dX9_kindsOf_18 rfl rfl rfl ?_
    refine U.getP fl_X9_7 t0 dX9_kindsOf_19 rfl ?_
    refine V.iconst dX9_kindsOf_22 rfl ki_3 ?_
    refine U.iald hx (ty_X9_0 t0) dX9_kindsOf_23 rfl (fun hx => ?_)
    refine V.icmp_ge (tgt := 108) hx dX9_kindsOf_24 (by decide) rfl (fun hx => ?_) (fun hx => ?_)
    · refine V.pick [0, 1, 2, 3, 4] rfl ?_
      exact hk108 l0 l1 l2 l3 l4 t0 hx
    · refine V.bipush dX9_kindsOf_27 rfl kb_58 ?_
      refine V.iconst dX9_kindsOf_29 rfl ki_5 ?_
      refine V.iload (j := 5) dX9_kindsOf_30 rfl rfl ?_
      refine V.imul dX9_kindsOf_32 rfl ?_
      refine V.iadd dX9_kindsOf_33 rfl ?_
      refine U.letI hx (fun v1 hx => ?_)
      refine V.istore [(6, .int v1), (0, .ref (G.1 + l0)), (1, .int l1), (2, .int l2), (3, .int l3), (4, .int l4), (5, .int l5)] dX9_kindsOf_34 rfl (Nat.le_of_ble_eq_true rfl) rfl ?_
      refine V.iload (j := 5) dX9_kindsOf_36 rfl rfl ?_
      refine V.if_eq (tgt := 99) hx dX9_kindsOf_38 (by decide) rfl (fun hx => ?_) (fun hx => ?_)
      · refine V.pick [1, 2, 3, 4, 6] rfl ?_
        exact vX9_kindsOf_99 hE (ih) hk108 l0 l1 l2 l3 l5 t0 hx
      · refine V.aload_n (j := 1) dX9_kindsOf_41 rfl rfl rfl ?_
        refine U.getP fl_X9_7 t0 dX9_kindsOf_42 rfl ?_
        refine V.iload (j := 0) dX9_kindsOf_45 rfl rfl ?_
        refine U.iald hx (ty_X9_0 t0) dX9_kindsOf_47 rfl (fun hx => ?_)
        refine V.iload_n (j := 2) dX9_kindsOf_48 rfl rfl rfl ?_
        refine V.icmp_ne (tgt := 95) hx dX9_kindsOf_49 (by decide) rfl (fun hx => ?_) (fun hx => ?_)
        · refine V.pick [1, 2, 3, 4, 6] rfl ?_
          exact vX9_kindsOf_95 hE (ih) hk108 l0 l1 l2 l3 l5 t0 hx
        · refine V.iload_n (j := 4) dX9_kindsOf_52 rfl rfl rfl ?_
          refine V.aload_n (j := 1) dX9_kindsOf_53 rfl rfl rfl ?_
          refine U.getP fl_X9_7 t0 dX9_kindsOf_54 rfl ?_
          refine V.iload (j := 0) dX9_kindsOf_57 rfl rfl ?_
          refine V.iconst dX9_kindsOf_59 rfl ki_2 ?_
          refine V.iadd dX9_kindsOf_60 rfl ?_
          refine U.iald hx (ty_X9_0 t0) dX9_kindsOf_61 rfl (fun hx => ?_)
          refine V.aload_n (j := 1) dX9_kindsOf_62 rfl rfl rfl ?_
          refine U.getP fl_X9_7 t0 dX9_kindsOf_63 rfl ?_
          refine V.iload (j := 0) dX9_kindsOf_66 rfl rfl ?_
          refine V.iconst dX9_kindsOf_68 rfl ki_3 ?_
          refine V.iadd dX9_kindsOf_69 rfl ?_
          refine U.iald hx (ty_X9_0 t0) dX9_kindsOf_70 rfl (fun hx => ?_)
          refine V.aload_n (j := 1) dX9_kindsOf_71 rfl rfl rfl ?_
          refine U.getP fl_X9_7 t0 dX9_kindsOf_72 rfl ?_
          refine V.iload (j := 0) dX9_kindsOf_75 rfl rfl ?_
          refine V.iconst dX9_kindsOf_77 rfl ki_1 ?_
          refine V.iadd dX9_kindsOf_78 rfl ?_
          refine U.iald hx (ty_X9_0 t0) dX9_kindsOf_79 rfl (fun hx => ?_)
          obtain ⟨v4, q3, hx⟩ := ob_some hx
          refine U.callS (As := [.int l3, .int (hI h (PC l0 0) (ix (v1 + (2 : Int32)))), .int (hI h (PC l0 0) (ix (v1 + (3 : Int32)))), .int (hI h (PC l0 0) (ix (v1 + (1 : Int32))))]) (rest := []) (st' := [.int v4]) hE.1 (mX9_pullAs hE q3) mic_X9_pullAs rfl wq_m_X9_110 wq_t_yX9_pullAs ⟨Nat.le_of_ble_eq_true rfl, Nat.le_of_ble_eq_true rfl⟩ (Nat.le_of_ble_eq_true rfl) dX9_kindsOf_80 rfl rfl rfl ?_
          refine V.aload_n (j := 1) dX9_kindsOf_83 rfl rfl rfl ?_
          refine U.getP fl_X9_7 t0 dX9_kindsOf_84 rfl ?_
          refine V.iload (j := 0) dX9_kindsOf_87 rfl rfl ?_
          refine V.iconst dX9_kindsOf_89 rfl ki_4 ?_
          refine V.iadd dX9_kindsOf_90 rfl ?_
          refine U.iald hx (ty_X9_0 t0) dX9_kindsOf_91 rfl (fun hx => ?_)
          refine V.icmp_ne (tgt := 99) hx dX9_kindsOf_92 (by decide) rfl (fun hx => ?_) (fun hx => ?_)
          · refine V.pick [1, 2, 3, 4, 6] rfl ?_
            exact vX9_kindsOf_99 hE (ih) hk108 l0 l1 l2 l3 l5 t0 hx
          · refine V.pick [1, 2, 3, 4, 6] rfl ?_
            exact vX9_kindsOf_95 hE (ih) hk108 l0 l1 l2 l3 l5 t0 hx
set_option maxRecDepth 100000 in
set_option maxHeartbeats 4000000 in
theorem vX9_kindsOf_121 {l : Launch} {G : GG} {EX : State → Prop} (hE : EXB G EX) {h : AH} {r : Int32} {k4 : Nat → Int32 → Int32 → Int32 → Option (Int32)} (hk4 : ∀ (l0 : Nat) (l1 : Int32) (l2 : Int32) (l3 : Int32) (t0 : KD l0 = 8), k4 l0 l1 l2 l3 = some r → U l G EX mi_X9_kindsOf 3 69 (some (.int r)) h 4 [(0, .ref (G.1 + l0)), (1, .int l1), (2, .int l2), (3, .int l3)] [] h) : ∀ (l0 : Nat) (l1 : Int32) (l3 : Int32) (s0 : Int32) (s1 : Int32) (t0 : KD l0 = 8), fX9_kindsOf_121 h k4 l0 l1 l3 s0 s1 = some r → U l G EX mi_X9_kindsOf 3 69 (some (.int r)) h 121 [(0, .ref (G.1 + l0)), (1, .int l1), (3, .int l3)] [.int s1, .int s0] h := by
  intro l0 l1 l3 s0 s1 t0 hx
  unfold fX9_kindsOf_121 at hx
  refine V.ior dX9_kindsOf_121 rfl ?_
  refine U.letI hx (fun v11 hx => ?_)
  refine V.istore_n [(2, .int v11), (0, .ref (G.1 + l0)), (1, .int l1), (3, .int l3)] dX9_kindsOf_122 rfl rfl (Nat.le_of_ble_eq_true rfl) rfl ?_
  refine U.iinc hx (fun v12 => [(3, .int v12), (2, .int v11), (0, .ref (G.1 + l0)), (1, .int l1)]) (j := 3) rfl (by decide) (Nat.le_of_ble_eq_true rfl) (fun _ => rfl) dX9_kindsOf_123 rfl (fun v12 hx => ?_)
  refine V.goto (q := 4) dX9_kindsOf_126 (by decide) ?_
  refine V.pick [2, 3, 1, 0] rfl ?_
  exact hk4 l0 l1 v11 v12 t0 hx
set_option maxRecDepth 100000 in
set_option maxHeartbeats 4000000 in
theorem vX9_kindsOf_4 {l : Launch} {G : GG} {EX : State → Prop} (hE : EXB G EX) {h : AH} {r : Int32} : ∀ (n : Nat) (l0 : Nat) (l1 : Int32) (l2 : Int32) (l3 : Int32) (t0 : KD l0 = 8), fX9_kindsOf_4 h n l0 l1 l2 l3 = some r → U l G EX mi_X9_kindsOf 3 69 (some (.int r)) h 4 [(0, .ref (G.1 + l0)), (1, .int l1), (2, .int l2), (3, .int l3)] [] h := by
  intro n
  induction n with
  | zero =>
    intro l0 l1 l2 l3 t0 hx
    have hx : none = some r := hx
    cases hx
  | succ n ih =>
    intro l0 l1 l2 l3 t0 hx
    rw [fX9_kindsOf_4] at hx
    refine V.iload_n (j := 3) dX9_kindsOf_4 rfl rfl rfl ?_
    refine V.bipush dX9_kindsOf_5 rfl kb_6 ?_
    refine V.icmp_ge (tgt := 129) hx dX9_kindsOf_7 (by decide) rfl (fun hx => ?_) (fun hx => ?_)
    · refine V.iload_n (j := 2) dX9_kindsOf_129 rfl rfl rfl ?_
      obtain rfl := Option.some.inj hx
      exact U.retI rfl rfl rfl rfl dX9_kindsOf_130
    · refine V.iconst dX9_kindsOf_10 rfl ki_1 ?_
      refine V.istore [(4, .int (1 : Int32)), (0, .ref (G.1 + l0)), (1, .int l1), (2, .int l2), (3, .int l3)] dX9_kindsOf_11 rfl (Nat.le_of_ble_eq_true rfl) rfl ?_
      refine V.iconst dX9_kindsOf_13 rfl ki_0 ?_
      refine V.istore [(5, .int (0 : Int32)), (4, .int (1 : Int32)), (0, .ref (G.1 + l0)), (1, .int l1), (2, .int l2), (3, .int l3)] dX9_kindsOf_14 rfl (Nat.le_of_ble_eq_true rfl) rfl ?_
      refine V.pick [2, 3, 4, 5, 1, 0] rfl ?_
      refine vX9_kindsOf_16 hE (fun w5 w6 w7 w8 w9 t10 hx => ?_) FU l0 l1 l2 l3 (1 : Int32) (0 : Int32) t0 hx
      · refine V.iload_n (j := 2) dX9_kindsOf_108 rfl rfl rfl ?_
        refine V.iload (j := 4) dX9_kindsOf_109 rfl rfl ?_
        refine V.if_eq (tgt := 120) hx dX9_kindsOf_111 (by decide) rfl (fun hx => ?_) (fun hx => ?_)
        · refine V.iconst dX9_kindsOf_120 rfl ki_0 ?_
          refine V.pick [0, 1, 3] rfl ?_
          exact vX9_kindsOf_121 hE (ih) w5 w6 w8 w7 (0 : Int32) t10 hx
        · refine V.iconst dX9_kindsOf_114 rfl ki_1 ?_
          refine V.iload_n (j := 3) dX9_kindsOf_115 rfl rfl rfl ?_
          refine V.ishl dX9_kindsOf_116 rfl ?_
          refine V.goto (q := 121) dX9_kindsOf_117 (by decide) ?_
          refine V.pick [0, 1, 3] rfl ?_
          exact vX9_kindsOf_121 hE (ih) w5 w6 w8 w7 (jshl (1 : Int32) w8) t10 hx
set_option maxRecDepth 100000 in
set_option maxHeartbeats 4000000 in
theorem mX9_kindsOf {l : Launch} {G : GG} {EX : State → Prop} (hE : EXB G EX) {th : Nat} {a1 : Int32} {h : AH} (t0 : KD th = 8) {r : Int32} (hx : fX9_kindsOf th a1 h = some r) : MetU l G EX mi_X9_kindsOf 3 69 [.ref (G.1 + th), .int a1] h (some (.int r)) h := by
  refine MetU.of mic_X9_kindsOf.1 (Nat.le_of_ble_eq_true rfl) ?_
  refine show U l G EX mi_X9_kindsOf 3 69 (some (.int r)) h 0 [(0, .ref (G.1 + th)), (1, .int a1)] [] h from ?_
  unfold fX9_kindsOf at hx
  refine V.iconst dX9_kindsOf_0 rfl ki_0 ?_
  refine V.istore_n [(2, .int (0 : Int32)), (0, .ref (G.1 + th)), (1, .int a1)] dX9_kindsOf_1 rfl rfl (Nat.le_of_ble_eq_true rfl) rfl ?_
  refine V.iconst dX9_kindsOf_2 rfl ki_0 ?_
  refine V.istore_n [(3, .int (0 : Int32)), (2, .int (0 : Int32)), (0, .ref (G.1 + th)), (1, .int a1)] dX9_kindsOf_3 rfl rfl (Nat.le_of_ble_eq_true rfl) rfl ?_
  refine V.pick [2, 3, 1, 0] rfl ?_
  exact vX9_kindsOf_4 hE FU th a1 (0 : Int32) (0 : Int32) t0 hx
set_option maxRecDepth 100000 in
set_option maxHeartbeats 4000000 in
theorem mX9_is {l : Launch} {G : GG} {EX : State → Prop} (hE : EXB G EX) {th : Nat} {a1 : Int32} {h : AH} (t0 : KD th = 8) {r : Int32 × AH} (hx : fX9_is th a1 h = some r) : MetU l G EX mi_X9_is 4 95 [.ref (G.1 + th), .int a1] h (some (.int r.1)) r.2 := by
  refine MetU.of mic_X9_is.1 (Nat.le_of_ble_eq_true rfl) ?_
  refine show U l G EX mi_X9_is 4 95 (some (.int r.1)) r.2 0 [(0, .ref (G.1 + th)), (1, .int a1)] [] h from ?_
  unfold fX9_is at hx
  refine V.aload_n (j := 0) dX9_is_0 rfl rfl rfl ?_
  refine V.iload_n (j := 1) dX9_is_1 rfl rfl rfl ?_
  obtain ⟨v2, q1, hx⟩ := ob_some hx
  refine U.callV (As := [.int a1]) (rest := []) (st' := [.int v2]) hE.1 (mX9_isShow hE t0 q1) mic_X9_isShow rfl t0 (by decide) rfl rfl wq_m_X9_153 wq_i_yX9_isShow wq_s_yX9_isShow ⟨Nat.le_of_ble_eq_true rfl, Nat.le_of_ble_eq_true rfl⟩ (Nat.le_of_ble_eq_true rfl) dX9_is_2 rfl rfl rfl ?_
  refine V.if_eq (tgt := 16) hx dX9_is_5 (by decide) rfl (fun hx => ?_) (fun hx => ?_)
  · refine V.aload_n (j := 0) dX9_is_16 rfl rfl rfl ?_
    refine V.bipush dX9_is_17 rfl kb_m2 ?_
    obtain ⟨v5, h4, q3, hx⟩ := ob2_some hx
    refine U.callV (As := [.int (-2 : Int32)]) (rest := []) (st' := [.int v5]) hE.1 (mX9_bad hE t0 q3) mic_X9_bad rfl t0 (by decide) rfl rfl wq_m_X9_78 wq_i_yX9_bad wq_s_yX9_bad ⟨Nat.le_of_ble_eq_true rfl, Nat.le_of_ble_eq_true rfl⟩ (Nat.le_of_ble_eq_true rfl) dX9_is_19 rfl rfl rfl ?_
    obtain rfl := Option.some.inj hx
    exact U.retI rfl rfl rfl rfl dX9_is_22
  · refine V.aload_n (j := 0) dX9_is_8 rfl rfl rfl ?_
    refine V.iload_n (j := 1) dX9_is_9 rfl rfl rfl ?_
    obtain ⟨v7, q6, hx⟩ := ob_some hx
    refine U.callV (As := [.int a1]) (rest := []) (st' := [.int v7]) hE.1 (mX9_kindsOf hE t0 q6) mic_X9_kindsOf rfl t0 (by decide) rfl rfl wq_m_X9_201 wq_i_yX9_kindsOf wq_s_yX9_kindsOf ⟨Nat.le_of_ble_eq_true rfl, Nat.le_of_ble_eq_true rfl⟩ (Nat.le_of_ble_eq_true rfl) dX9_is_10 rfl rfl rfl ?_
    refine V.goto (q := 22) dX9_is_13 (by decide) ?_
    obtain rfl := Option.some.inj hx
    exact U.retI rfl rfl rfl rfl dX9_is_22
set_option maxRecDepth 100000 in
set_option maxHeartbeats 4000000 in
theorem vX9_look_170 {l : Launch} {G : GG} {EX : State → Prop} (hE : EXB G EX) {r : Int32 × AH} {k109 : Nat → Int32 → Int32 → Int32 → Int32 → Int32 → Int32 → Int32 → Int32 → Int32 → Int32 → AH → Option (Int32 × AH)} {k179 : Nat → Int32 → Int32 → Int32 → Int32 → Int32 → Int32 → Int32 → Int32 → AH → Option (Int32 × AH)} (hk109 : ∀ (l0 : Nat) (l1 : Int32) (l2 : Int32) (l3 : Int32) (l4 : Int32) (l5 : Int32) (l6 : Int32) (l7 : Int32) (l8 : Int32) (l9 : Int32) (l10 : Int32) (h : AH) (t0 : KD l0 = 8), k109 l0 l1 l2 l3 l4 l5 l6 l7 l8 l9 l10 h = some r → U l G EX mi_X9_look 4 95 (some (.int r.1)) r.2 109 [(0, .ref (G.1 + l0)), (1, .int l1), (2, .int l2), (3, .int l3), (4, .int l4), (5, .int l5), (6, .int l6), (7, .int l7), (8, .int l8), (9, .int l9), (10, .int l10)] [] h) (hk179 : ∀ (l0 : Nat) (l1 : Int32) (l2 : Int32) (l3 : Int32) (l4 : Int32) (l5 : Int32) (l6 : Int32) (l7 : Int32) (l8 : Int32) (h : AH) (t0 : KD l0 = 8), k179 l0 l1 l2 l3 l4 l5 l6 l7 l8 h = some r → U l G EX mi_X9_look 4 95 (some (.int r.1)) r.2 179 [(0, .ref (G.1 + l0)), (1, .int l1), (2, .int l2), (3, .int l3), (4, .int l4), (5, .int l5), (6, .int l6), (7, .int l7), (8, .int l8)] [] h) : ∀ (l0 : Nat) (l1 : Int32) (l2 : Int32) (l3 : Int32) (l4 : Int32) (l5 : Int32) (l6 : Int32) (l7 : Int32) (l9 : Int32) (l10 : Int32) (s0 : Int32) (s1 : Int32) (h : AH) (t0 : KD l0 = 8), fX9_look_170 k109 k179 l0 l1 l2 l3 l4 l5 l6 l7 l9 l10 s0 s1 h = some r → U l G EX mi_X9_look 4 95 (some (.int r.1)) r.2 170 [(0, .ref (G.1 + l0)), (1, .int l1), (2, .int l2), (3, .int l3), (4, .int l4), (5, .int l5), (6, .int l6), (7, .int l7), (9, .int l9), (10, .int l10)] [.int s1, .int s0] h := by
  intro l0 l1 l2 l3 l4 l5 l6 l7 l9 l10 s0 s1 h t0 hx
  unfold fX9_look_170 at hx
  refine V.iadd dX9_look_170 rfl ?_
  refine U.letI hx (fun v11 hx => ?_)
  refine V.istore [(8, .int v11), (0, .ref (G.1 + l0)), (1, .int l1), (2, .int l2), (3, .int l3), (4, .int l4), (5, .int l5), (6, .int l6), (7, .int l7), (9, .int l9), (10, .int l10)] dX9_look_171 rfl (Nat.le_of_ble_eq_true rfl) rfl ?_
  refine U.iinc hx (fun v12 => [(10, .int v12), (8, .int v11), (0, .ref (G.1 + l0)), (1, .int l1), (2, .int l2), (3, .int l3), (4, .int l4), (5, .int l5), (6, .int l6), (7, .int l7), (9, .int l9)]) (j := 10) rfl (by decide) (Nat.le_of_ble_eq_true rfl) (fun _ => rfl) dX9_look_173 rfl (fun v12 hx => ?_)
  refine V.goto (q := 109) dX9_look_176 (by decide) ?_
  refine V.pick [2, 3, 4, 5, 6, 7, 8, 9, 1, 10, 0] rfl ?_
  exact hk109 l0 l1 l2 l3 l4 l5 l6 l7 v11 l9 v12 h t0 hx
set_option maxRecDepth 100000 in
set_option maxHeartbeats 4000000 in
theorem vX9_look_169 {l : Launch} {G : GG} {EX : State → Prop} (hE : EXB G EX) {r : Int32 × AH} {k109 : Nat → Int32 → Int32 → Int32 → Int32 → Int32 → Int32 → Int32 → Int32 → Int32 → Int32 → AH → Option (Int32 × AH)} {k179 : Nat → Int32 → Int32 → Int32 → Int32 → Int32 → Int32 → Int32 → Int32 → AH → Option (Int32 × AH)} (hk109 : ∀ (l0 : Nat) (l1 : Int32) (l2 : Int32) (l3 : Int32) (l4 : Int32) (l5 : Int32) (l6 : Int32) (l7 : Int32) (l8 : Int32) (l9 : Int32) (l10 : Int32) (h : AH) (t0 : KD l0 = 8), k109 l0 l1 l2 l3 l4 l5 l6 l7 l8 l9 l10 h = some r → U l G EX mi_X9_look 4 95 (some (.int r.1)) r.2 109 [(0, .ref (G.1 + l0)), (1, .int l1), (2, .int l2), (3, .int l3), (4, .int l4), (5, .int l5), (6, .int l6), (7, .int l7), (8, .int l8), (9, .int l9), (10, .int l10)] [] h) (hk179 : ∀ (l0 : Nat) (l1 : Int32) (l2 : Int32) (l3 : Int32) (l4 : Int32) (l5 : Int32) (l6 : Int32) (l7 : Int32) (l8 : Int32) (h : AH) (t0 : KD l0 = 8), k179 l0 l1 l2 l3 l4 l5 l6 l7 l8 h = some r → U l G EX mi_X9_look 4 95 (some (.int r.1)) r.2 179 [(0, .ref (G.1 + l0)), (1, .int l1), (2, .int l2), (3, .int l3), (4, .int l4), (5, .int l5), (6, .int l6), (7, .int l7), (8, .int l8)] [] h) : ∀ (l0 : Nat) (l1 : Int32) (l2 : Int32) (l3 : Int32) (l4 : Int32) (l5 : Int32) (l6 : Int32) (l7 : Int32) (l9 : Int32) (l10 : Int32) (s0 : Int32) (h : AH) (t0 : KD l0 = 8), fX9_look_169 k109 k179 l0 l1 l2 l3 l4 l5 l6 l7 l9 l10 s0 h = some r → U l G EX mi_X9_look 4 95 (some (.int r.1)) r.2 169 [(0, .ref (G.1 + l0)), (1, .int l1), (2, .int l2), (3, .int l3), (4, .int l4), (5, .int l5), (6, .int l6), (7, .int l7), (9, .int l9), (10, .int l10)] [.int s0] h := by
  intro l0 l1 l2 l3 l4 l5 l6 l7 l9 l10 s0 h t0 hx
  unfold fX9_look_169 at hx
  refine V.iconst dX9_look_169 rfl ki_0 ?_
  exact vX9_look_170 hE hk109 hk179 l0 l1 l2 l3 l4 l5 l6 l7 l9 l10 s0 (0 : Int32) h t0 hx
set_option maxRecDepth 100000 in
set_option maxHeartbeats 4000000 in
theorem vX9_look_109 {l : Launch} {G : GG} {EX : State → Prop} (hE : EXB G EX) {r : Int32 × AH} {k179 : Nat → Int32 → Int32 → Int32 → Int32 → Int32 → Int32 → Int32 → Int32 → AH → Option (Int32 × AH)} (hk179 : ∀ (l0 : Nat) (l1 : Int32) (l2 : Int32) (l3 : Int32) (l4 : Int32) (l5 : Int32) (l6 : Int32) (l7 : Int32) (l8 : Int32) (h : AH) (t0 : KD l0 = 8), k179 l0 l1 l2 l3 l4 l5 l6 l7 l8 h = some r → U l G EX mi_X9_look 4 95 (some (.int r.1)) r.2 179 [(0, .ref (G.1 + l0)), (1, .int l1), (2, .int l2), (3, .int l3), (4, .int l4), (5, .int l5), (6, .int l6), (7, .int l7), (8, .int l8)] [] h) : ∀ (n : Nat) (l0 : Nat) (l1 : Int32) (l2 : Int32) (l3 : Int32) (l4 : Int32) (l5 : Int32) (l6 : Int32) (l7 : Int32) (l8 : Int32) (l9 : Int32) (l10 : Int32) (h : AH) (t0 : KD l0 = 8), fX9_look_109 k179 n l0 l1 l2 l3 l4 l5 l6 l7 l8 l9 l10 h = some r → U l G EX mi_X9_look 4 95 (some (.int r.1)) r.2 109 [(0, .ref (G.1 + l0)), (1, .int l1), (2, .int l2), (3, .int l3), (4, .int l4), (5, .int l5), (6, .int l6), (7, .int l7), (8, .int l8), (9, .int l9), (10, .int l10)] [] h := by
  intro n
  induction n with
  | zero =>
    intro l0 l1 l2 l3 l4 l5 l6 l7 l8 l9 l10 h t0 hx
    have hx : none = some r := hx
    cases hx
  | succ n ih =>
    intro l0 l1 l2 l3 l4 l5 l6 l7 l8 l9 l10 h t0 hx
    rw [fX9_look_109] at hx
    refine V.iload (j := 10) dX9_look_109 rfl rfl ?_
    refine V.bipush dX9_look_111 rfl kb_6 ?_
    refine V.icmp_ge (tgt := 179) hx dX9_look_113 (by decide) rfl (fun hx => ?_) (fun hx => ?_)
    · refine V.pick [0, 1, 2, 3, 4, 5, 6, 7, 8] rfl ?_
      exact hk179 l0 l1 l2 l3 l4 l5 l6 l7 l8 h t0 hx
    · refine V.iload_n (j := 2) dX9_look_116 rfl rfl rfl ?_
      refine V.iload (j := 7) dX9_look_117 rfl rfl ?_
      obtain ⟨v8, q7, hx⟩ := ob_some hx
      refine U.callS (As := [.int l2, .int l7]) (rest := []) (st' := [.int v8]) hE.1 (mX9_has hE q7) mic_X9_has rfl wq_m_X9_114 wq_t_yX9_has ⟨Nat.le_of_ble_eq_true rfl, Nat.le_of_ble_eq_true rfl⟩ (Nat.le_of_ble_eq_true rfl) dX9_look_119 rfl rfl rfl ?_
      refine V.if_eq (tgt := 179) hx dX9_look_122 (by decide) rfl (fun hx => ?_) (fun hx => ?_)
      · refine V.pick [0, 1, 2, 3, 4, 5, 6, 7, 8] rfl ?_
        exact hk179 l0 l1 l2 l3 l4 l5 l6 l7 l8 h t0 hx
      · refine V.iload (j := 8) dX9_look_125 rfl rfl ?_
        refine V.iload_n (j := 2) dX9_look_127 rfl rfl rfl ?_
        refine V.iload (j := 10) dX9_look_128 rfl rfl ?_
        obtain ⟨v10, q9, hx⟩ := ob_some hx
        refine U.callS (As := [.int l2, .int l10]) (rest := [.int l8]) (st' := [.int v10, .int l8]) hE.1 (mX9_has hE q9) mic_X9_has rfl wq_m_X9_114 wq_t_yX9_has ⟨Nat.le_of_ble_eq_true rfl, Nat.le_of_ble_eq_true rfl⟩ (Nat.le_of_ble_eq_true rfl) dX9_look_130 rfl rfl rfl ?_
        refine V.if_eq (tgt := 169) hx dX9_look_133 (by decide) rfl (fun hx => ?_) (fun hx => ?_)
        · refine V.pick [0, 1, 2, 3, 4, 5, 6, 7, 9, 10] rfl ?_
          exact vX9_look_169 hE (ih) hk179 l0 l1 l2 l3 l4 l5 l6 l7 l9 l10 l8 h t0 hx
        · refine V.iload (j := 10) dX9_look_136 rfl rfl ?_
          refine V.iload (j := 5) dX9_look_138 rfl rfl ?_
          refine V.bipush dX9_look_140 rfl kb_100 ?_
          refine V.irem dX9_look_142 rfl (by decide) ?_
          refine V.iload (j := 5) dX9_look_143 rfl rfl ?_
          refine V.bipush dX9_look_145 rfl kb_100 ?_
          refine V.idiv dX9_look_147 rfl (by decide) ?_
          refine V.aload_n (j := 0) dX9_look_148 rfl rfl rfl ?_
          refine U.getP fl_X9_7 t0 dX9_look_149 rfl ?_
          refine V.bipush dX9_look_152 rfl kb_35 ?_
          refine V.iload_n (j := 1) dX9_look_154 rfl rfl rfl ?_
          refine V.iadd dX9_look_155 rfl ?_
          refine U.iald hx (ty_X9_0 t0) dX9_look_156 rfl (fun hx => ?_)
          obtain ⟨v14, q13, hx⟩ := ob_some hx
          refine U.callS (As := [.int l10, .int (jrem l5 (100 : Int32)), .int (l5 / (100 : Int32)), .int (hI h (PC l0 0) (ix ((35 : Int32) + l1)))]) (rest := [.int l8]) (st' := [.int v14, .int l8]) hE.1 (mX9_pullAs hE q13) mic_X9_pullAs rfl wq_m_X9_110 wq_t_yX9_pullAs ⟨Nat.le_of_ble_eq_true rfl, Nat.le_of_ble_eq_true rfl⟩ (Nat.le_of_ble_eq_true rfl) dX9_look_157 rfl rfl rfl ?_
          refine V.iload (j := 9) dX9_look_160 rfl rfl ?_
          refine V.icmp_ne (tgt := 169) hx dX9_look_162 (by decide) rfl (fun hx => ?_) (fun hx => ?_)
          · refine V.pick [0, 1, 2, 3, 4, 5, 6, 7, 9, 10] rfl ?_
            exact vX9_look_169 hE (ih) hk179 l0 l1 l2 l3 l4 l5 l6 l7 l9 l10 l8 h t0 hx
          · refine V.iconst dX9_look_165 rfl ki_1 ?_
            refine V.goto (q := 170) dX9_look_166 (by decide) ?_
            refine V.pick [0, 1, 2, 3, 4, 5, 6, 7, 9, 10] rfl ?_
            exact vX9_look_170 hE (ih) hk179 l0 l1 l2 l3 l4 l5 l6 l7 l9 l10 l8 (1 : Int32) h t0 hx
set_option maxRecDepth 100000 in
set_option maxHeartbeats 4000000 in
theorem vX9_look_193 {l : Launch} {G : GG} {EX : State → Prop} (hE : EXB G EX) {r : Int32 × AH} {k63 : Nat → Int32 → Int32 → Int32 → Int32 → Int32 → Int32 → Int32 → AH → Option (Int32 × AH)} {k201 : Nat → Int32 → Int32 → Int32 → Int32 → Int32 → Int32 → AH → Option (Int32 × AH)} (hk63 : ∀ (l0 : Nat) (l1 : Int32) (l2 : Int32) (l3 : Int32) (l4 : Int32) (l5 : Int32) (l6 : Int32) (l7 : Int32) (h : AH) (t0 : KD l0 = 8), k63 l0 l1 l2 l3 l4 l5 l6 l7 h = some r → U l G EX mi_X9_look 4 95 (some (.int r.1)) r.2 63 [(0, .ref (G.1 + l0)), (1, .int l1), (2, .int l2), (3, .int l3), (4, .int l4), (5, .int l5), (6, .int l6), (7, .int l7)] [] h) (hk201 : ∀ (l0 : Nat) (l1 : Int32) (l2 : Int32) (l3 : Int32) (l4 : Int32) (l5 : Int32) (l6 : Int32) (h : AH) (t0 : KD l0 = 8), k201 l0 l1 l2 l3 l4 l5 l6 h = some r → U l G EX mi_X9_look 4 95 (some (.int r.1)) r.2 201 [(0, .ref (G.1 + l0)), (1, .int l1), (2, .int l2), (3, .int l3), (4, .int l4), (5, .int l5), (6, .int l6)] [] h) : ∀ (l0 : Nat) (l1 : Int32) (l2 : Int32) (l3 : Int32) (l4 : Int32) (l5 : Int32) (l7 : Int32) (s0 : Int32) (h : AH) (t0 : KD l0 = 8), fX9_look_193 k63 k201 l0 l1 l2 l3 l4 l5 l7 s0 h = some r → U l G EX mi_X9_look 4 95 (some (.int r.1)) r.2 193 [(0, .ref (G.1 + l0)), (1, .int l1), (2, .int l2), (3, .int l3), (4, .int l4), (5, .int l5), (7, .int l7)] [.int s0] h := by
  intro l0 l1 l2 l3 l4 l5 l7 s0 h t0 hx
  unfold fX9_look_193 at hx
  refine V.istore [(6, .int s0), (0, .ref (G.1 + l0)), (1, .int l1), (2, .int l2), (3, .int l3), (4, .int l4), (5, .int l5), (7, .int l7)] dX9_look_193 rfl (Nat.le_of_ble_eq_true rfl) rfl ?_
  refine U.iinc hx (fun v26 => [(7, .int v26), (6, .int s0), (0, .ref (G.1 + l0)), (1, .int l1), (2, .int l2), (3, .int l3), (4, .int l4), (5, .int l5)]) (j := 7) rfl (by decide) (Nat.le_of_ble_eq_true rfl) (fun _ => rfl) dX9_look_195 rfl (fun v26 hx => ?_)
  refine V.goto (q := 63) dX9_look_198 (by decide) ?_
  refine V.pick [2, 3, 4, 5, 6, 7, 1, 0] rfl ?_
  exact hk63 l0 l1 l2 l3 l4 l5 s0 v26 h t0 hx
set_option maxRecDepth 100000 in
set_option maxHeartbeats 4000000 in
theorem vX9_look_179 {l : Launch} {G : GG} {EX : State → Prop} (hE : EXB G EX) {r : Int32 × AH} {k63 : Nat → Int32 → Int32 → Int32 → Int32 → Int32 → Int32 → Int32 → AH → Option (Int32 × AH)} {k201 : Nat → Int32 → Int32 → Int32 → Int32 → Int32 → Int32 → AH → Option (Int32 × AH)} (hk63 : ∀ (l0 : Nat) (l1 : Int32) (l2 : Int32) (l3 : Int32) (l4 : Int32) (l5 : Int32) (l6 : Int32) (l7 : Int32) (h : AH) (t0 : KD l0 = 8), k63 l0 l1 l2 l3 l4 l5 l6 l7 h = some r → U l G EX mi_X9_look 4 95 (some (.int r.1)) r.2 63 [(0, .ref (G.1 + l0)), (1, .int l1), (2, .int l2), (3, .int l3), (4, .int l4), (5, .int l5), (6, .int l6), (7, .int l7)] [] h) (hk201 : ∀ (l0 : Nat) (l1 : Int32) (l2 : Int32) (l3 : Int32) (l4 : Int32) (l5 : Int32) (l6 : Int32) (h : AH) (t0 : KD l0 = 8), k201 l0 l1 l2 l3 l4 l5 l6 h = some r → U l G EX mi_X9_look 4 95 (some (.int r.1)) r.2 201 [(0, .ref (G.1 + l0)), (1, .int l1), (2, .int l2), (3, .int l3), (4, .int l4), (5, .int l5), (6, .int l6)] [] h) : ∀ (l0 : Nat) (l1 : Int32) (l2 : Int32) (l3 : Int32) (l4 : Int32) (l5 : Int32) (l6 : Int32) (l7 : Int32) (l8 : Int32) (h : AH) (t0 : KD l0 = 8), fX9_look_179 k63 k201 l0 l1 l2 l3 l4 l5 l6 l7 l8 h = some r → U l G EX mi_X9_look 4 95 (some (.int r.1)) r.2 179 [(0, .ref (G.1 + l0)), (1, .int l1), (2, .int l2), (3, .int l3), (4, .int l4), (5, .int l5), (6, .int l6), (7, .int l7), (8, .int l8)] [] h := by
  intro l0 l1 l2 l3 l4 l5 l6 l7 l8 h t0 hx
  unfold fX9_look_179 at hx
  refine V.iload (j := 8) dX9_look_179 rfl rfl ?_
  refine V.iload (j := 6) dX9_look_181 rfl rfl ?_
  refine V.icmp_le (tgt := 191) hx dX9_look_183 (by decide) rfl (fun hx => ?_) (fun hx => ?_)
  · refine V.iload (j := 6) dX9_look_191 rfl rfl ?_
    refine V.pick [0, 1, 2, 3, 4, 5, 7] rfl ?_
    exact vX9_look_193 hE hk63 hk201 l0 l1 l2 l3 l4 l5 l7 l6 h t0 hx
  · refine V.iload (j := 8) dX9_look_186 rfl rfl ?_
    refine V.goto (q := 193) dX9_look_188 (by decide) ?_
    refine V.pick [0, 1, 2, 3, 4, 5, 7] rfl ?_
    exact vX9_look_193 hE hk63 hk201 l0 l1 l2 l3 l4 l5 l7 l8 h t0 hx
set_option maxRecDepth 100000 in
set_option maxHeartbeats 4000000 in
theorem vX9_look_63 {l : Launch} {G : GG} {EX : State → Prop} (hE : EXB G EX) {r : Int32 × AH} {k201 : Nat → Int32 → Int32 → Int32 → Int32 → Int32 → Int32 → AH → Option (Int32 × AH)} (hk201 : ∀ (l0 : Nat) (l1 : Int32) (l2 : Int32) (l3 : Int32) (l4 : Int32) (l5 : Int32) (l6 : Int32) (h : AH) (t0 : KD l0 = 8), k201 l0 l1 l2 l3 l4 l5 l6 h = some r → U l G EX mi_X9_look 4 95 (some (.int r.1)) r.2 201 [(0, .ref (G.1 + l0)), (1, .int l1), (2, .int l2), (3, .int l3), (4, .int l4), (5, .int l5), (6, .int l6)] [] h) : ∀ (n : Nat) (l0 : Nat) (l1 : Int32) (l2 : Int32) (l3 : Int32) (l4 : Int32) (l5 : Int32) (l6 : Int32) (l7 : Int32) (h : AH) (t0 : KD l0 = 8), fX9_look_63 k201 n l0 l1 l2 l3 l4 l5 l6 l7 h = some r → U l G EX mi_X9_look 4 95 (some (.int r.1)) r.2 63 [(0, .ref (G.1 + l0)), (1, .int l1), (2, .int l2), (3, .int l3), (4, .int l4), (5, .int l5), (6, .int l6), (7, .int l7)] [] h := by
  intro n
  induction n with
  | zero =>
    intro l0 l1 l2 l3 l4 l5 l6 l7 h t0 hx
    have hx : none = some r := hx
    cases hx
  | succ n ih =>
    intro l0 l1 l2 l3 l4 l5 l6 l7 h t0 hx
    rw [fX9_look_63] at hx
    refine V.iload (j := 7) dX9_look_63 rfl rfl ?_
    refine V.bipush dX9_look_65 rfl kb_6 ?_
    refine V.icmp_ge (tgt := 201) hx dX9_look_67 (by decide) rfl (fun hx => ?_) (fun hx => ?_)
    · refine V.pick [0, 1, 2, 3, 4, 5, 6] rfl ?_
      exact hk201 l0 l1 l2 l3 l4 l5 l6 h t0 hx
    · refine V.iload (j := 6) dX9_look_70 rfl rfl ?_
      refine V.ldc dX9_look_72 rfl wq_k_X9_186 ?_
      refine V.icmp_ge (tgt := 201) hx dX9_look_74 (by decide) rfl (fun hx => ?_) (fun hx => ?_)
      · refine V.pick [0, 1, 2, 3, 4, 5, 6] rfl ?_
        exact hk201 l0 l1 l2 l3 l4 l5 l6 h t0 hx
      · refine V.iconst dX9_look_77 rfl ki_0 ?_
        refine V.istore [(8, .int (0 : Int32)), (0, .ref (G.1 + l0)), (1, .int l1), (2, .int l2), (3, .int l3), (4, .int l4), (5, .int l5), (6, .int l6), (7, .int l7)] dX9_look_78 rfl (Nat.le_of_ble_eq_true rfl) rfl ?_
        refine V.iload (j := 8) dX9_look_80 rfl rfl ?_
        refine V.iload (j := 6) dX9_look_82 rfl rfl ?_
        refine V.bipush dX9_look_84 rfl kb_100 ?_
        refine V.irem dX9_look_86 rfl (by decide) ?_
        refine V.iload (j := 6) dX9_look_87 rfl rfl ?_
        refine V.bipush dX9_look_89 rfl kb_100 ?_
        refine V.idiv dX9_look_91 rfl (by decide) ?_
        refine V.aload_n (j := 1) dX9_look_92 rfl rfl rfl ?_
        refine U.getP fl_X9_7 t0 dX9_look_93 rfl ?_
        refine V.bipush dX9_look_96 rfl kb_35 ?_
        refine V.iload_n (j := 2) dX9_look_98 rfl rfl rfl ?_
        refine V.iadd dX9_look_99 rfl ?_
        refine U.iald hx (ty_X9_0 t0) dX9_look_100 rfl (fun hx => ?_)
        obtain ⟨v6, q5, hx⟩ := ob_some hx
        refine U.callS (As := [.int l7, .int (jrem l5 (100 : Int32)), .int (l5 / (100 : Int32)), .int (hI h (PC l0 0) (ix ((35 : Int32) + l1)))]) (rest := []) (st' := [.int v6]) hE.1 (mX9_pullAs hE q5) mic_X9_pullAs rfl wq_m_X9_110 wq_t_yX9_pullAs ⟨Nat.le_of_ble_eq_true rfl, Nat.le_of_ble_eq_true rfl⟩ (Nat.le_of_ble_eq_true rfl) dX9_look_101 rfl rfl rfl ?_
        refine V.istore [(9, .int v6), (8, .int (0 : Int32)), (0, .ref (G.1 + l0)), (1, .int l1), (2, .int l2), (3, .int l3), (4, .int l4), (5, .int l5), (6, .int l6), (7, .int l7)] dX9_look_104 rfl (Nat.le_of_ble_eq_true rfl) rfl ?_
        refine V.iconst dX9_look_106 rfl ki_0 ?_
        refine V.istore [(10, .int (0 : Int32)), (9, .int v6), (8, .int (0 : Int32)), (0, .ref (G.1 + l0)), (1, .int l1), (2, .int l2), (3, .int l3), (4, .int l4), (5, .int l5), (6, .int l6), (7, .int l7)] dX9_look_107 rfl (Nat.le_of_ble_eq_true rfl) rfl ?_
        refine V.pick [3, 4, 5, 6, 7, 8, 9, 10, 2, 1, 0] rfl ?_
        refine vX9_look_109 hE (fun w15 w16 w17 w18 w19 w20 w21 w22 w23 h24 t25 hx => ?_) FU l0 l1 l2 l3 l4 l5 l6 l7 (0 : Int32) v6 (0 : Int32) h t0 hx
        · exact vX9_look_179 hE (ih) hk201 w15 w16 w17 w18 w19 w20 w21 w22 w23 h24 t25 hx
set_option maxRecDepth 100000 in
set_option maxHeartbeats 4000000 in
theorem vX9_look_229 {l : Launch} {G : GG} {EX : State → Prop} (hE : EXB G EX) {r : Int32 × AH} {k30 : Nat → Int32 → Int32 → Int32 → Int32 → Int32 → AH → Option (Int32 × AH)} (hk30 : ∀ (l0 : Nat) (l1 : Int32) (l2 : Int32) (l3 : Int32) (l4 : Int32) (l5 : Int32) (h : AH) (t0 : KD l0 = 8), k30 l0 l1 l2 l3 l4 l5 h = some r → U l G EX mi_X9_look 4 95 (some (.int r.1)) r.2 30 [(0, .ref (G.1 + l0)), (1, .int l1), (2, .int l2), (3, .int l3), (4, .int l4), (5, .int l5)] [] h) : ∀ (l0 : Nat) (l1 : Int32) (l2 : Int32) (l3 : Int32) (l5 : Int32) (s0 : Int32) (h : AH) (t0 : KD l0 = 8), fX9_look_229 k30 l0 l1 l2 l3 l5 s0 h = some r → U l G EX mi_X9_look 4 95 (some (.int r.1)) r.2 229 [(0, .ref (G.1 + l0)), (1, .int l1), (2, .int l2), (3, .int l3), (5, .int l5)] [.int s0] h := by
  intro l0 l1 l2 l3 l5 s0 h t0 hx
  unfold fX9_look_229 at hx
  refine V.istore [(4, .int s0), (0, .ref (G.1 + l0)), (1, .int l1), (2, .int l2), (3, .int l3), (5, .int l5)] dX9_look_229 rfl (Nat.le_of_ble_eq_true rfl) rfl ?_
  refine U.iinc hx (fun v36 => [(5, .int v36), (4, .int s0), (0, .ref (G.1 + l0)), (1, .int l1), (2, .int l2), (3, .int l3)]) (j := 5) rfl (by decide) (Nat.le_of_ble_eq_true rfl) (fun _ => rfl) dX9_look_231 rfl (fun v36 hx => ?_)
  refine V.goto (q := 30) dX9_look_234 (by decide) ?_
  refine V.pick [2, 3, 4, 5, 1, 0] rfl ?_
  exact hk30 l0 l1 l2 l3 s0 v36 h t0 hx
set_option maxRecDepth 100000 in
set_option maxHeartbeats 4000000 in
theorem vX9_look_214 {l : Launch} {G : GG} {EX : State → Prop} (hE : EXB G EX) {r : Int32 × AH} {k30 : Nat → Int32 → Int32 → Int32 → Int32 → Int32 → AH → Option (Int32 × AH)} (hk30 : ∀ (l0 : Nat) (l1 : Int32) (l2 : Int32) (l3 : Int32) (l4 : Int32) (l5 : Int32) (h : AH) (t0 : KD l0 = 8), k30 l0 l1 l2 l3 l4 l5 h = some r → U l G EX mi_X9_look 4 95 (some (.int r.1)) r.2 30 [(0, .ref (G.1 + l0)), (1, .int l1), (2, .int l2), (3, .int l3), (4, .int l4), (5, .int l5)] [] h) : ∀ (l0 : Nat) (l1 : Int32) (l2 : Int32) (l4 : Int32) (l5 : Int32) (l6 : Int32) (s0 : Int32) (h : AH) (t0 : KD l0 = 8), fX9_look_214 k30 l0 l1 l2 l4 l5 l6 s0 h = some r → U l G EX mi_X9_look 4 95 (some (.int r.1)) r.2 214 [(0, .ref (G.1 + l0)), (1, .int l1), (2, .int l2), (4, .int l4), (5, .int l5), (6, .int l6)] [.int s0] h := by
  intro l0 l1 l2 l4 l5 l6 s0 h t0 hx
  unfold fX9_look_214 at hx
  refine V.istore_n [(3, .int s0), (0, .ref (G.1 + l0)), (1, .int l1), (2, .int l2), (4, .int l4), (5, .int l5), (6, .int l6)] dX9_look_214 rfl rfl (Nat.le_of_ble_eq_true rfl) rfl ?_
  refine V.iload (j := 6) dX9_look_215 rfl rfl ?_
  refine V.iload (j := 4) dX9_look_217 rfl rfl ?_
  refine V.icmp_ge (tgt := 227) hx dX9_look_219 (by decide) rfl (fun hx => ?_) (fun hx => ?_)
  · refine V.iload (j := 4) dX9_look_227 rfl rfl ?_
    refine V.pick [1, 2, 3, 0, 5] rfl ?_
    exact vX9_look_229 hE hk30 l0 l1 l2 s0 l5 l4 h t0 hx
  · refine V.iload (j := 6) dX9_look_222 rfl rfl ?_
    refine V.goto (q := 229) dX9_look_224 (by decide) ?_
    refine V.pick [1, 2, 3, 0, 5] rfl ?_
    exact vX9_look_229 hE hk30 l0 l1 l2 s0 l5 l6 h t0 hx
set_option maxRecDepth 100000 in
set_option maxHeartbeats 4000000 in
theorem vX9_look_201 {l : Launch} {G : GG} {EX : State → Prop} (hE : EXB G EX) {r : Int32 × AH} {k30 : Nat → Int32 → Int32 → Int32 → Int32 → Int32 → AH → Option (Int32 × AH)} (hk30 : ∀ (l0 : Nat) (l1 : Int32) (l2 : Int32) (l3 : Int32) (l4 : Int32) (l5 : Int32) (h : AH) (t0 : KD l0 = 8), k30 l0 l1 l2 l3 l4 l5 h = some r → U l G EX mi_X9_look 4 95 (some (.int r.1)) r.2 30 [(0, .ref (G.1 + l0)), (1, .int l1), (2, .int l2), (3, .int l3), (4, .int l4), (5, .int l5)] [] h) : ∀ (l0 : Nat) (l1 : Int32) (l2 : Int32) (l3 : Int32) (l4 : Int32) (l5 : Int32) (l6 : Int32) (h : AH) (t0 : KD l0 = 8), fX9_look_201 k30 l0 l1 l2 l3 l4 l5 l6 h = some r → U l G EX mi_X9_look 4 95 (some (.int r.1)) r.2 201 [(0, .ref (G.1 + l0)), (1, .int l1), (2, .int l2), (3, .int l3), (4, .int l4), (5, .int l5), (6, .int l6)] [] h := by
  intro l0 l1 l2 l3 l4 l5 l6 h t0 hx
  unfold fX9_look_201 at hx
  refine V.iload (j := 6) dX9_look_201 rfl rfl ?_
  refine V.iload (j := 4) dX9_look_203 rfl rfl ?_
  refine V.icmp_ge (tgt := 213) hx dX9_look_205 (by decide) rfl (fun hx => ?_) (fun hx => ?_)
  · refine V.iload_n (j := 3) dX9_look_213 rfl rfl rfl ?_
    refine V.pick [0, 1, 2, 4, 5, 6] rfl ?_
    exact vX9_look_214 hE hk30 l0 l1 l2 l4 l5 l6 l3 h t0 hx
  · refine V.iload (j := 5) dX9_look_208 rfl rfl ?_
    refine V.goto (q := 214) dX9_look_210 (by decide) ?_
    refine V.pick [0, 1, 2, 4, 5, 6] rfl ?_
    exact vX9_look_214 hE hk30 l0 l1 l2 l4 l5 l6 l5 h t0 hx
set_option maxRecDepth 100000 in
set_option maxHeartbeats 4000000 in
theorem vX9_look_58 {l : Launch} {G : GG} {EX : State → Prop} (hE : EXB G EX) {r : Int32 × AH} {k30 : Nat → Int32 → Int32 → Int32 → Int32 → Int32 → AH → Option (Int32 × AH)} (hk30 : ∀ (l0 : Nat) (l1 : Int32) (l2 : Int32) (l3 : Int32) (l4 : Int32) (l5 : Int32) (h : AH) (t0 : KD l0 = 8), k30 l0 l1 l2 l3 l4 l5 h = some r → U l G EX mi_X9_look 4 95 (some (.int r.1)) r.2 30 [(0, .ref (G.1 + l0)), (1, .int l1), (2, .int l2), (3, .int l3), (4, .int l4), (5, .int l5)] [] h) : ∀ (l0 : Nat) (l1 : Int32) (l2 : Int32) (l3 : Int32) (l4 : Int32) (l5 : Int32) (s0 : Int32) (h : AH) (t0 : KD l0 = 8), fX9_look_58 k30 l0 l1 l2 l3 l4 l5 s0 h = some r → U l G EX mi_X9_look 4 95 (some (.int r.1)) r.2 58 [(0, .ref (G.1 + l0)), (1, .int l1), (2, .int l2), (3, .int l3), (4, .int l4), (5, .int l5)] [.int s0] h := by
  intro l0 l1 l2 l3 l4 l5 s0 h t0 hx
  unfold fX9_look_58 at hx
  refine V.istore [(6, .int s0), (0, .ref (G.1 + l0)), (1, .int l1), (2, .int l2), (3, .int l3), (4, .int l4), (5, .int l5)] dX9_look_58 rfl (Nat.le_of_ble_eq_true rfl) rfl ?_
  refine V.iconst dX9_look_60 rfl ki_0 ?_
  refine V.istore [(7, .int (0 : Int32)), (6, .int s0), (0, .ref (G.1 + l0)), (1, .int l1), (2, .int l2), (3, .int l3), (4, .int l4), (5, .int l5)] dX9_look_61 rfl (Nat.le_of_ble_eq_true rfl) rfl ?_
  refine V.pick [2, 3, 4, 5, 6, 7, 1, 0] rfl ?_
  refine vX9_look_63 hE (fun w27 w28 w29 w30 w31 w32 w33 h34 t35 hx => ?_) FU l0 l1 l2 l3 l4 l5 s0 (0 : Int32) h t0 hx
  · exact vX9_look_201 hE hk30 w27 w28 w29 w30 w31 w32 w33 h34 t35 hx
set_option maxRecDepth 100000 in
set_option maxHeartbeats 4000000 in
theorem vX9_look_30 {l : Launch} {G : GG} {EX : State → Prop} (hE : EXB G EX) {r : Int32 × AH} : ∀ (n : Nat) (l0 : Nat) (l1 : Int32) (l2 : Int32) (l3 : Int32) (l4 : Int32) (l5 : Int32) (h : AH) (t0 : KD l0 = 8), fX9_look_30 n l0 l1 l2 l3 l4 l5 h = some r → U l G EX mi_X9_look 4 95 (some (.int r.1)) r.2 30 [(0, .ref (G.1 + l0)), (1, .int l1), (2, .int l2), (3, .int l3), (4, .int l4), (5, .int l5)] [] h := by
  intro n
  induction n with
  | zero =>
    intro l0 l1 l2 l3 l4 l5 h t0 hx
    have hx : none = some r := hx
    cases hx
  | succ n ih =>
    intro l0 l1 l2 l3 l4 l5 h t0 hx
    rw [fX9_look_30] at hx
    refine V.iload (j := 5) dX9_look_30 rfl rfl ?_
    refine V.sipush dX9_look_32 rfl ks_1110 ?_
    refine V.icmp_ge (tgt := 237) hx dX9_look_35 (by decide) rfl (fun hx => ?_) (fun hx => ?_)
    · refine V.iload_n (j := 3) dX9_look_237 rfl rfl rfl ?_
      obtain rfl := Option.some.inj hx
      exact U.retI rfl rfl rfl rfl dX9_look_238
    · refine V.iload_n (j := 2) dX9_look_38 rfl rfl rfl ?_
      refine V.if_le (tgt := 237) hx dX9_look_39 (by decide) rfl (fun hx => ?_) (fun hx => ?_)
      · refine V.iload_n (j := 3) dX9_look_237 rfl rfl rfl ?_
        obtain rfl := Option.some.inj hx
        exact U.retI rfl rfl rfl rfl dX9_look_238
      · refine V.iload (j := 5) dX9_look_42 rfl rfl ?_
        refine V.bipush dX9_look_44 rfl kb_100 ?_
        refine V.irem dX9_look_46 rfl (by decide) ?_
        refine V.bipush dX9_look_47 rfl kb_10 ?_
        refine V.icmp_ge (tgt := 56) hx dX9_look_49 (by decide) rfl (fun hx => ?_) (fun hx => ?_)
        · refine V.ldc dX9_look_56 rfl wq_k_X9_186 ?_
          exact vX9_look_58 hE (ih) l0 l1 l2 l3 l4 l5 (1000000 : Int32) h t0 hx
        · refine V.iconst dX9_look_52 rfl ki_0 ?_
          refine V.goto (q := 58) dX9_look_53 (by decide) ?_
          exact vX9_look_58 hE (ih) l0 l1 l2 l3 l4 l5 (0 : Int32) h t0 hx
set_option maxRecDepth 100000 in
set_option maxHeartbeats 4000000 in
theorem mX9_look {l : Launch} {G : GG} {EX : State → Prop} (hE : EXB G EX) {th : Nat} {a1 : Int32} {h : AH} (t0 : KD th = 8) {r : Int32 × AH} (hx : fX9_look th a1 h = some r) : MetU l G EX mi_X9_look 4 95 [.ref (G.1 + th), .int a1] h (some (.int r.1)) r.2 := by
  refine MetU.of mic_X9_look.1 (Nat.le_of_ble_eq_true rfl) ?_
  refine show U l G EX mi_X9_look 4 95 (some (.int r.1)) r.2 0 [(0, .ref (G.1 + th)), (1, .int a1)] [] h from ?_
  unfold fX9_look at hx
  refine V.aload_n (j := 0) dX9_look_0 rfl rfl rfl ?_
  refine V.iload_n (j := 1) dX9_look_1 rfl rfl rfl ?_
  obtain ⟨v2, q1, hx⟩ := ob_some hx
  refine U.callV (As := [.int a1]) (rest := []) (st' := [.int v2]) hE.1 (mX9_isShow hE t0 q1) mic_X9_isShow rfl t0 (by decide) rfl rfl wq_m_X9_153 wq_i_yX9_isShow wq_s_yX9_isShow ⟨Nat.le_of_ble_eq_true rfl, Nat.le_of_ble_eq_true rfl⟩ (Nat.le_of_ble_eq_true rfl) dX9_look_2 rfl rfl rfl ?_
  refine V.if_ne (tgt := 15) hx dX9_look_5 (by decide) rfl (fun hx => ?_) (fun hx => ?_)
  · refine V.aload_n (j := 0) dX9_look_15 rfl rfl rfl ?_
    refine V.iload_n (j := 1) dX9_look_16 rfl rfl rfl ?_
    obtain ⟨v4, q3, hx⟩ := ob_some hx
    refine U.callV (As := [.int a1]) (rest := []) (st' := [.int v4]) hE.1 (mX9_kindsOf hE t0 q3) mic_X9_kindsOf rfl t0 (by decide) rfl rfl wq_m_X9_201 wq_i_yX9_kindsOf wq_s_yX9_kindsOf ⟨Nat.le_of_ble_eq_true rfl, Nat.le_of_ble_eq_true rfl⟩ (Nat.le_of_ble_eq_true rfl) dX9_look_17 rfl rfl rfl ?_
    refine V.istore_n [(2, .int v4), (0, .ref (G.1 + th)), (1, .int a1)] dX9_look_20 rfl rfl (Nat.le_of_ble_eq_true rfl) rfl ?_
    refine V.iconst dX9_look_21 rfl ki_m1 ?_
    refine V.istore_n [(3, .int (-1 : Int32)), (2, .int v4), (0, .ref (G.1 + th)), (1, .int a1)] dX9_look_22 rfl rfl (Nat.le_of_ble_eq_true rfl) rfl ?_
    refine V.ldc dX9_look_23 rfl wq_k_X9_186 ?_
    refine V.istore [(4, .int (1000000 : Int32)), (3, .int (-1 : Int32)), (2, .int v4), (0, .ref (G.1 + th)), (1, .int a1)] dX9_look_25 rfl (Nat.le_of_ble_eq_true rfl) rfl ?_
    refine V.iconst dX9_look_27 rfl ki_0 ?_
    refine V.istore [(5, .int (0 : Int32)), (4, .int (1000000 : Int32)), (3, .int (-1 : Int32)), (2, .int v4), (0, .ref (G.1 + th)), (1, .int a1)] dX9_look_28 rfl (Nat.le_of_ble_eq_true rfl) rfl ?_
    refine V.pick [4, 5, 3, 2, 1, 0] rfl ?_
    exact vX9_look_30 hE FU th a1 v4 (-1 : Int32) (1000000 : Int32) (0 : Int32) h t0 hx
  · refine V.aload_n (j := 0) dX9_look_8 rfl rfl rfl ?_
    refine V.bipush dX9_look_9 rfl kb_m2 ?_
    obtain ⟨v39, h38, q37, hx⟩ := ob2_some hx
    refine U.callV (As := [.int (-2 : Int32)]) (rest := []) (st' := [.int v39]) hE.1 (mX9_bad hE t0 q37) mic_X9_bad rfl t0 (by decide) rfl rfl wq_m_X9_78 wq_i_yX9_bad wq_s_yX9_bad ⟨Nat.le_of_ble_eq_true rfl, Nat.le_of_ble_eq_true rfl⟩ (Nat.le_of_ble_eq_true rfl) dX9_look_11 rfl rfl rfl ?_
    obtain rfl := Option.some.inj hx
    exact U.retI rfl rfl rfl rfl dX9_look_14
set_option maxRecDepth 100000 in
set_option maxHeartbeats 4000000 in
theorem vX9_kindsOfWatcher_100 {l : Launch} {G : GG} {EX : State → Prop} (hE : EXB G EX) {h : AH} {r : Int32} {k16 : Nat → Int32 → Int32 → Int32 → Int32 → Int32 → Option (Int32)} {k108 : Nat → Int32 → Int32 → Int32 → Int32 → Option (Int32)} (hk16 : ∀ (l0 : Nat) (l1 : Int32) (l2 : Int32) (l3 : Int32) (l4 : Int32) (l5 : Int32) (t0 : KD l0 = 8), k16 l0 l1 l2 l3 l4 l5 = some r → U l G EX mi_X9_kindsOfWatcher 2 44 (some (.int r)) h 16 [(0, .ref (G.1 + l0)), (1, .int l1), (2, .int l2), (3, .int l3), (4, .int l4), (5, .int l5)] [] h) (hk108 : ∀ (l0 : Nat) (l1 : Int32) (l2 : Int32) (l3 : Int32) (l4 : Int32) (t0 : KD l0 = 8), k108 l0 l1 l2 l3 l4 = some r → U l G EX mi_X9_kindsOfWatcher 2 44 (some (.int r)) h 108 [(0, .ref (G.1 + l0)), (1, .int l1), (2, .int l2), (3, .int l3), (4, .int l4)] [] h) : ∀ (l0 : Nat) (l1 : Int32) (l2 : Int32) (l3 : Int32) (l5 : Int32) (s0 : Int32) (t0 : KD l0 = 8), fX9_kindsOfWatcher_100 h k16 k108 l0 l1 l2 l3 l5 s0 = some r → U l G EX mi_X9_kindsOfWatcher 2 44 (some (.int r)) h 100 [(0, .ref (G.1 + l0)), (1, .int l1), (2, .int l2), (3, .int l3), (5, .int l5)] [.int s0] h := by
  intro l0 l1 l2 l3 l5 s0 t0 hx
  unfold fX9_kindsOfWatcher_100 at hx
  refine V.istore [(4, .int s0), (0, .ref (G.1 + l0)), (1, .int l1), (2, .int l2), (3, .int l3), (5, .int l5)] dX9_kindsOfWatcher_100 rfl (Nat.le_of_ble_eq_true rfl) rfl ?_
  refine U.iinc hx (fun v2 => [(5, .int v2), (4, .int s0), (0, .ref (G.1 + l0)), (1, .int l1), (2, .int l2), (3, .int l3)]) (j := 5) rfl (by decide) (Nat.le_of_ble_eq_true rfl) (fun _ => rfl) dX9_kindsOfWatcher_102 rfl (fun v2 hx => ?_)
  refine V.goto (q := 16) dX9_kindsOfWatcher_105 (by decide) ?_
  refine V.pick [2, 3, 4, 5, 1, 0] rfl ?_
  exact hk16 l0 l1 l2 l3 s0 v2 t0 hx
set_option maxRecDepth 100000 in
set_option maxHeartbeats 4000000 in
theorem vX9_kindsOfWatcher_99 {l : Launch} {G : GG} {EX : State → Prop} (hE : EXB G EX) {h : AH} {r : Int32} {k16 : Nat → Int32 → Int32 → Int32 → Int32 → Int32 → Option (Int32)} {k108 : Nat → Int32 → Int32 → Int32 → Int32 → Option (Int32)} (hk16 : ∀ (l0 : Nat) (l1 : Int32) (l2 : Int32) (l3 : Int32) (l4 : Int32) (l5 : Int32) (t0 : KD l0 = 8), k16 l0 l1 l2 l3 l4 l5 = some r → U l G EX mi_X9_kindsOfWatcher 2 44 (some (.int r)) h 16 [(0, .ref (G.1 + l0)), (1, .int l1), (2, .int l2), (3, .int l3), (4, .int l4), (5, .int l5)] [] h) (hk108 : ∀ (l0 : Nat) (l1 : Int32) (l2 : Int32) (l3 : Int32) (l4 : Int32) (t0 : KD l0 = 8), k108 l0 l1 l2 l3 l4 = some r → U l G EX mi_X9_kindsOfWatcher 2 44 (some (.int r)) h 108 [(0, .ref (G.1 + l0)), (1, .int l1), (2, .int l2), (3, .int l3), (4, .int l4)] [] h) : ∀ (l0 : Nat) (l1 : Int32) (l2 : Int32) (l3 : Int32) (l5 : Int32) (t0 : KD l0 = 8), fX9_kindsOfWatcher_99 h k16 k108 l0 l1 l2 l3 l5 = some r → U l G EX mi_X9_kindsOfWatcher 2 44 (some (.int r)) h 99 [(0, .ref (G.1 + l0)), (1, .int l1), (2, .int l2), (3, .int l3), (5, .int l5)] [] h := by
  intro l0 l1 l2 l3 l5 t0 hx
  unfold fX9_kindsOfWatcher_99 at hx
  refine V.iconst dX9_kindsOfWatcher_99 rfl ki_0 ?_
  exact vX9_kindsOfWatcher_100 hE hk16 hk108 l0 l1 l2 l3 l5 (0 : Int32) t0 hx
set_option maxRecDepth 100000 in
set_option maxHeartbeats 4000000 in
theorem vX9_kindsOfWatcher_95 {l : Launch} {G : GG} {EX : State → Prop} (hE : EXB G EX) {h : AH} {r : Int32} {k16 : Nat → Int32 → Int32 → Int32 → Int32 → Int32 → Option (Int32)} {k108 : Nat → Int32 → Int32 → Int32 → Int32 → Option (Int32)} (hk16 : ∀ (l0 : Nat) (l1 : Int32) (l2 : Int32) (l3 : Int32) (l4 : Int32) (l5 : Int32) (t0 : KD l0 = 8), k16 l0 l1 l2 l3 l4 l5 = some r → U l G EX mi_X9_kindsOfWatcher 2 44 (some (.int r)) h 16 [(0, .ref (G.1 + l0)), (1, .int l1), (2, .int l2), (3, .int l3), (4, .int l4), (5, .int l5)] [] h) (hk108 : ∀ (l0 : Nat) (l1 : Int32) (l2 : Int32) (l3 : Int32) (l4 : Int32) (t0 : KD l0 = 8), k108 l0 l1 l2 l3 l4 = some r → U l G EX mi_X9_kindsOfWatcher 2 44 (some (.int r)) h 108 [(0, .ref (G.1 + l0)), (1, .int l1), (2, .int l2), (3, .int l3), (4, .int l4)] [] h) : ∀ (l0 : Nat) (l1 : Int32) (l2 : Int32) (l3 : Int32) (l5 : Int32) (t0 : KD l0 = 8), fX9_kindsOfWatcher_95 h k16 k108 l0 l1 l2 l3 l5 = some r → U l G EX mi_X9_kindsOfWatcher 2 44 (some (.int r)) h 95 [(0, .ref (G.1 + l0)), (1, .int l1), (2, .int l2), (3, .int l3), (5, .int l5)] [] h := by
  intro l0 l1 l2 l3 l5 t0 hx
  unfold fX9_kindsOfWatcher_95 at hx
  refine V.iconst dX9_kindsOfWatcher_95 rfl ki_1 ?_
  refine V.goto (q := 100) dX9_kindsOfWatcher_96 (by decide) ?_
  exact vX9_kindsOfWatcher_100 hE hk16 hk108 l0 l1 l2 l3 l5 (1 : Int32) t0 hx
set_option maxRecDepth 100000 in
set_option maxHeartbeats 4000000 in
theorem vX9_kindsOfWatcher_92 {l : Launch} {G : GG} {EX : State → Prop} (hE : EXB G EX) {h : AH} {r : Int32} {k16 : Nat → Int32 → Int32 → Int32 → Int32 → Int32 → Option (Int32)} {k108 : Nat → Int32 → Int32 → Int32 → Int32 → Option (Int32)} (hk16 : ∀ (l0 : Nat) (l1 : Int32) (l2 : Int32) (l3 : Int32) (l4 : Int32) (l5 : Int32) (t0 : KD l0 = 8), k16 l0 l1 l2 l3 l4 l5 = some r → U l G EX mi_X9_kindsOfWatcher 2 44 (some (.int r)) h 16 [(0, .ref (G.1 + l0)), (1, .int l1), (2, .int l2), (3, .int l3), (4, .int l4), (5, .int l5)] [] h) (hk108 : ∀ (l0 : Nat) (l1 : Int32) (l2 : Int32) (l3 : Int32) (l4 : Int32) (t0 : KD l0 = 8), k108 l0 l1 l2 l3 l4 = some r → U l G EX mi_X9_kindsOfWatcher 2 44 (some (.int r)) h 108 [(0, .ref (G.1 + l0)), (1, .int l1), (2, .int l2), (3, .int l3), (4, .int l4)] [] h) : ∀ (l0 : Nat) (l1 : Int32) (l2 : Int32) (l3 : Int32) (l5 : Int32) (s0 : Int32) (s1 : Int32) (t0 : KD l0 = 8), fX9_kindsOfWatcher_92 h k16 k108 l0 l1 l2 l3 l5 s0 s1 = some r → U l G EX mi_X9_kindsOfWatcher 2 44 (some (.int r)) h 92 [(0, .ref (G.1 + l0)), (1, .int l1), (2, .int l2), (3, .int l3), (5, .int l5)] [.int s1, .int s0] h := by
  intro l0 l1 l2 l3 l5 s0 s1 t0 hx
  unfold fX9_kindsOfWatcher_92 at hx
  refine V.icmp_ne (tgt := 99) hx dX9_kindsOfWatcher_92 (by decide) rfl (fun hx => ?_) (fun hx => ?_)
  · exact vX9_kindsOfWatcher_99 hE hk16 hk108 l0 l1 l2 l3 l5 t0 hx
  · exact vX9_kindsOfWatcher_95 hE hk16 hk108 l0 l1 l2 l3 l5 t0 hx
set_option maxRecDepth 100000 in
set_option maxHeartbeats 4000000 in
theorem vX9_kindsOfWatcher_16 {l : Launch} {G : GG} {EX : State → Prop} (hE : EXB G EX) {h : AH} {r : Int32} {k108 : Nat → Int32 → Int32 → Int32 → Int32 → Option (Int32)} (hk108 : ∀ (l0 : Nat) (l1 : Int32) (l2 : Int32) (l3 : Int32) (l4 : Int32) (t0 : KD l0 = 8), k108 l0 l1 l2 l3 l4 = some r → U l G EX mi_X9_kindsOfWatcher 2 44 (some (.int r)) h 108 [(0, .ref (G.1 + l0)), (1, .int l1), (2, .int l2), (3, .int l3), (4, .int l4)] [] h) : ∀ (n : Nat) (l0 : Nat) (l1 : Int32) (l2 : Int32) (l3 : Int32) (l4 : Int32) (l5 : Int32) (t0 : KD l0 = 8), fX9_kindsOfWatcher_16 h k108 n l0 l1 l2 l3 l4 l5 = some r → U l G EX mi_X9_kindsOfWatcher 2 44 (some (.int r)) h 16 [(0, .ref (G.1 + l0)), (1, .int l1), (2, .int l2), (3, .int l3), (4, .int l4), (5, .int l5)] [] h := by
  intro n
  induction n with
  | zero =>
    intro l0 l1 l2 l3 l4 l5 t0 hx
    have hx : none = some r := hx
    cases hx
  | succ n ih =>
    intro l0 l1 l2 l3 l4 l5 t0 hx
    rw [fX9_kindsOfWatcher_16] at hx
    refine V.iload (j := 5) dX9_kindsOfWatcher_16 rfl rfl ?_
    refine V.aload_n (j := 0) dX9_kindsOfWatcher_18 rfl rfl rfl ?_
    refine U.getP fl_X9_7 t0 dX9_kindsOfWatcher_19 rfl ?_
    refine V.iconst dX9_kindsOfWatcher_22 rfl ki_4 ?_
    refine U.iald hx (ty_X9_0 t0) dX9_kindsOfWatcher_23 rfl (fun hx => ?_)
    refine V.icmp_ge (tgt := 108) hx dX9_kindsOfWatcher_24 (by decide) rfl (fun hx => ?_) (fun hx => ?_)
    · refine V.pick [0, 1, 2, 3, 4] rfl ?_
      exact hk108 l0 l1 l2 l3 l4 t0 hx
    · refine V.bipush dX9_kindsOfWatcher_27 rfl kb_88 ?_
      refine V.iconst dX9_kindsOfWatcher_29 rfl ki_4 ?_
      refine V.iload (j := 5) dX9_kindsOfWatcher_30 rfl rfl ?_
      refine V.imul dX9_kindsOfWatcher_32 rfl ?_
      refine V.iadd dX9_kindsOfWatcher_33 rfl ?_
      refine U.letI hx (fun v1 hx => ?_)
      refine V.istore [(6, .int v1), (0, .ref (G.1 + l0)), (1, .int l1), (2, .int l2), (3, .int l3), (4, .int l4), (5, .int l5)] dX9_kindsOfWatcher_34 rfl (Nat.le_of_ble_eq_true rfl) rfl ?_
      refine V.iload (j := 5) dX9_kindsOfWatcher_36 rfl rfl ?_
      refine V.if_eq (tgt := 99) hx dX9_kindsOfWatcher_38 (by decide) rfl (fun hx => ?_) (fun hx => ?_)
      · refine V.pick [1, 2, 3, 4, 6] rfl ?_
        exact vX9_kindsOfWatcher_99 hE (ih) hk108 l0 l1 l2 l3 l5 t0 hx
      · refine V.aload_n (j := 1) dX9_kindsOfWatcher_41 rfl rfl rfl ?_
        refine U.getP fl_X9_7 t0 dX9_kindsOfWatcher_42 rfl ?_
        refine V.iload (j := 0) dX9_kindsOfWatcher_45 rfl rfl ?_
        refine U.iald hx (ty_X9_0 t0) dX9_kindsOfWatcher_47 rfl (fun hx => ?_)
        refine V.iload_n (j := 2) dX9_kindsOfWatcher_48 rfl rfl rfl ?_
        refine V.icmp_ne (tgt := 95) hx dX9_kindsOfWatcher_49 (by decide) rfl (fun hx => ?_) (fun hx => ?_)
        · refine V.pick [1, 2, 3, 4, 6] rfl ?_
          exact vX9_kindsOfWatcher_95 hE (ih) hk108 l0 l1 l2 l3 l5 t0 hx
        · refine V.iload_n (j := 4) dX9_kindsOfWatcher_52 rfl rfl rfl ?_
          refine V.aload_n (j := 1) dX9_kindsOfWatcher_53 rfl rfl rfl ?_
          refine U.getP fl_X9_7 t0 dX9_kindsOfWatcher_54 rfl ?_
          refine V.iload (j := 0) dX9_kindsOfWatcher_57 rfl rfl ?_
          refine V.iconst dX9_kindsOfWatcher_59 rfl ki_1 ?_
          refine V.iadd dX9_kindsOfWatcher_60 rfl ?_
          refine U.iald hx (ty_X9_0 t0) dX9_kindsOfWatcher_61 rfl (fun hx => ?_)
          refine V.aload_n (j := 1) dX9_kindsOfWatcher_62 rfl rfl rfl ?_
          refine U.getP fl_X9_7 t0 dX9_kindsOfWatcher_63 rfl ?_
          refine V.iload (j := 0) dX9_kindsOfWatcher_66 rfl rfl ?_
          refine V.iconst dX9_kindsOfWatcher_68 rfl ki_2 ?_
          refine V.iadd dX9_kindsOfWatcher_69 rfl ?_
          refine U.iald hx (ty_X9_0 t0) dX9_kindsOfWatcher_70 rfl (fun hx => ?_)
          obtain ⟨v4, q3, hx⟩ := ob_some hx
          refine U.callS (As := [.int l3, .int (hI h (PC l0 0) (ix (v1 + (1 : Int32)))), .int (hI h (PC l0 0) (ix (v1 + (2 : Int32))))]) (rest := []) (st' := [.int v4]) hE.1 (mX9_seesAs hE q3) mic_X9_seesAs rfl wq_m_X9_125 wq_t_yX9_seesAs ⟨Nat.le_of_ble_eq_true rfl, Nat.le_of_ble_eq_true rfl⟩ (Nat.le_of_ble_eq_true rfl) dX9_kindsOfWatcher_71 rfl rfl rfl ?_
          refine V.aload_n (j := 1) dX9_kindsOfWatcher_74 rfl rfl rfl ?_
          refine U.getP fl_X9_7 t0 dX9_kindsOfWatcher_75 rfl ?_
          refine V.iload (j := 0) dX9_kindsOfWatcher_78 rfl rfl ?_
          refine V.iconst dX9_kindsOfWatcher_80 rfl ki_3 ?_
          refine V.iadd dX9_kindsOfWatcher_81 rfl ?_
          refine U.iald hx (ty_X9_0 t0) dX9_kindsOfWatcher_82 rfl (fun hx => ?_)
          refine V.iconst dX9_kindsOfWatcher_83 rfl ki_1 ?_
          refine V.icmp_ne (tgt := 91) hx dX9_kindsOfWatcher_84 (by decide) rfl (fun hx => ?_) (fun hx => ?_)
          · refine V.iconst dX9_kindsOfWatcher_91 rfl ki_0 ?_
            refine V.pick [1, 2, 3, 4, 6] rfl ?_
            exact vX9_kindsOfWatcher_92 hE (ih) hk108 l0 l1 l2 l3 l5 v4 (0 : Int32) t0 hx
          · refine V.iconst dX9_kindsOfWatcher_87 rfl ki_1 ?_
            refine V.goto (q := 92) dX9_kindsOfWatcher_88 (by decide) ?_
            refine V.pick [1, 2, 3, 4, 6] rfl ?_
            exact vX9_kindsOfWatcher_92 hE (ih) hk108 l0 l1 l2 l3 l5 v4 (1 : Int32) t0 hx
set_option maxRecDepth 100000 in
set_option maxHeartbeats 4000000 in
theorem vX9_kindsOfWatcher_121 {l : Launch} {G : GG} {EX : State → Prop} (hE : EXB G EX) {h : AH} {r : Int32} {k4 : Nat → Int32 → Int32 → Int32 → Option (Int32)} (hk4 : ∀ (l0 : Nat) (l1 : Int32) (l2 : Int32) (l3 : Int32) (t0 : KD l0 = 8), k4 l0 l1 l2 l3 = some r → U l G EX mi_X9_kindsOfWatcher 2 44 (some (.int r)) h 4 [(0, .ref (G.1 + l0)), (1, .int l1), (2, .int l2), (3, .int l3)] [] h) : ∀ (l0 : Nat) (l1 : Int32) (l3 : Int32) (s0 : Int32) (s1 : Int32) (t0 : KD l0 = 8), fX9_kindsOfWatcher_121 h k4 l0 l1 l3 s0 s1 = some r → U l G EX mi_X9_kindsOfWatcher 2 44 (some (.int r)) h 121 [(0, .ref (G.1 + l0)), (1, .int l1), (3, .int l3)] [.int s1, .int s0] h := by
  intro l0 l1 l3 s0 s1 t0 hx
  unfold fX9_kindsOfWatcher_121 at hx
  refine V.ior dX9_kindsOfWatcher_121 rfl ?_
  refine U.letI hx (fun v11 hx => ?_)
  refine V.istore_n [(2, .int v11), (0, .ref (G.1 + l0)), (1, .int l1), (3, .int l3)] dX9_kindsOfWatcher_122 rfl rfl (Nat.le_of_ble_eq_true rfl) rfl ?_
  refine U.iinc hx (fun v12 => [(3, .int v12), (2, .int v11), (0, .ref (G.1 + l0)), (1, .int l1)]) (j := 3) rfl (by decide) (Nat.le_of_ble_eq_true rfl) (fun _ => rfl) dX9_kindsOfWatcher_123 rfl (fun v12 hx => ?_)
  refine V.goto (q := 4) dX9_kindsOfWatcher_126 (by decide) ?_
  refine V.pick [2, 3, 1, 0] rfl ?_
  exact hk4 l0 l1 v11 v12 t0 hx
set_option maxRecDepth 100000 in
set_option maxHeartbeats 4000000 in
theorem vX9_kindsOfWatcher_4 {l : Launch} {G : GG} {EX : State → Prop} (hE : EXB G EX) {h : AH} {r : Int32} : ∀ (n : Nat) (l0 : Nat) (l1 : Int32) (l2 : Int32) (l3 : Int32) (t0 : KD l0 = 8), fX9_kindsOfWatcher_4 h n l0 l1 l2 l3 = some r → U l G EX mi_X9_kindsOfWatcher 2 44 (some (.int r)) h 4 [(0, .ref (G.1 + l0)), (1, .int l1), (2, .int l2), (3, .int l3)] [] h := by
  intro n
  induction n with
  | zero =>
    intro l0 l1 l2 l3 t0 hx
    have hx : none = some r := hx
    cases hx
  | succ n ih =>
    intro l0 l1 l2 l3 t0 hx
    rw [fX9_kindsOfWatcher_4] at hx
    refine V.iload_n (j := 3) dX9_kindsOfWatcher_4 rfl rfl rfl ?_
    refine V.bipush dX9_kindsOfWatcher_5 rfl kb_6 ?_
    refine V.icmp_ge (tgt := 129) hx dX9_kindsOfWatcher_7 (by decide) rfl (fun hx => ?_) (fun hx => ?_)
    · refine V.iload_n (j := 2) dX9_kindsOfWatcher_129 rfl rfl rfl ?_
      obtain rfl := Option.some.inj hx
      exact U.retI rfl rfl rfl rfl dX9_kindsOfWatcher_130
    · refine V.iconst dX9_kindsOfWatcher_10 rfl ki_1 ?_
      refine V.istore [(4, .int (1 : Int32)), (0, .ref (G.1 + l0)), (1, .int l1), (2, .int l2), (3, .int l3)] dX9_kindsOfWatcher_11 rfl (Nat.le_of_ble_eq_true rfl) rfl ?_
      refine V.iconst dX9_kindsOfWatcher_13 rfl ki_0 ?_
      refine V.istore [(5, .int (0 : Int32)), (4, .int (1 : Int32)), (0, .ref (G.1 + l0)), (1, .int l1), (2, .int l2), (3, .int l3)] dX9_kindsOfWatcher_14 rfl (Nat.le_of_ble_eq_true rfl) rfl ?_
      refine V.pick [2, 3, 4, 5, 1, 0] rfl ?_
      refine vX9_kindsOfWatcher_16 hE (fun w5 w6 w7 w8 w9 t10 hx => ?_) FU l0 l1 l2 l3 (1 : Int32) (0 : Int32) t0 hx
      · refine V.iload_n (j := 2) dX9_kindsOfWatcher_108 rfl rfl rfl ?_
        refine V.iload (j := 4) dX9_kindsOfWatcher_109 rfl rfl ?_
        refine V.if_eq (tgt := 120) hx dX9_kindsOfWatcher_111 (by decide) rfl (fun hx => ?_) (fun hx => ?_)
        · refine V.iconst dX9_kindsOfWatcher_120 rfl ki_0 ?_
          refine V.pick [0, 1, 3] rfl ?_
          exact vX9_kindsOfWatcher_121 hE (ih) w5 w6 w8 w7 (0 : Int32) t10 hx
        · refine V.iconst dX9_kindsOfWatcher_114 rfl ki_1 ?_
          refine V.iload_n (j := 3) dX9_kindsOfWatcher_115 rfl rfl rfl ?_
          refine V.ishl dX9_kindsOfWatcher_116 rfl ?_
          refine V.goto (q := 121) dX9_kindsOfWatcher_117 (by decide) ?_
          refine V.pick [0, 1, 3] rfl ?_
          exact vX9_kindsOfWatcher_121 hE (ih) w5 w6 w8 w7 (jshl (1 : Int32) w8) t10 hx
set_option maxRecDepth 100000 in
set_option maxHeartbeats 4000000 in
theorem mX9_kindsOfWatcher {l : Launch} {G : GG} {EX : State → Prop} (hE : EXB G EX) {th : Nat} {a1 : Int32} {h : AH} (t0 : KD th = 8) {r : Int32} (hx : fX9_kindsOfWatcher th a1 h = some r) : MetU l G EX mi_X9_kindsOfWatcher 2 44 [.ref (G.1 + th), .int a1] h (some (.int r)) h := by
  refine MetU.of mic_X9_kindsOfWatcher.1 (Nat.le_of_ble_eq_true rfl) ?_
  refine show U l G EX mi_X9_kindsOfWatcher 2 44 (some (.int r)) h 0 [(0, .ref (G.1 + th)), (1, .int a1)] [] h from ?_
  unfold fX9_kindsOfWatcher at hx
  refine V.iconst dX9_kindsOfWatcher_0 rfl ki_0 ?_
  refine V.istore_n [(2, .int (0 : Int32)), (0, .ref (G.1 + th)), (1, .int a1)] dX9_kindsOfWatcher_1 rfl rfl (Nat.le_of_ble_eq_true rfl) rfl ?_
  refine V.iconst dX9_kindsOfWatcher_2 rfl ki_0 ?_
  refine V.istore_n [(3, .int (0 : Int32)), (2, .int (0 : Int32)), (0, .ref (G.1 + th)), (1, .int a1)] dX9_kindsOfWatcher_3 rfl rfl (Nat.le_of_ble_eq_true rfl) rfl ?_
  refine V.pick [2, 3, 1, 0] rfl ?_
  exact vX9_kindsOfWatcher_4 hE FU th a1 (0 : Int32) (0 : Int32) t0 hx
set_option maxRecDepth 100000 in
set_option maxHeartbeats 4000000 in
theorem mX9_what {l : Launch} {G : GG} {EX : State → Prop} (hE : EXB G EX) {th : Nat} {a1 : Int32} {h : AH} (t0 : KD th = 8) {r : Int32 × AH} (hx : fX9_what th a1 h = some r) : MetU l G EX mi_X9_what 3 70 [.ref (G.1 + th), .int a1] h (some (.int r.1)) r.2 := by
  refine MetU.of mic_X9_what.1 (Nat.le_of_ble_eq_true rfl) ?_
  refine show U l G EX mi_X9_what 3 70 (some (.int r.1)) r.2 0 [(0, .ref (G.1 + th)), (1, .int a1)] [] h from ?_
  unfold fX9_what at hx
  refine V.aload_n (j := 0) dX9_what_0 rfl rfl rfl ?_
  refine V.iload_n (j := 1) dX9_what_1 rfl rfl rfl ?_
  obtain ⟨v2, q1, hx⟩ := ob_some hx
  refine U.callV (As := [.int a1]) (rest := []) (st' := [.int v2]) hE.1 (mX9_isWatcher hE t0 q1) mic_X9_isWatcher rfl t0 (by decide) rfl rfl wq_m_X9_159 wq_i_yX9_isWatcher wq_s_yX9_isWatcher ⟨Nat.le_of_ble_eq_true rfl, Nat.le_of_ble_eq_true rfl⟩ (Nat.le_of_ble_eq_true rfl) dX9_what_2 rfl rfl rfl ?_
  refine V.if_eq (tgt := 16) hx dX9_what_5 (by decide) rfl (fun hx => ?_) (fun hx => ?_)
  · refine V.aload_n (j := 0) dX9_what_16 rfl rfl rfl ?_
    refine V.bipush dX9_what_17 rfl kb_m2 ?_
    obtain ⟨v5, h4, q3, hx⟩ := ob2_some hx
    refine U.callV (As := [.int (-2 : Int32)]) (rest := []) (st' := [.int v5]) hE.1 (mX9_bad hE t0 q3) mic_X9_bad rfl t0 (by decide) rfl rfl wq_m_X9_78 wq_i_yX9_bad wq_s_yX9_bad ⟨Nat.le_of_ble_eq_true rfl, Nat.le_of_ble_eq_true rfl⟩ (Nat.le_of_ble_eq_true rfl) dX9_what_19 rfl rfl rfl ?_
    obtain rfl := Option.some.inj hx
    exact U.retI rfl rfl rfl rfl dX9_what_22
  · refine V.aload_n (j := 0) dX9_what_8 rfl rfl rfl ?_
    refine V.iload_n (j := 1) dX9_what_9 rfl rfl rfl ?_
    obtain ⟨v7, q6, hx⟩ := ob_some hx
    refine U.callV (As := [.int a1]) (rest := []) (st' := [.int v7]) hE.1 (mX9_kindsOfWatcher hE t0 q6) mic_X9_kindsOfWatcher rfl t0 (by decide) rfl rfl wq_m_X9_204 wq_i_yX9_kindsOfWatcher wq_s_yX9_kindsOfWatcher ⟨Nat.le_of_ble_eq_true rfl, Nat.le_of_ble_eq_true rfl⟩ (Nat.le_of_ble_eq_true rfl) dX9_what_10 rfl rfl rfl ?_
    refine V.goto (q := 22) dX9_what_13 (by decide) ?_
    obtain rfl := Option.some.inj hx
    exact U.retI rfl rfl rfl rfl dX9_what_22
set_option maxRecDepth 100000 in
set_option maxHeartbeats 4000000 in
theorem vX9_tries_89 {l : Launch} {G : GG} {EX : State → Prop} (hE : EXB G EX) {r : Int32 × AH} {k48 : Int32 → Int32 → Int32 → Int32 → Int32 → Int32 → AH → Option (Int32 × AH)} {k98 : Int32 → Int32 → Int32 → Int32 → Int32 → AH → Option (Int32 × AH)} (hk48 : ∀ (l2 : Int32) (l3 : Int32) (l4 : Int32) (l5 : Int32) (l6 : Int32) (l7 : Int32) (h : AH), k48 l2 l3 l4 l5 l6 l7 h = some r → U l G EX mi_X9_tries 3 70 (some (.int r.1)) r.2 48 [(2, .int l2), (3, .int l3), (4, .int l4), (5, .int l5), (6, .int l6), (7, .int l7)] [] h) (hk98 : ∀ (l2 : Int32) (l3 : Int32) (l4 : Int32) (l5 : Int32) (l6 : Int32) (h : AH), k98 l2 l3 l4 l5 l6 h = some r → U l G EX mi_X9_tries 3 70 (some (.int r.1)) r.2 98 [(2, .int l2), (3, .int l3), (4, .int l4), (5, .int l5), (6, .int l6)] [] h) : ∀ (l2 : Int32) (l3 : Int32) (l4 : Int32) (l5 : Int32) (l7 : Int32) (s0 : Int32) (s1 : Int32) (h : AH), fX9_tries_89 k48 k98 l2 l3 l4 l5 l7 s0 s1 h = some r → U l G EX mi_X9_tries 3 70 (some (.int r.1)) r.2 89 [(2, .int l2), (3, .int l3), (4, .int l4), (5, .int l5), (7, .int l7)] [.int s1, .int s0] h := by
  intro l2 l3 l4 l5 l7 s0 s1 h hx
  unfold fX9_tries_89 at hx
  refine V.iadd dX9_tries_89 rfl ?_
  refine U.letI hx (fun v7 hx => ?_)
  refine V.istore [(6, .int v7), (2, .int l2), (3, .int l3), (4, .int l4), (5, .int l5), (7, .int l7)] dX9_tries_90 rfl (Nat.le_of_ble_eq_true rfl) rfl ?_
  refine U.iinc hx (fun v8 => [(7, .int v8), (6, .int v7), (2, .int l2), (3, .int l3), (4, .int l4), (5, .int l5)]) (j := 5) rfl (by decide) (Nat.le_of_ble_eq_true rfl) (fun _ => rfl) dX9_tries_92 rfl (fun v8 hx => ?_)
  refine V.goto (q := 48) dX9_tries_95 (by decide) ?_
  refine V.pick [2, 3, 4, 5, 1, 0] rfl ?_
  exact hk48 l2 l3 l4 l5 v7 v8 h hx
set_option maxRecDepth 100000 in
set_option maxHeartbeats 4000000 in
theorem vX9_tries_88 {l : Launch} {G : GG} {EX : State → Prop} (hE : EXB G EX) {r : Int32 × AH} {k48 : Int32 → Int32 → Int32 → Int32 → Int32 → Int32 → AH → Option (Int32 × AH)} {k98 : Int32 → Int32 → Int32 → Int32 → Int32 → AH → Option (Int32 × AH)} (hk48 : ∀ (l2 : Int32) (l3 : Int32) (l4 : Int32) (l5 : Int32) (l6 : Int32) (l7 : Int32) (h : AH), k48 l2 l3 l4 l5 l6 l7 h = some r → U l G EX mi_X9_tries 3 70 (some (.int r.1)) r.2 48 [(2, .int l2), (3, .int l3), (4, .int l4), (5, .int l5), (6, .int l6), (7, .int l7)] [] h) (hk98 : ∀ (l2 : Int32) (l3 : Int32) (l4 : Int32) (l5 : Int32) (l6 : Int32) (h : AH), k98 l2 l3 l4 l5 l6 h = some r → U l G EX mi_X9_tries 3 70 (some (.int r.1)) r.2 98 [(2, .int l2), (3, .int l3), (4, .int l4), (5, .int l5), (6, .int l6)] [] h) : ∀ (l2 : Int32) (l3 : Int32) (l4 : Int32) (l5 : Int32) (l7 : Int32) (s0 : Int32) (h : AH), fX9_tries_88 k48 k98 l2 l3 l4 l5 l7 s0 h = some r → U l G EX mi_X9_tries 3 70 (some (.int r.1)) r.2 88 [(2, .int l2), (3, .int l3), (4, .int l4), (5, .int l5), (7, .int l7)] [.int s0] h := by
  intro l2 l3 l4 l5 l7 s0 h hx
  unfold fX9_tries_88 at hx
  refine V.iconst dX9_tries_88 rfl ki_0 ?_
  exact vX9_tries_89 hE hk48 hk98 l2 l3 l4 l5 l7 s0 (0 : Int32) h hx
set_option maxRecDepth 100000 in
set_option maxHeartbeats 4000000 in
theorem vX9_tries_48 {l : Launch} {G : GG} {EX : State → Prop} (hE : EXB G EX) {r : Int32 × AH} {k98 : Int32 → Int32 → Int32 → Int32 → Int32 → AH → Option (Int32 × AH)} (hk98 : ∀ (l2 : Int32) (l3 : Int32) (l4 : Int32) (l5 : Int32) (l6 : Int32) (h : AH), k98 l2 l3 l4 l5 l6 h = some r → U l G EX mi_X9_tries 3 70 (some (.int r.1)) r.2 98 [(2, .int l2), (3, .int l3), (4, .int l4), (5, .int l5), (6, .int l6)] [] h) : ∀ (n : Nat) (l2 : Int32) (l3 : Int32) (l4 : Int32) (l5 : Int32) (l6 : Int32) (l7 : Int32) (h : AH), fX9_tries_48 k98 n l2 l3 l4 l5 l6 l7 h = some r → U l G EX mi_X9_tries 3 70 (some (.int r.1)) r.2 48 [(2, .int l2), (3, .int l3), (4, .int l4), (5, .int l5), (6, .int l6), (7, .int l7)] [] h := by
  intro n
  induction n with
  | zero =>
    intro l2 l3 l4 l5 l6 l7 h hx
    have hx : none = some r := hx
    cases hx
  | succ n ih =>
    intro l2 l3 l4 l5 l6 l7 h hx
    rw [fX9_tries_48] at hx
    refine V.iload (j := 5) dX9_tries_48 rfl rfl ?_
    refine V.bipush dX9_tries_50 rfl kb_6 ?_
    refine V.icmp_ge (tgt := 98) hx dX9_tries_52 (by decide) rfl (fun hx => ?_) (fun hx => ?_)
    · refine V.pick [0, 1, 2, 3, 4] rfl ?_
      exact hk98 l2 l3 l4 l5 l6 h hx
    · refine V.iload (j := 4) dX9_tries_55 rfl rfl ?_
      refine V.iload_n (j := 0) dX9_tries_57 rfl rfl rfl ?_
      refine V.iload (j := 5) dX9_tries_58 rfl rfl ?_
      obtain ⟨v6, q5, hx⟩ := ob_some hx
      refine U.callS (As := [.int l2, .int l7]) (rest := [.int l6]) (st' := [.int v6, .int l6]) hE.1 (mX9_has hE q5) mic_X9_has rfl wq_m_X9_114 wq_t_yX9_has ⟨Nat.le_of_ble_eq_true rfl, Nat.le_of_ble_eq_true rfl⟩ (Nat.le_of_ble_eq_true rfl) dX9_tries_60 rfl rfl rfl ?_
      refine V.if_eq (tgt := 88) hx dX9_tries_63 (by decide) rfl (fun hx => ?_) (fun hx => ?_)
      · refine V.pick [0, 1, 2, 3, 5] rfl ?_
        exact vX9_tries_88 hE (ih) hk98 l2 l3 l4 l5 l7 l6 h hx
      · refine V.iload (j := 5) dX9_tries_66 rfl rfl ?_
        refine V.iload (j := 3) dX9_tries_68 rfl rfl ?_
        refine V.bipush dX9_tries_70 rfl kb_100 ?_
        refine V.idiv dX9_tries_72 rfl (by decide) ?_
        refine V.iload (j := 3) dX9_tries_73 rfl rfl ?_
        refine V.bipush dX9_tries_75 rfl kb_100 ?_
        refine V.irem dX9_tries_77 rfl (by decide) ?_
        obtain ⟨v10, q9, hx⟩ := ob_some hx
        refine U.callS (As := [.int l7, .int (l5 / (100 : Int32)), .int (jrem l5 (100 : Int32))]) (rest := [.int l6]) (st' := [.int v10, .int l6]) hE.1 (mX9_seesAs hE q9) mic_X9_seesAs rfl wq_m_X9_125 wq_t_yX9_seesAs ⟨Nat.le_of_ble_eq_true rfl, Nat.le_of_ble_eq_true rfl⟩ (Nat.le_of_ble_eq_true rfl) dX9_tries_78 rfl rfl rfl ?_
        refine V.if_eq (tgt := 88) hx dX9_tries_81 (by decide) rfl (fun hx => ?_) (fun hx => ?_)
        · refine V.pick [0, 1, 2, 3, 5] rfl ?_
          exact vX9_tries_88 hE (ih) hk98 l2 l3 l4 l5 l7 l6 h hx
        · refine V.iconst dX9_tries_84 rfl ki_1 ?_
          refine V.goto (q := 89) dX9_tries_85 (by decide) ?_
          refine V.pick [0, 1, 2, 3, 5] rfl ?_
          exact vX9_tries_89 hE (ih) hk98 l2 l3 l4 l5 l7 l6 (1 : Int32) h hx
set_option maxRecDepth 100000 in
set_option maxHeartbeats 4000000 in
theorem vX9_tries_166 {l : Launch} {G : GG} {EX : State → Prop} (hE : EXB G EX) {r : Int32 × AH} {k30 : Int32 → Int32 → Int32 → Int32 → AH → Option (Int32 × AH)} (hk30 : ∀ (l2 : Int32) (l3 : Int32) (l4 : Int32) (l5 : Int32) (h : AH), k30 l2 l3 l4 l5 h = some r → U l G EX mi_X9_tries 3 70 (some (.int r.1)) r.2 30 [(2, .int l2), (3, .int l3), (4, .int l4), (5, .int l5)] [] h) : ∀ (l2 : Int32) (l3 : Int32) (l5 : Int32) (s0 : Int32) (h : AH), fX9_tries_166 k30 l2 l3 l5 s0 h = some r → U l G EX mi_X9_tries 3 70 (some (.int r.1)) r.2 166 [(2, .int l2), (3, .int l3), (5, .int l5)] [.int s0] h := by
  intro l2 l3 l5 s0 h hx
  unfold fX9_tries_166 at hx
  refine V.istore [(4, .int s0), (2, .int l2), (3, .int l3), (5, .int l5)] dX9_tries_166 rfl (Nat.le_of_ble_eq_true rfl) rfl ?_
  refine U.iinc hx (fun v20 => [(5, .int v20), (4, .int s0), (2, .int l2), (3, .int l3)]) (j := 3) rfl (by decide) (Nat.le_of_ble_eq_true rfl) (fun _ => rfl) dX9_tries_168 rfl (fun v20 hx => ?_)
  refine V.goto (q := 30) dX9_tries_171 (by decide) ?_
  refine V.pick [2, 3, 1, 0] rfl ?_
  exact hk30 l2 l3 s0 v20 h hx
set_option maxRecDepth 100000 in
set_option maxHeartbeats 4000000 in
theorem vX9_tries_151 {l : Launch} {G : GG} {EX : State → Prop} (hE : EXB G EX) {r : Int32 × AH} {k30 : Int32 → Int32 → Int32 → Int32 → AH → Option (Int32 × AH)} (hk30 : ∀ (l2 : Int32) (l3 : Int32) (l4 : Int32) (l5 : Int32) (h : AH), k30 l2 l3 l4 l5 h = some r → U l G EX mi_X9_tries 3 70 (some (.int r.1)) r.2 30 [(2, .int l2), (3, .int l3), (4, .int l4), (5, .int l5)] [] h) : ∀ (l2 : Int32) (l4 : Int32) (l5 : Int32) (l8 : Int32) (s0 : Int32) (h : AH), fX9_tries_151 k30 l2 l4 l5 l8 s0 h = some r → U l G EX mi_X9_tries 3 70 (some (.int r.1)) r.2 151 [(2, .int l2), (4, .int l4), (5, .int l5), (8, .int l8)] [.int s0] h := by
  intro l2 l4 l5 l8 s0 h hx
  unfold fX9_tries_151 at hx
  refine V.istore_n [(3, .int s0), (2, .int l2), (4, .int l4), (5, .int l5), (8, .int l8)] dX9_tries_151 rfl rfl (Nat.le_of_ble_eq_true rfl) rfl ?_
  refine V.iload (j := 4) dX9_tries_152 rfl rfl ?_
  refine V.iload (j := 2) dX9_tries_154 rfl rfl ?_
  refine V.icmp_ge (tgt := 164) hx dX9_tries_156 (by decide) rfl (fun hx => ?_) (fun hx => ?_)
  · refine V.iload (j := 2) dX9_tries_164 rfl rfl ?_
    refine V.pick [1, 0, 3] rfl ?_
    exact vX9_tries_166 hE hk30 l2 s0 l5 l4 h hx
  · refine V.iload (j := 4) dX9_tries_159 rfl rfl ?_
    refine V.goto (q := 166) dX9_tries_161 (by decide) ?_
    refine V.pick [1, 0, 3] rfl ?_
    exact vX9_tries_166 hE hk30 l2 s0 l5 l8 h hx
set_option maxRecDepth 100000 in
set_option maxHeartbeats 4000000 in
theorem vX9_tries_136 {l : Launch} {G : GG} {EX : State → Prop} (hE : EXB G EX) {r : Int32 × AH} {k30 : Int32 → Int32 → Int32 → Int32 → AH → Option (Int32 × AH)} (hk30 : ∀ (l2 : Int32) (l3 : Int32) (l4 : Int32) (l5 : Int32) (h : AH), k30 l2 l3 l4 l5 h = some r → U l G EX mi_X9_tries 3 70 (some (.int r.1)) r.2 30 [(2, .int l2), (3, .int l3), (4, .int l4), (5, .int l5)] [] h) : ∀ (l2 : Int32) (l3 : Int32) (l4 : Int32) (l5 : Int32) (s0 : Int32) (h : AH), fX9_tries_136 k30 l2 l3 l4 l5 s0 h = some r → U l G EX mi_X9_tries 3 70 (some (.int r.1)) r.2 136 [(2, .int l2), (3, .int l3), (4, .int l4), (5, .int l5)] [.int s0] h := by
  intro l2 l3 l4 l5 s0 h hx
  unfold fX9_tries_136 at hx
  refine V.istore [(8, .int s0), (2, .int l2), (3, .int l3), (4, .int l4), (5, .int l5)] dX9_tries_136 rfl (Nat.le_of_ble_eq_true rfl) rfl ?_
  refine V.iload (j := 0) dX9_tries_138 rfl rfl ?_
  refine V.iload (j := 3) dX9_tries_140 rfl rfl ?_
  refine V.icmp_ge (tgt := 150) hx dX9_tries_142 (by decide) rfl (fun hx => ?_) (fun hx => ?_)
  · refine V.iload_n (j := 2) dX9_tries_150 rfl rfl rfl ?_
    refine V.pick [1, 3, 4, 0] rfl ?_
    exact vX9_tries_151 hE hk30 l2 l4 l5 s0 l3 h hx
  · refine V.iload (j := 4) dX9_tries_145 rfl rfl ?_
    refine V.goto (q := 151) dX9_tries_147 (by decide) ?_
    refine V.pick [1, 3, 4, 0] rfl ?_
    exact vX9_tries_151 hE hk30 l2 l4 l5 s0 l5 h hx
set_option maxRecDepth 100000 in
set_option maxHeartbeats 4000000 in
theorem vX9_tries_30 {l : Launch} {G : GG} {EX : State → Prop} (hE : EXB G EX) {r : Int32 × AH} : ∀ (n : Nat) (l2 : Int32) (l3 : Int32) (l4 : Int32) (l5 : Int32) (h : AH), fX9_tries_30 n l2 l3 l4 l5 h = some r → U l G EX mi_X9_tries 3 70 (some (.int r.1)) r.2 30 [(2, .int l2), (3, .int l3), (4, .int l4), (5, .int l5)] [] h := by
  intro n
  induction n with
  | zero =>
    intro l2 l3 l4 l5 h hx
    have hx : none = some r := hx
    cases hx
  | succ n ih =>
    intro l2 l3 l4 l5 h hx
    rw [fX9_tries_30] at hx
    refine V.iload (j := 3) dX9_tries_30 rfl rfl ?_
    refine V.sipush dX9_tries_32 rfl ks_941 ?_
    refine V.icmp_ge (tgt := 174) hx dX9_tries_35 (by decide) rfl (fun hx => ?_) (fun hx => ?_)
    · refine V.iload_n (j := 1) dX9_tries_174 rfl rfl rfl ?_
      obtain rfl := Option.some.inj hx
      exact U.retI rfl rfl rfl rfl dX9_tries_175
    · refine V.iload_n (j := 0) dX9_tries_38 rfl rfl rfl ?_
      refine V.if_le (tgt := 174) hx dX9_tries_39 (by decide) rfl (fun hx => ?_) (fun hx => ?_)
      · refine V.iload_n (j := 1) dX9_tries_174 rfl rfl rfl ?_
        obtain rfl := Option.some.inj hx
        exact U.retI rfl rfl rfl rfl dX9_tries_175
      · refine V.iconst dX9_tries_42 rfl ki_0 ?_
        refine V.istore [(6, .int (0 : Int32)), (2, .int l2), (3, .int l3), (4, .int l4), (5, .int l5)] dX9_tries_43 rfl (Nat.le_of_ble_eq_true rfl) rfl ?_
        refine V.iconst dX9_tries_45 rfl ki_0 ?_
        refine V.istore [(7, .int (0 : Int32)), (6, .int (0 : Int32)), (2, .int l2), (3, .int l3), (4, .int l4), (5, .int l5)] dX9_tries_46 rfl (Nat.le_of_ble_eq_true rfl) rfl ?_
        refine V.pick [2, 3, 4, 5, 1, 0] rfl ?_
        refine vX9_tries_48 hE (fun w11 w12 w13 w14 w15 h16 hx => ?_) FU l2 l3 l4 l5 (0 : Int32) (0 : Int32) h hx
        · refine V.iload_n (j := 0) dX9_tries_98 rfl rfl rfl ?_
          obtain ⟨v18, q17, hx⟩ := ob_some hx
          refine U.callS (As := [.int w11]) (rest := []) (st' := [.int v18]) hE.1 (mX9_bits hE q17) mic_X9_bits rfl wq_m_X9_183 wq_t_yX9_bits ⟨Nat.le_of_ble_eq_true rfl, Nat.le_of_ble_eq_true rfl⟩ (Nat.le_of_ble_eq_true rfl) dX9_tries_99 rfl rfl rfl ?_
          refine V.iload (j := 4) dX9_tries_102 rfl rfl ?_
          refine V.isub dX9_tries_104 rfl ?_
          refine U.letI hx (fun v19 hx => ?_)
          refine V.istore [(7, .int v19), (2, .int w11), (3, .int w12), (4, .int w13), (5, .int w14), (6, .int w15)] dX9_tries_105 rfl (Nat.le_of_ble_eq_true rfl) rfl ?_
          refine V.iload (j := 4) dX9_tries_107 rfl rfl ?_
          refine V.bipush dX9_tries_109 rfl kb_100 ?_
          refine V.irem dX9_tries_111 rfl (by decide) ?_
          refine V.bipush dX9_tries_112 rfl kb_40 ?_
          refine V.icmp_le (tgt := 122) hx dX9_tries_114 (by decide) rfl (fun hx => ?_) (fun hx => ?_)
          · refine V.iload (j := 5) dX9_tries_122 rfl rfl ?_
            refine V.iload (j := 0) dX9_tries_124 rfl rfl ?_
            refine V.icmp_le (tgt := 134) hx dX9_tries_126 (by decide) rfl (fun hx => ?_) (fun hx => ?_)
            · refine V.iload (j := 0) dX9_tries_134 rfl rfl ?_
              refine V.pick [1, 2, 3, 4] rfl ?_
              exact vX9_tries_136 hE (ih) w11 w12 w13 w14 v19 h16 hx
            · refine V.iload (j := 5) dX9_tries_129 rfl rfl ?_
              refine V.goto (q := 136) dX9_tries_131 (by decide) ?_
              refine V.pick [1, 2, 3, 4] rfl ?_
              exact vX9_tries_136 hE (ih) w11 w12 w13 w14 w15 h16 hx
          · refine V.ldc dX9_tries_117 rfl wq_k_X9_186 ?_
            refine V.goto (q := 136) dX9_tries_119 (by decide) ?_
            refine V.pick [1, 2, 3, 4] rfl ?_
            exact vX9_tries_136 hE (ih) w11 w12 w13 w14 (1000000 : Int32) h16 hx
set_option maxRecDepth 100000 in
set_option maxHeartbeats 4000000 in
theorem mX9_tries {l : Launch} {G : GG} {EX : State → Prop} (hE : EXB G EX) {th : Nat} {a1 : Int32} {h : AH} (t0 : KD th = 8) {r : Int32 × AH} (hx : fX9_tries th a1 h = some r) : MetU l G EX mi_X9_tries 3 70 [.ref (G.1 + th), .int a1] h (some (.int r.1)) r.2 := by
  refine MetU.of mic_X9_tries.1 (Nat.le_of_ble_eq_true rfl) ?_
  refine show U l G EX mi_X9_tries 3 70 (some (.int r.1)) r.2 0 [(0, .ref (G.1 + th)), (1, .int a1)] [] h from ?_
  unfold fX9_tries at hx
  refine V.aload_n (j := 0) dX9_tries_0 rfl rfl rfl ?_
  refine V.iload_n (j := 1) dX9_tries_1 rfl rfl rfl ?_
  obtain ⟨v2, q1, hx⟩ := ob_some hx
  refine U.callV (As := [.int a1]) (rest := []) (st' := [.int v2]) hE.1 (mX9_isWatcher hE t0 q1) mic_X9_isWatcher rfl t0 (by decide) rfl rfl wq_m_X9_159 wq_i_yX9_isWatcher wq_s_yX9_isWatcher ⟨Nat.le_of_ble_eq_true rfl, Nat.le_of_ble_eq_true rfl⟩ (Nat.le_of_ble_eq_true rfl) dX9_tries_2 rfl rfl rfl ?_
  refine V.if_ne (tgt := 15) hx dX9_tries_5 (by decide) rfl (fun hx => ?_) (fun hx => ?_)
  · refine V.aload_n (j := 0) dX9_tries_15 rfl rfl rfl ?_
    refine V.iload_n (j := 1) dX9_tries_16 rfl rfl rfl ?_
    obtain ⟨v4, q3, hx⟩ := ob_some hx
    refine U.callV (As := [.int a1]) (rest := []) (st' := [.int v4]) hE.1 (mX9_kindsOfWatcher hE t0 q3) mic_X9_kindsOfWatcher rfl t0 (by decide) rfl rfl wq_m_X9_204 wq_i_yX9_kindsOfWatcher wq_s_yX9_kindsOfWatcher ⟨Nat.le_of_ble_eq_true rfl, Nat.le_of_ble_eq_true rfl⟩ (Nat.le_of_ble_eq_true rfl) dX9_tries_17 rfl rfl rfl ?_
    refine V.istore_n [(2, .int v4), (0, .ref (G.1 + th)), (1, .int a1)] dX9_tries_20 rfl rfl (Nat.le_of_ble_eq_true rfl) rfl ?_
    refine V.iconst dX9_tries_21 rfl ki_m1 ?_
    refine V.istore_n [(3, .int (-1 : Int32)), (2, .int v4), (0, .ref (G.1 + th)), (1, .int a1)] dX9_tries_22 rfl rfl (Nat.le_of_ble_eq_true rfl) rfl ?_
    refine V.ldc dX9_tries_23 rfl wq_k_X9_186 ?_
    refine V.istore [(4, .int (1000000 : Int32)), (3, .int (-1 : Int32)), (2, .int v4), (0, .ref (G.1 + th)), (1, .int a1)] dX9_tries_25 rfl (Nat.le_of_ble_eq_true rfl) rfl ?_
    refine V.iconst dX9_tries_27 rfl ki_0 ?_
    refine V.istore [(5, .int (0 : Int32)), (4, .int (1000000 : Int32)), (3, .int (-1 : Int32)), (2, .int v4), (0, .ref (G.1 + th)), (1, .int a1)] dX9_tries_28 rfl (Nat.le_of_ble_eq_true rfl) rfl ?_
    refine V.pick [3, 2, 1, 0] rfl ?_
    exact vX9_tries_30 hE FU v4 (-1 : Int32) (1000000 : Int32) (0 : Int32) h hx
  · refine V.aload_n (j := 0) dX9_tries_8 rfl rfl rfl ?_
    refine V.bipush dX9_tries_9 rfl kb_m2 ?_
    obtain ⟨v23, h22, q21, hx⟩ := ob2_some hx
    refine U.callV (As := [.int (-2 : Int32)]) (rest := []) (st' := [.int v23]) hE.1 (mX9_bad hE t0 q21) mic_X9_bad rfl t0 (by decide) rfl rfl wq_m_X9_78 wq_i_yX9_bad wq_s_yX9_bad ⟨Nat.le_of_ble_eq_true rfl, Nat.le_of_ble_eq_true rfl⟩ (Nat.le_of_ble_eq_true rfl) dX9_tries_11 rfl rfl rfl ?_
    obtain rfl := Option.some.inj hx
    exact U.retI rfl rfl rfl rfl dX9_tries_14
set_option maxRecDepth 100000 in
set_option maxHeartbeats 4000000 in
theorem vX9_game_27 {l : Launch} {G : GG} {EX : State → Prop} (hE : EXB G EX) {r : Int32 × AH} : ∀ (l0 : Nat) (h : AH) (t0 : KD l0 = 8), fX9_game_27 l0 h = some r → U l G EX mi_X9_game 6 143 (some (.int r.1)) r.2 27 [(0, .ref (G.1 + l0))] [] h := by
  intro l0 h t0 hx
  unfold fX9_game_27 at hx
  refine V.aload_n (j := 0) dX9_game_27 rfl rfl rfl ?_
  refine V.bipush dX9_game_28 rfl kb_m2 ?_
  obtain ⟨v5, h4, q3, hx⟩ := ob2_some hx
  refine U.callV (As := [.int (-2 : Int32)]) (rest := []) (st' := [.int v5]) hE.1 (mX9_bad hE t0 q3) mic_X9_bad rfl t0 (by decide) rfl rfl wq_m_X9_78 wq_i_yX9_bad wq_s_yX9_bad ⟨Nat.le_of_ble_eq_true rfl, Nat.le_of_ble_eq_true rfl⟩ (Nat.le_of_ble_eq_true rfl) dX9_game_30 rfl rfl rfl ?_
  obtain rfl := Option.some.inj hx
  exact U.retI rfl rfl rfl rfl dX9_game_33
set_option maxRecDepth 100000 in
set_option maxHeartbeats 4000000 in
theorem vX9_game_192 {l : Launch} {G : GG} {EX : State → Prop} (hE : EXB G EX) {r : Int32 × AH} {k130 : Int32 → Int32 → Int32 → AH → Option (Int32 × AH)} (hk130 : ∀ (l4 : Int32) (l5 : Int32) (l6 : Int32) (h : AH), k130 l4 l5 l6 h = some r → U l G EX mi_X9_game 6 143 (some (.int r.1)) r.2 130 [(4, .int l4), (5, .int l5), (6, .int l6)] [] h) : ∀ (l4 : Int32) (l6 : Int32) (s0 : Int32) (s1 : Int32) (h : AH), fX9_game_192 k130 l4 l6 s0 s1 h = some r → U l G EX mi_X9_game 6 143 (some (.int r.1)) r.2 192 [(4, .int l4), (6, .int l6)] [.int s1, .int s0] h := by
  intro l4 l6 s0 s1 h hx
  unfold fX9_game_192 at hx
  refine V.ior dX9_game_192 rfl ?_
  refine U.letI hx (fun v14 hx => ?_)
  refine V.istore [(5, .int v14), (4, .int l4), (6, .int l6)] dX9_game_193 rfl (Nat.le_of_ble_eq_true rfl) rfl ?_
  refine U.iinc hx (fun v15 => [(6, .int v15), (5, .int v14), (4, .int l4)]) (j := 2) rfl (by decide) (Nat.le_of_ble_eq_true rfl) (fun _ => rfl) dX9_game_195 rfl (fun v15 hx => ?_)
  refine V.goto (q := 130) dX9_game_198 (by decide) ?_
  refine V.pick [2, 1, 0] rfl ?_
  exact hk130 l4 v14 v15 h hx
set_option maxRecDepth 100000 in
set_option maxHeartbeats 4000000 in
theorem vX9_game_175 {l : Launch} {G : GG} {EX : State → Prop} (hE : EXB G EX) {r : Int32 × AH} {k130 : Int32 → Int32 → Int32 → AH → Option (Int32 × AH)} (hk130 : ∀ (l4 : Int32) (l5 : Int32) (l6 : Int32) (h : AH), k130 l4 l5 l6 h = some r → U l G EX mi_X9_game 6 143 (some (.int r.1)) r.2 130 [(4, .int l4), (5, .int l5), (6, .int l6)] [] h) : ∀ (l4 : Int32) (l5 : Int32) (l6 : Int32) (s0 : Int32) (h : AH), fX9_game_175 k130 l4 l5 l6 s0 h = some r → U l G EX mi_X9_game 6 143 (some (.int r.1)) r.2 175 [(4, .int l4), (5, .int l5), (6, .int l6)] [.int s0] h := by
  intro l4 l5 l6 s0 h hx
  unfold fX9_game_175 at hx
  refine V.istore [(7, .int s0), (4, .int l4), (5, .int l5), (6, .int l6)] dX9_game_175 rfl (Nat.le_of_ble_eq_true rfl) rfl ?_
  refine V.iload (j := 2) dX9_game_177 rfl rfl ?_
  refine V.iload (j := 0) dX9_game_179 rfl rfl ?_
  refine V.if_eq (tgt := 191) hx dX9_game_181 (by decide) rfl (fun hx => ?_) (fun hx => ?_)
  · refine V.iconst dX9_game_191 rfl ki_0 ?_
    refine V.pick [1, 3] rfl ?_
    exact vX9_game_192 hE hk130 l4 l6 l5 (0 : Int32) h hx
  · refine V.iconst dX9_game_184 rfl ki_1 ?_
    refine V.iload (j := 3) dX9_game_185 rfl rfl ?_
    refine V.ishl dX9_game_187 rfl ?_
    refine V.goto (q := 192) dX9_game_188 (by decide) ?_
    refine V.pick [1, 3] rfl ?_
    exact vX9_game_192 hE hk130 l4 l6 l5 (jshl (1 : Int32) l6) h hx
set_option maxRecDepth 100000 in
set_option maxHeartbeats 4000000 in
theorem vX9_game_130 {l : Launch} {G : GG} {EX : State → Prop} (hE : EXB G EX) {r : Int32 × AH} : ∀ (n : Nat) (l4 : Int32) (l5 : Int32) (l6 : Int32) (h : AH), fX9_game_130 n l4 l5 l6 h = some r → U l G EX mi_X9_game 6 143 (some (.int r.1)) r.2 130 [(4, .int l4), (5, .int l5), (6, .int l6)] [] h := by
  intro n
  induction n with
  | zero =>
    intro l4 l5 l6 h hx
    have hx : none = some r := hx
    cases hx
  | succ n ih =>
    intro l4 l5 l6 h hx
    rw [fX9_game_130] at hx
    refine V.iload (j := 2) dX9_game_130 rfl rfl ?_
    refine V.iconst dX9_game_132 rfl ki_4 ?_
    refine V.icmp_ge (tgt := 201) hx dX9_game_133 (by decide) rfl (fun hx => ?_) (fun hx => ?_)
    · refine V.iload (j := 1) dX9_game_201 rfl rfl ?_
      obtain rfl := Option.some.inj hx
      exact U.retI rfl rfl rfl rfl dX9_game_203
    · refine V.iload (j := 0) dX9_game_136 rfl rfl ?_
      refine V.iload (j := 2) dX9_game_138 rfl rfl ?_
      obtain ⟨v11, q10, hx⟩ := ob_some hx
      refine U.callS (As := [.int l4, .int l6]) (rest := []) (st' := [.int v11]) hE.1 (mX9_has hE q10) mic_X9_has rfl wq_m_X9_114 wq_t_yX9_has ⟨Nat.le_of_ble_eq_true rfl, Nat.le_of_ble_eq_true rfl⟩ (Nat.le_of_ble_eq_true rfl) dX9_game_140 rfl rfl rfl ?_
      refine V.if_eq (tgt := 158) hx dX9_game_143 (by decide) rfl (fun hx => ?_) (fun hx => ?_)
      · refine V.iload (j := 0) dX9_game_158 rfl rfl ?_
        refine V.iload (j := 2) dX9_game_160 rfl rfl ?_
        refine V.iconst dX9_game_162 rfl ki_2 ?_
        refine V.ixor dX9_game_163 rfl ?_
        obtain ⟨v13, q12, hx⟩ := ob_some hx
        refine U.callS (As := [.int l4, .int (l6 ^^^ (2 : Int32))]) (rest := []) (st' := [.int v13]) hE.1 (mX9_has hE q12) mic_X9_has rfl wq_m_X9_114 wq_t_yX9_has ⟨Nat.le_of_ble_eq_true rfl, Nat.le_of_ble_eq_true rfl⟩ (Nat.le_of_ble_eq_true rfl) dX9_game_164 rfl rfl rfl ?_
        refine V.if_ne (tgt := 174) hx dX9_game_167 (by decide) rfl (fun hx => ?_) (fun hx => ?_)
        · refine V.iconst dX9_game_174 rfl ki_0 ?_
          exact vX9_game_175 hE (ih) l4 l5 l6 (0 : Int32) h hx
        · refine V.iconst dX9_game_170 rfl ki_1 ?_
          refine V.goto (q := 175) dX9_game_171 (by decide) ?_
          exact vX9_game_175 hE (ih) l4 l5 l6 (1 : Int32) h hx
      · refine V.iload (j := 0) dX9_game_146 rfl rfl ?_
        refine V.iload (j := 2) dX9_game_148 rfl rfl ?_
        refine V.iconst dX9_game_150 rfl ki_1 ?_
        refine V.ixor dX9_game_151 rfl ?_
        obtain ⟨v17, q16, hx⟩ := ob_some hx
        refine U.callS (As := [.int l4, .int (l6 ^^^ (1 : Int32))]) (rest := []) (st' := [.int v17]) hE.1 (mX9_has hE q16) mic_X9_has rfl wq_m_X9_114 wq_t_yX9_has ⟨Nat.le_of_ble_eq_true rfl, Nat.le_of_ble_eq_true rfl⟩ (Nat.le_of_ble_eq_true rfl) dX9_game_152 rfl rfl rfl ?_
        refine V.goto (q := 175) dX9_game_155 (by decide) ?_
        exact vX9_game_175 hE (ih) l4 l5 l6 v17 h hx
set_option maxRecDepth 100000 in
set_option maxHeartbeats 4000000 in
theorem vX9_game_124 {l : Launch} {G : GG} {EX : State → Prop} (hE : EXB G EX) {r : Int32 × AH} : ∀ (l4 : Int32) (h : AH), fX9_game_124 l4 h = some r → U l G EX mi_X9_game 6 143 (some (.int r.1)) r.2 124 [(4, .int l4)] [] h := by
  intro l4 h hx
  unfold fX9_game_124 at hx
  refine V.iconst dX9_game_124 rfl ki_0 ?_
  refine V.istore [(5, .int (0 : Int32)), (4, .int l4)] dX9_game_125 rfl (Nat.le_of_ble_eq_true rfl) rfl ?_
  refine V.iconst dX9_game_127 rfl ki_0 ?_
  refine V.istore [(6, .int (0 : Int32)), (5, .int (0 : Int32)), (4, .int l4)] dX9_game_128 rfl (Nat.le_of_ble_eq_true rfl) rfl ?_
  refine V.pick [2, 1, 0] rfl ?_
  exact vX9_game_130 hE FU l4 (0 : Int32) (0 : Int32) h hx
set_option maxRecDepth 100000 in
set_option maxHeartbeats 4000000 in
theorem vX9_game_115 {l : Launch} {G : GG} {EX : State → Prop} (hE : EXB G EX) {r : Int32 × AH} {k40 : Nat → Int32 → Int32 → Int32 → Int32 → Int32 → AH → Option (Int32 × AH)} (hk40 : ∀ (l0 : Nat) (l1 : Int32) (l2 : Int32) (l3 : Int32) (l4 : Int32) (l5 : Int32) (h : AH) (t0 : KD l0 = 8), k40 l0 l1 l2 l3 l4 l5 h = some r → U l G EX mi_X9_game 6 143 (some (.int r.1)) r.2 40 [(0, .ref (G.1 + l0)), (1, .int l1), (2, .int l2), (3, .int l3), (4, .int l4), (5, .int l5)] [] h) : ∀ (l0 : Nat) (l1 : Int32) (l2 : Int32) (l3 : Int32) (l5 : Int32) (s0 : Int32) (s1 : Int32) (h : AH) (t0 : KD l0 = 8), fX9_game_115 k40 l0 l1 l2 l3 l5 s0 s1 h = some r → U l G EX mi_X9_game 6 143 (some (.int r.1)) r.2 115 [(0, .ref (G.1 + l0)), (1, .int l1), (2, .int l2), (3, .int l3), (5, .int l5)] [.int s1, .int s0] h := by
  intro l0 l1 l2 l3 l5 s0 s1 h t0 hx
  unfold fX9_game_115 at hx
  refine V.ior dX9_game_115 rfl ?_
  refine U.letI hx (fun v26 hx => ?_)
  refine V.istore [(4, .int v26), (0, .ref (G.1 + l0)), (1, .int l1), (2, .int l2), (3, .int l3), (5, .int l5)] dX9_game_116 rfl (Nat.le_of_ble_eq_true rfl) rfl ?_
  refine U.iinc hx (fun v27 => [(5, .int v27), (4, .int v26), (0, .ref (G.1 + l0)), (1, .int l1), (2, .int l2), (3, .int l3)]) (j := 5) rfl (by decide) (Nat.le_of_ble_eq_true rfl) (fun _ => rfl) dX9_game_118 rfl (fun v27 hx => ?_)
  refine V.goto (q := 40) dX9_game_121 (by decide) ?_
  refine V.pick [2, 3, 4, 5, 1, 0] rfl ?_
  exact hk40 l0 l1 l2 l3 v26 v27 h t0 hx
set_option maxRecDepth 100000 in
set_option maxHeartbeats 4000000 in
theorem vX9_game_84 {l : Launch} {G : GG} {EX : State → Prop} (hE : EXB G EX) {r : Int32 × AH} {k40 : Nat → Int32 → Int32 → Int32 → Int32 → Int32 → AH → Option (Int32 × AH)} (hk40 : ∀ (l0 : Nat) (l1 : Int32) (l2 : Int32) (l3 : Int32) (l4 : Int32) (l5 : Int32) (h : AH) (t0 : KD l0 = 8), k40 l0 l1 l2 l3 l4 l5 h = some r → U l G EX mi_X9_game 6 143 (some (.int r.1)) r.2 40 [(0, .ref (G.1 + l0)), (1, .int l1), (2, .int l2), (3, .int l3), (4, .int l4), (5, .int l5)] [] h) : ∀ (l0 : Nat) (l1 : Int32) (l2 : Int32) (l3 : Int32) (l4 : Int32) (l5 : Int32) (s0 : Nat) (s1 : Int32) (s2 : Int32) (s3 : Int32) (h : AH) (t0 : KD l0 = 8) (ts0 : KD s0 = 9), fX9_game_84 k40 l0 l1 l2 l3 l4 l5 s0 s1 s2 s3 h = some r → U l G EX mi_X9_game 6 143 (some (.int r.1)) r.2 84 [(0, .ref (G.1 + l0)), (1, .int l1), (2, .int l2), (3, .int l3), (4, .int l4), (5, .int l5)] [.int s3, .int s2, .int s1, .ref (G.1 + s0)] h := by
  intro l0 l1 l2 l3 l4 l5 s0 s1 s2 s3 h t0 ts0 hx
  unfold fX9_game_84 at hx
  refine V.aload_n (j := 0) dX9_game_84 rfl rfl rfl ?_
  refine U.getP fl_X9_7 t0 dX9_game_85 rfl ?_
  obtain ⟨v21, q20, hx⟩ := ob_some hx
  refine U.callS (As := [.ref (G.1 + (PC l0 0))]) (rest := [.int s3, .int s2, .int s1, .ref (G.1 + s0)]) (st' := [.int v21, .int s3, .int s2, .int s1, .ref (G.1 + s0)]) hE.1 (mX9_isOn hE (ty_X9_0 t0) q20) mic_X9_isOn rfl wq_m_X9_133 wq_t_yX9_isOn ⟨Nat.le_of_ble_eq_true rfl, Nat.le_of_ble_eq_true rfl⟩ (Nat.le_of_ble_eq_true rfl) dX9_game_88 rfl rfl rfl ?_
  refine V.aload_n (j := 0) dX9_game_91 rfl rfl rfl ?_
  obtain ⟨v23, q22, hx⟩ := ob_some hx
  refine U.callV (As := []) (rest := [.int v21, .int s3, .int s2, .int s1, .ref (G.1 + s0)]) (st' := [.int v23, .int v21, .int s3, .int s2, .int s1, .ref (G.1 + s0)]) hE.1 (mX9_stepNow hE t0 q22) mic_X9_stepNow rfl t0 (by decide) rfl rfl wq_m_X9_169 wq_i_yX9_stepNow wq_s_yX9_stepNow ⟨Nat.le_of_ble_eq_true rfl, Nat.le_of_ble_eq_true rfl⟩ (Nat.le_of_ble_eq_true rfl) dX9_game_92 rfl rfl rfl ?_
  obtain ⟨v25, q24, hx⟩ := ob_some hx
  refine U.callS (As := [.ref (G.1 + s0), .int s1, .int s2, .int s3, .int v21, .int v23]) (rest := []) (st' := [.int v25]) hE.1 (mX9_seesFrom hE ts0 q24) mic_X9_seesFrom rfl wq_m_X9_129 wq_t_yX9_seesFrom ⟨Nat.le_of_ble_eq_true rfl, Nat.le_of_ble_eq_true rfl⟩ (Nat.le_of_ble_eq_true rfl) dX9_game_95 rfl rfl rfl ?_
  refine V.istore [(6, .int v25), (0, .ref (G.1 + l0)), (1, .int l1), (2, .int l2), (3, .int l3), (4, .int l4), (5, .int l5)] dX9_game_98 rfl (Nat.le_of_ble_eq_true rfl) rfl ?_
  refine V.iload (j := 5) dX9_game_100 rfl rfl ?_
  refine V.iload (j := 0) dX9_game_102 rfl rfl ?_
  refine V.if_eq (tgt := 114) hx dX9_game_104 (by decide) rfl (fun hx => ?_) (fun hx => ?_)
  · refine V.iconst dX9_game_114 rfl ki_0 ?_
    refine V.pick [1, 2, 3, 4, 6] rfl ?_
    exact vX9_game_115 hE hk40 l0 l1 l2 l3 l5 l4 (0 : Int32) h t0 hx
  · refine V.iconst dX9_game_107 rfl ki_1 ?_
    refine V.iload (j := 6) dX9_game_108 rfl rfl ?_
    refine V.ishl dX9_game_110 rfl ?_
    refine V.goto (q := 115) dX9_game_111 (by decide) ?_
    refine V.pick [1, 2, 3, 4, 6] rfl ?_
    exact vX9_game_115 hE hk40 l0 l1 l2 l3 l5 l4 (jshl (1 : Int32) l5) h t0 hx
set_option maxRecDepth 100000 in
set_option maxHeartbeats 4000000 in
theorem vX9_game_70 {l : Launch} {G : GG} {EX : State → Prop} (hE : EXB G EX) {r : Int32 × AH} {k40 : Nat → Int32 → Int32 → Int32 → Int32 → Int32 → AH → Option (Int32 × AH)} (hk40 : ∀ (l0 : Nat) (l1 : Int32) (l2 : Int32) (l3 : Int32) (l4 : Int32) (l5 : Int32) (h : AH) (t0 : KD l0 = 8), k40 l0 l1 l2 l3 l4 l5 h = some r → U l G EX mi_X9_game 6 143 (some (.int r.1)) r.2 40 [(0, .ref (G.1 + l0)), (1, .int l1), (2, .int l2), (3, .int l3), (4, .int l4), (5, .int l5)] [] h) : ∀ (l0 : Nat) (l1 : Int32) (l2 : Int32) (l3 : Int32) (l4 : Int32) (l5 : Int32) (s0 : Nat) (s1 : Int32) (s2 : Int32) (h : AH) (t0 : KD l0 = 8) (ts0 : KD s0 = 9), fX9_game_70 k40 l0 l1 l2 l3 l4 l5 s0 s1 s2 h = some r → U l G EX mi_X9_game 6 143 (some (.int r.1)) r.2 70 [(0, .ref (G.1 + l0)), (1, .int l1), (2, .int l2), (3, .int l3), (4, .int l4), (5, .int l5)] [.int s2, .int s1, .ref (G.1 + s0)] h := by
  intro l0 l1 l2 l3 l4 l5 s0 s1 s2 h t0 ts0 hx
  unfold fX9_game_70 at hx
  refine V.iload (j := 5) dX9_game_70 rfl rfl ?_
  refine V.iconst dX9_game_72 rfl ki_0 ?_
  obtain ⟨v19, q18, hx⟩ := ob_some hx
  refine U.callS (As := [.int l5, .int (0 : Int32)]) (rest := [.int s2, .int s1, .ref (G.1 + s0)]) (st' := [.int v19, .int s2, .int s1, .ref (G.1 + s0)]) hE.1 (mX9_has hE q18) mic_X9_has rfl wq_m_X9_114 wq_t_yX9_has ⟨Nat.le_of_ble_eq_true rfl, Nat.le_of_ble_eq_true rfl⟩ (Nat.le_of_ble_eq_true rfl) dX9_game_73 rfl rfl rfl ?_
  refine V.if_eq (tgt := 83) hx dX9_game_76 (by decide) rfl (fun hx => ?_) (fun hx => ?_)
  · refine V.iload_n (j := 2) dX9_game_83 rfl rfl rfl ?_
    exact vX9_game_84 hE hk40 l0 l1 l2 l3 l4 l5 s0 s1 s2 l2 h t0 ts0 hx
  · refine V.iload_n (j := 3) dX9_game_79 rfl rfl rfl ?_
    refine V.goto (q := 84) dX9_game_80 (by decide) ?_
    exact vX9_game_84 hE hk40 l0 l1 l2 l3 l4 l5 s0 s1 s2 l3 h t0 ts0 hx
set_option maxRecDepth 100000 in
set_option maxHeartbeats 4000000 in
theorem vX9_game_40 {l : Launch} {G : GG} {EX : State → Prop} (hE : EXB G EX) {r : Int32 × AH} : ∀ (n : Nat) (l0 : Nat) (l1 : Int32) (l2 : Int32) (l3 : Int32) (l4 : Int32) (l5 : Int32) (h : AH) (t0 : KD l0 = 8), fX9_game_40 n l0 l1 l2 l3 l4 l5 h = some r → U l G EX mi_X9_game 6 143 (some (.int r.1)) r.2 40 [(0, .ref (G.1 + l0)), (1, .int l1), (2, .int l2), (3, .int l3), (4, .int l4), (5, .int l5)] [] h := by
  intro n
  induction n with
  | zero =>
    intro l0 l1 l2 l3 l4 l5 h t0 hx
    have hx : none = some r := hx
    cases hx
  | succ n ih =>
    intro l0 l1 l2 l3 l4 l5 h t0 hx
    rw [fX9_game_40] at hx
    refine V.iload (j := 5) dX9_game_40 rfl rfl ?_
    refine V.iconst dX9_game_42 rfl ki_4 ?_
    refine V.icmp_ge (tgt := 124) hx dX9_game_43 (by decide) rfl (fun hx => ?_) (fun hx => ?_)
    · refine V.pick [4] rfl ?_
      exact vX9_game_124 hE l4 h hx
    · refine V.aload_n (j := 0) dX9_game_46 rfl rfl rfl ?_
      refine U.getP fl_X9_7 t0 dX9_game_47 rfl ?_
      refine V.aload_n (j := 0) dX9_game_50 rfl rfl rfl ?_
      refine U.getP fl_X9_7 t0 dX9_game_51 rfl ?_
      refine V.bipush dX9_game_54 rfl kb_40 ?_
      refine V.iload_n (j := 1) dX9_game_56 rfl rfl rfl ?_
      refine V.iadd dX9_game_57 rfl ?_
      refine U.iald hx (ty_X9_0 t0) dX9_game_58 rfl (fun hx => ?_)
      refine V.iload (j := 5) dX9_game_59 rfl rfl ?_
      refine V.iconst dX9_game_61 rfl ki_1 ?_
      refine V.icmp_le (tgt := 69) hx dX9_game_62 (by decide) rfl (fun hx => ?_) (fun hx => ?_)
      · refine V.iload_n (j := 2) dX9_game_69 rfl rfl rfl ?_
        exact vX9_game_70 hE (ih) l0 l1 l2 l3 l4 l5 (PC l0 0) (hI h (PC l0 0) (ix ((40 : Int32) + l1))) l2 h t0 (ty_X9_0 t0) hx
      · refine V.iload_n (j := 3) dX9_game_65 rfl rfl rfl ?_
        refine V.goto (q := 70) dX9_game_66 (by decide) ?_
        exact vX9_game_70 hE (ih) l0 l1 l2 l3 l4 l5 (PC l0 0) (hI h (PC l0 0) (ix ((40 : Int32) + l1))) l3 h t0 (ty_X9_0 t0) hx
set_option maxRecDepth 100000 in
set_option maxHeartbeats 4000000 in
theorem mX9_game {l : Launch} {G : GG} {EX : State → Prop} (hE : EXB G EX) {th : Nat} {a1 : Int32} {a2 : Int32} {a3 : Int32} {h : AH} (t0 : KD th = 8) {r : Int32 × AH} (hx : fX9_game th a1 a2 a3 h = some r) : MetU l G EX mi_X9_game 6 143 [.ref (G.1 + th), .int a1, .int a2, .int a3] h (some (.int r.1)) r.2 := by
  refine MetU.of mic_X9_game.1 (Nat.le_of_ble_eq_true rfl) ?_
  refine show U l G EX mi_X9_game 6 143 (some (.int r.1)) r.2 0 [(0, .ref (G.1 + th)), (1, .int a1), (2, .int a2), (3, .int a3)] [] h from ?_
  unfold fX9_game at hx
  refine V.aload_n (j := 0) dX9_game_0 rfl rfl rfl ?_
  refine V.iload_n (j := 1) dX9_game_1 rfl rfl rfl ?_
  obtain ⟨v2, q1, hx⟩ := ob_some hx
  refine U.callV (As := [.int a1]) (rest := []) (st' := [.int v2]) hE.1 (mX9_isWatcher hE t0 q1) mic_X9_isWatcher rfl t0 (by decide) rfl rfl wq_m_X9_159 wq_i_yX9_isWatcher wq_s_yX9_isWatcher ⟨Nat.le_of_ble_eq_true rfl, Nat.le_of_ble_eq_true rfl⟩ (Nat.le_of_ble_eq_true rfl) dX9_game_2 rfl rfl rfl ?_
  refine V.if_eq (tgt := 27) hx dX9_game_5 (by decide) rfl (fun hx => ?_) (fun hx => ?_)
  · refine V.pick [0] rfl ?_
    exact vX9_game_27 hE th h t0 hx
  · refine V.iload_n (j := 2) dX9_game_8 rfl rfl rfl ?_
    obtain ⟨v7, q6, hx⟩ := ob_some hx
    refine U.callS (As := [.int a2]) (rest := []) (st' := [.int v7]) hE.1 (mX9_isCell hE q6) mic_X9_isCell rfl wq_m_X9_74 wq_t_yX9_isCell ⟨Nat.le_of_ble_eq_true rfl, Nat.le_of_ble_eq_true rfl⟩ (Nat.le_of_ble_eq_true rfl) dX9_game_9 rfl rfl rfl ?_
    refine V.if_eq (tgt := 27) hx dX9_game_12 (by decide) rfl (fun hx => ?_) (fun hx => ?_)
    · refine V.pick [0] rfl ?_
      exact vX9_game_27 hE th h t0 hx
    · refine V.iload_n (j := 3) dX9_game_15 rfl rfl rfl ?_
      obtain ⟨v9, q8, hx⟩ := ob_some hx
      refine U.callS (As := [.int a3]) (rest := []) (st' := [.int v9]) hE.1 (mX9_isCell hE q8) mic_X9_isCell rfl wq_m_X9_74 wq_t_yX9_isCell ⟨Nat.le_of_ble_eq_true rfl, Nat.le_of_ble_eq_true rfl⟩ (Nat.le_of_ble_eq_true rfl) dX9_game_16 rfl rfl rfl ?_
      refine V.if_eq (tgt := 27) hx dX9_game_19 (by decide) rfl (fun hx => ?_) (fun hx => ?_)
      · refine V.pick [0] rfl ?_
        exact vX9_game_27 hE th h t0 hx
      · refine V.iload_n (j := 2) dX9_game_22 rfl rfl rfl ?_
        refine V.iload_n (j := 3) dX9_game_23 rfl rfl rfl ?_
        refine V.icmp_ne (tgt := 34) hx dX9_game_24 (by decide) rfl (fun hx => ?_) (fun hx => ?_)
        · refine V.iconst dX9_game_34 rfl ki_0 ?_
          refine V.istore [(4, .int (0 : Int32)), (0, .ref (G.1 + th)), (1, .int a1), (2, .int a2), (3, .int a3)] dX9_game_35 rfl (Nat.le_of_ble_eq_true rfl) rfl ?_
          refine V.iconst dX9_game_37 rfl ki_0 ?_
          refine V.istore [(5, .int (0 : Int32)), (4, .int (0 : Int32)), (0, .ref (G.1 + th)), (1, .int a1), (2, .int a2), (3, .int a3)] dX9_game_38 rfl (Nat.le_of_ble_eq_true rfl) rfl ?_
          refine V.pick [2, 3, 4, 5, 1, 0] rfl ?_
          exact vX9_game_40 hE FU th a1 a2 a3 (0 : Int32) (0 : Int32) h t0 hx
        · refine V.pick [0] rfl ?_
          exact vX9_game_27 hE th h t0 hx
set_option maxRecDepth 100000 in
set_option maxHeartbeats 4000000 in
theorem vX9_fraction_31 {l : Launch} {G : GG} {EX : State → Prop} (hE : EXB G EX) {r : AH} : ∀ (l0 : Nat) (l1 : Int64) (l3 : Int64) (l5 : Int64) (h : AH) (t0 : KD l0 = 8), fX9_fraction_31 l0 l1 l3 l5 h = some r → U l G EX mi_X9_fraction 0 0 none r 31 [(0, .ref (G.1 + l0)), (1, .long l1), (3, .long l3), (5, .long l5)] [] h := by
  intro l0 l1 l3 l5 h t0 hx
  unfold fX9_fraction_31 at hx
  refine V.aload_n (j := 0) dX9_fraction_31 rfl rfl rfl ?_
  refine V.lload_n (j := 1) dX9_fraction_32 rfl rfl rfl ?_
  refine V.lload (j := 3) dX9_fraction_33 rfl rfl ?_
  obtain ⟨g1, hx⟩ := oG_some hx
  refine V.ldiv dX9_fraction_35 rfl (of_decide_eq_true g1) ?_
  refine U.putJ hx fl_X9_207 t0 rfl rfl dX9_fraction_36 rfl (fun h2 hx => ?_)
  refine V.aload_n (j := 0) dX9_fraction_39 rfl rfl rfl ?_
  refine V.lload_n (j := 2) dX9_fraction_40 rfl rfl rfl ?_
  refine V.lload (j := 3) dX9_fraction_41 rfl rfl ?_
  obtain ⟨g3, hx⟩ := oG_some hx
  refine V.ldiv dX9_fraction_43 rfl (of_decide_eq_true g3) ?_
  refine U.putJ hx fl_X9_23 t0 rfl rfl dX9_fraction_44 rfl (fun h4 hx => ?_)
  obtain rfl := Option.some.inj hx
  exact U.ret0 rfl rfl rfl dX9_fraction_47
set_option maxRecDepth 100000 in
set_option maxHeartbeats 4000000 in
theorem vX9_fraction_6 {l : Launch} {G : GG} {EX : State → Prop} (hE : EXB G EX) {r : AH} : ∀ (n : Nat) (l0 : Nat) (l1 : Int64) (l3 : Int64) (l5 : Int64) (l7 : Int64) (h : AH) (t0 : KD l0 = 8), fX9_fraction_6 n l0 l1 l3 l5 l7 h = some r → U l G EX mi_X9_fraction 0 0 none r 6 [(0, .ref (G.1 + l0)), (1, .long l1), (3, .long l3), (5, .long l5), (7, .long l7)] [] h := by
  intro n
  induction n with
  | zero =>
    intro l0 l1 l3 l5 l7 h t0 hx
    have hx : none = some r := hx
    cases hx
  | succ n ih =>
    intro l0 l1 l3 l5 l7 h t0 hx
    rw [fX9_fraction_6] at hx
    refine V.lload (j := 4) dX9_fraction_6 rfl rfl ?_
    refine V.lconst dX9_fraction_8 rfl kl_0 ?_
    refine V.lcmp dX9_fraction_9 rfl ?_
    refine V.if_eq (tgt := 31) hx dX9_fraction_10 (by decide) rfl (fun hx => ?_) (fun hx => ?_)
    · refine V.pick [0, 1, 2, 3] rfl ?_
      exact vX9_fraction_31 hE l0 l1 l3 l5 h t0 hx
    · refine V.lload (j := 3) dX9_fraction_13 rfl rfl ?_
      refine V.lload (j := 4) dX9_fraction_15 rfl rfl ?_
      obtain ⟨g5, hx⟩ := oG_some hx
      refine V.lrem dX9_fraction_17 rfl (of_decide_eq_true g5) ?_
      refine U.letJ hx (fun v6 hx => ?_)
      refine V.lstore [(9, .long v6), (0, .ref (G.1 + l0)), (1, .long l1), (3, .long l3), (5, .long l5), (7, .long l7)] dX9_fraction_18 rfl (Nat.le_of_ble_eq_true rfl) rfl ?_
      refine V.lload (j := 5) dX9_fraction_20 rfl rfl ?_
      refine V.lstore [(5, .long l7), (9, .long v6), (0, .ref (G.1 + l0)), (1, .long l1), (3, .long l3), (7, .long l7)] dX9_fraction_22 rfl (Nat.le_of_ble_eq_true rfl) rfl ?_
      refine V.lload (j := 1) dX9_fraction_24 rfl rfl ?_
      refine V.lstore [(7, .long v6), (5, .long l7), (9, .long v6), (0, .ref (G.1 + l0)), (1, .long l1), (3, .long l3)] dX9_fraction_26 rfl (Nat.le_of_ble_eq_true rfl) rfl ?_
      refine V.goto (q := 6) dX9_fraction_28 (by decide) ?_
      refine V.pick [3, 4, 5, 1, 0] rfl ?_
      exact ih l0 l1 l3 l7 v6 h t0 hx
set_option maxRecDepth 100000 in
set_option maxHeartbeats 4000000 in
theorem mX9_fraction {l : Launch} {G : GG} {EX : State → Prop} (hE : EXB G EX) {th : Nat} {a1 : Int64} {a2 : Int64} {h : AH} (t0 : KD th = 8) {r : AH} (hx : fX9_fraction th a1 a2 h = some r) : MetU l G EX mi_X9_fraction 0 0 [.ref (G.1 + th), .long a1, .long a2] h none r := by
  refine MetU.of mic_X9_fraction.1 (Nat.le_of_ble_eq_true rfl) ?_
  refine show U l G EX mi_X9_fraction 0 0 none r 0 [(0, .ref (G.1 + th)), (1, .long a1), (3, .long a2)] [] h from ?_
  unfold fX9_fraction at hx
  refine V.lload_n (j := 1) dX9_fraction_0 rfl rfl rfl ?_
  refine V.lstore [(5, .long a1), (0, .ref (G.1 + th)), (1, .long a1), (3, .long a2)] dX9_fraction_1 rfl (Nat.le_of_ble_eq_true rfl) rfl ?_
  refine V.lload_n (j := 3) dX9_fraction_3 rfl rfl rfl ?_
  refine V.lstore [(7, .long a2), (5, .long a1), (0, .ref (G.1 + th)), (1, .long a1), (3, .long a2)] dX9_fraction_4 rfl (Nat.le_of_ble_eq_true rfl) rfl ?_
  refine V.pick [2, 3, 4, 1, 0] rfl ?_
  exact vX9_fraction_6 hE FU th a1 a2 a1 a2 h t0 hx
set_option maxRecDepth 100000 in
set_option maxHeartbeats 4000000 in
theorem vX9_fails_19 {l : Launch} {G : GG} {EX : State → Prop} (hE : EXB G EX) {r : Int32 × AH} : ∀ (l0 : Nat) (h : AH) (t0 : KD l0 = 8), fX9_fails_19 l0 h = some r → U l G EX mi_X9_fails 7 168 (some (.int r.1)) r.2 19 [(0, .ref (G.1 + l0))] [] h := by
  intro l0 h t0 hx
  unfold fX9_fails_19 at hx
  refine V.aload_n (j := 0) dX9_fails_19 rfl rfl rfl ?_
  refine V.bipush dX9_fails_20 rfl kb_m2 ?_
  obtain ⟨v5, h4, q3, hx⟩ := ob2_some hx
  refine U.callV (As := [.int (-2 : Int32)]) (rest := []) (st' := [.int v5]) hE.1 (mX9_bad hE t0 q3) mic_X9_bad rfl t0 (by decide) rfl rfl wq_m_X9_78 wq_i_yX9_bad wq_s_yX9_bad ⟨Nat.le_of_ble_eq_true rfl, Nat.le_of_ble_eq_true rfl⟩ (Nat.le_of_ble_eq_true rfl) dX9_fails_22 rfl rfl rfl ?_
  obtain rfl := Option.some.inj hx
  exact U.retI rfl rfl rfl rfl dX9_fails_25
set_option maxRecDepth 100000 in
set_option maxHeartbeats 4000000 in
theorem vX9_fails_197 {l : Launch} {G : GG} {EX : State → Prop} (hE : EXB G EX) {r : Int32 × AH} : ∀ (l0 : Nat) (l4 : Int64) (l6 : Int64) (h : AH) (t0 : KD l0 = 8), fX9_fails_197 l0 l4 l6 h = some r → U l G EX mi_X9_fails 7 168 (some (.int r.1)) r.2 197 [(0, .ref (G.1 + l0)), (4, .long l4), (6, .long l6)] [] h := by
  intro l0 l4 l6 h t0 hx
  unfold fX9_fails_197 at hx
  refine V.aload_n (j := 0) dX9_fails_197 rfl rfl rfl ?_
  refine V.lload (j := 1) dX9_fails_198 rfl rfl ?_
  refine V.lload (j := 2) dX9_fails_200 rfl rfl ?_
  obtain ⟨h15, q14, hx⟩ := ob_some hx
  refine U.callV (As := [.long l4, .long l6]) (rest := []) (st' := []) hE.1 (mX9_fraction hE t0 q14) mic_X9_fraction rfl t0 (by decide) rfl rfl wq_m_X9_212 wq_i_yX9_fraction wq_s_yX9_fraction ⟨Nat.le_of_ble_eq_true rfl, Nat.le_of_ble_eq_true rfl⟩ (Nat.le_of_ble_eq_true rfl) dX9_fails_202 rfl rfl rfl ?_
  refine V.iconst dX9_fails_205 rfl ki_1 ?_
  obtain rfl := Option.some.inj hx
  exact U.retI rfl rfl rfl rfl dX9_fails_206
set_option maxRecDepth 100000 in
set_option maxHeartbeats 4000000 in
theorem vX9_fails_156 {l : Launch} {G : GG} {EX : State → Prop} (hE : EXB G EX) {r : Int32 × AH} {k112 : Nat → Int32 → Int32 → Int32 → Int64 → Int64 → Int32 → Int64 → Int32 → AH → Option (Int32 × AH)} {k165 : Nat → Int32 → Int32 → Int32 → Int64 → Int64 → Int32 → Int64 → AH → Option (Int32 × AH)} (hk112 : ∀ (l0 : Nat) (l1 : Int32) (l2 : Int32) (l3 : Int32) (l4 : Int64) (l6 : Int64) (l8 : Int32) (l9 : Int64) (l11 : Int32) (h : AH) (t0 : KD l0 = 8), k112 l0 l1 l2 l3 l4 l6 l8 l9 l11 h = some r → U l G EX mi_X9_fails 7 168 (some (.int r.1)) r.2 112 [(0, .ref (G.1 + l0)), (1, .int l1), (2, .int l2), (3, .int l3), (4, .long l4), (6, .long l6), (8, .int l8), (9, .long l9), (11, .int l11)] [] h) (hk165 : ∀ (l0 : Nat) (l1 : Int32) (l2 : Int32) (l3 : Int32) (l4 : Int64) (l6 : Int64) (l8 : Int32) (l9 : Int64) (h : AH) (t0 : KD l0 = 8), k165 l0 l1 l2 l3 l4 l6 l8 l9 h = some r → U l G EX mi_X9_fails 7 168 (some (.int r.1)) r.2 165 [(0, .ref (G.1 + l0)), (1, .int l1), (2, .int l2), (3, .int l3), (4, .long l4), (6, .long l6), (8, .int l8), (9, .long l9)] [] h) : ∀ (l0 : Nat) (l1 : Int32) (l2 : Int32) (l3 : Int32) (l4 : Int64) (l6 : Int64) (l8 : Int32) (l11 : Int32) (s0 : Int64) (s1 : Int64) (h : AH) (t0 : KD l0 = 8), fX9_fails_156 k112 k165 l0 l1 l2 l3 l4 l6 l8 l11 s0 s1 h = some r → U l G EX mi_X9_fails 7 168 (some (.int r.1)) r.2 156 [(0, .ref (G.1 + l0)), (1, .int l1), (2, .int l2), (3, .int l3), (4, .long l4), (6, .long l6), (8, .int l8), (11, .int l11)] [.long s1, .long s0] h := by
  intro l0 l1 l2 l3 l4 l6 l8 l11 s0 s1 h t0 hx
  unfold fX9_fails_156 at hx
  refine V.lmul dX9_fails_156 rfl ?_
  refine U.letJ hx (fun v22 hx => ?_)
  refine V.lstore [(9, .long v22), (0, .ref (G.1 + l0)), (1, .int l1), (2, .int l2), (3, .int l3), (4, .long l4), (6, .long l6), (8, .int l8), (11, .int l11)] dX9_fails_157 rfl (Nat.le_of_ble_eq_true rfl) rfl ?_
  refine U.iinc hx (fun v23 => [(11, .int v23), (9, .long v22), (0, .ref (G.1 + l0)), (1, .int l1), (2, .int l2), (3, .int l3), (4, .long l4), (6, .long l6), (8, .int l8)]) (j := 8) rfl (by decide) (Nat.le_of_ble_eq_true rfl) (fun _ => rfl) dX9_fails_159 rfl (fun v23 hx => ?_)
  refine V.goto (q := 112) dX9_fails_162 (by decide) ?_
  refine V.pick [2, 3, 4, 5, 6, 7, 8, 1, 0] rfl ?_
  exact hk112 l0 l1 l2 l3 l4 l6 l8 v22 v23 h t0 hx
set_option maxRecDepth 100000 in
set_option maxHeartbeats 4000000 in
theorem vX9_fails_112 {l : Launch} {G : GG} {EX : State → Prop} (hE : EXB G EX) {r : Int32 × AH} {k165 : Nat → Int32 → Int32 → Int32 → Int64 → Int64 → Int32 → Int64 → AH → Option (Int32 × AH)} (hk165 : ∀ (l0 : Nat) (l1 : Int32) (l2 : Int32) (l3 : Int32) (l4 : Int64) (l6 : Int64) (l8 : Int32) (l9 : Int64) (h : AH) (t0 : KD l0 = 8), k165 l0 l1 l2 l3 l4 l6 l8 l9 h = some r → U l G EX mi_X9_fails 7 168 (some (.int r.1)) r.2 165 [(0, .ref (G.1 + l0)), (1, .int l1), (2, .int l2), (3, .int l3), (4, .long l4), (6, .long l6), (8, .int l8), (9, .long l9)] [] h) : ∀ (n : Nat) (l0 : Nat) (l1 : Int32) (l2 : Int32) (l3 : Int32) (l4 : Int64) (l6 : Int64) (l8 : Int32) (l9 : Int64) (l11 : Int32) (h : AH) (t0 : KD l0 = 8), fX9_fails_112 k165 n l0 l1 l2 l3 l4 l6 l8 l9 l11 h = some r → U l G EX mi_X9_fails 7 168 (some (.int r.1)) r.2 112 [(0, .ref (G.1 + l0)), (1, .int l1), (2, .int l2), (3, .int l3), (4, .long l4), (6, .long l6), (8, .int l8), (9, .long l9), (11, .int l11)] [] h := by
  intro n
  induction n with
  | zero =>
    intro l0 l1 l2 l3 l4 l6 l8 l9 l11 h t0 hx
    have hx : none = some r := hx
    cases hx
  | succ n ih =>
    intro l0 l1 l2 l3 l4 l6 l8 l9 l11 h t0 hx
    rw [fX9_fails_112] at hx
    refine V.iload (j := 8) dX9_fails_112 rfl rfl ?_
    refine V.aload_n (j := 0) dX9_fails_114 rfl rfl rfl ?_
    obtain ⟨v17, q16, hx⟩ := ob_some hx
    refine U.callV (As := []) (rest := [.int l11]) (st' := [.int v17, .int l11]) hE.1 (mX9_many hE t0 q16) mic_X9_many rfl t0 (by decide) rfl rfl wq_m_X9_55 wq_i_yX9_many wq_s_yX9_many ⟨Nat.le_of_ble_eq_true rfl, Nat.le_of_ble_eq_true rfl⟩ (Nat.le_of_ble_eq_true rfl) dX9_fails_115 rfl rfl rfl ?_
    refine V.icmp_ge (tgt := 165) hx dX9_fails_118 (by decide) rfl (fun hx => ?_) (fun hx => ?_)
    · refine V.pick [0, 1, 2, 3, 4, 5, 6, 7] rfl ?_
      exact hk165 l0 l1 l2 l3 l4 l6 l8 l9 h t0 hx
    · refine V.lload (j := 7) dX9_fails_121 rfl rfl ?_
      refine V.iload_n (j := 3) dX9_fails_123 rfl rfl rfl ?_
      refine V.iload (j := 8) dX9_fails_124 rfl rfl ?_
      obtain ⟨v19, q18, hx⟩ := ob_some hx
      refine U.callS (As := [.int l3, .int l11]) (rest := [.long l9]) (st' := [.int v19, .long l9]) hE.1 (mX9_has hE q18) mic_X9_has rfl wq_m_X9_114 wq_t_yX9_has ⟨Nat.le_of_ble_eq_true rfl, Nat.le_of_ble_eq_true rfl⟩ (Nat.le_of_ble_eq_true rfl) dX9_fails_126 rfl rfl rfl ?_
      refine V.if_ne (tgt := 136) hx dX9_fails_129 (by decide) rfl (fun hx => ?_) (fun hx => ?_)
      · refine V.iload (j := 6) dX9_fails_136 rfl rfl ?_
        refine V.iload (j := 8) dX9_fails_138 rfl rfl ?_
        obtain ⟨v21, q20, hx⟩ := ob_some hx
        refine U.callS (As := [.int l8, .int l11]) (rest := [.long l9]) (st' := [.int v21, .long l9]) hE.1 (mX9_has hE q20) mic_X9_has rfl wq_m_X9_114 wq_t_yX9_has ⟨Nat.le_of_ble_eq_true rfl, Nat.le_of_ble_eq_true rfl⟩ (Nat.le_of_ble_eq_true rfl) dX9_fails_140 rfl rfl rfl ?_
        refine V.if_eq (tgt := 154) hx dX9_fails_143 (by decide) rfl (fun hx => ?_) (fun hx => ?_)
        · refine V.iload_n (j := 2) dX9_fails_154 rfl rfl rfl ?_
          refine V.i2l dX9_fails_155 rfl ?_
          refine V.pick [0, 1, 2, 3, 4, 5, 6, 8] rfl ?_
          exact vX9_fails_156 hE (ih) hk165 l0 l1 l2 l3 l4 l6 l8 l11 l9 l2.toInt64 h t0 hx
        · refine V.bipush dX9_fails_146 rfl kb_10 ?_
          refine V.iload_n (j := 2) dX9_fails_148 rfl rfl rfl ?_
          refine V.isub dX9_fails_149 rfl ?_
          refine V.i2l dX9_fails_150 rfl ?_
          refine V.goto (q := 156) dX9_fails_151 (by decide) ?_
          refine V.pick [0, 1, 2, 3, 4, 5, 6, 8] rfl ?_
          exact vX9_fails_156 hE (ih) hk165 l0 l1 l2 l3 l4 l6 l8 l11 l9 (((10 : Int32) - l2).toInt64) h t0 hx
      · refine V.lconst dX9_fails_132 rfl kl_1 ?_
        refine V.goto (q := 156) dX9_fails_133 (by decide) ?_
        refine V.pick [0, 1, 2, 3, 4, 5, 6, 8] rfl ?_
        exact vX9_fails_156 hE (ih) hk165 l0 l1 l2 l3 l4 l6 l8 l11 l9 (1 : Int64) h t0 hx
set_option maxRecDepth 100000 in
set_option maxHeartbeats 4000000 in
theorem vX9_fails_107 {l : Launch} {G : GG} {EX : State → Prop} (hE : EXB G EX) {r : Int32 × AH} {k82 : Nat → Int32 → Int32 → Int32 → Int64 → Int64 → Int32 → AH → Option (Int32 × AH)} (hk82 : ∀ (l0 : Nat) (l1 : Int32) (l2 : Int32) (l3 : Int32) (l4 : Int64) (l6 : Int64) (l8 : Int32) (h : AH) (t0 : KD l0 = 8), k82 l0 l1 l2 l3 l4 l6 l8 h = some r → U l G EX mi_X9_fails 7 168 (some (.int r.1)) r.2 82 [(0, .ref (G.1 + l0)), (1, .int l1), (2, .int l2), (3, .int l3), (4, .long l4), (6, .long l6), (8, .int l8)] [] h) : ∀ (l0 : Nat) (l1 : Int32) (l2 : Int32) (l3 : Int32) (l4 : Int64) (l6 : Int64) (l8 : Int32) (s0 : Int64) (h : AH) (t0 : KD l0 = 8), fX9_fails_107 k82 l0 l1 l2 l3 l4 l6 l8 s0 h = some r → U l G EX mi_X9_fails 7 168 (some (.int r.1)) r.2 107 [(0, .ref (G.1 + l0)), (1, .int l1), (2, .int l2), (3, .int l3), (4, .long l4), (6, .long l6), (8, .int l8)] [.long s0] h := by
  intro l0 l1 l2 l3 l4 l6 l8 s0 h t0 hx
  unfold fX9_fails_107 at hx
  refine V.lstore [(9, .long s0), (0, .ref (G.1 + l0)), (1, .int l1), (2, .int l2), (3, .int l3), (4, .long l4), (6, .long l6), (8, .int l8)] dX9_fails_107 rfl (Nat.le_of_ble_eq_true rfl) rfl ?_
  refine V.iconst dX9_fails_109 rfl ki_0 ?_
  refine V.istore [(11, .int (0 : Int32)), (9, .long s0), (0, .ref (G.1 + l0)), (1, .int l1), (2, .int l2), (3, .int l3), (4, .long l4), (6, .long l6), (8, .int l8)] dX9_fails_110 rfl (Nat.le_of_ble_eq_true rfl) rfl ?_
  refine V.pick [2, 3, 4, 5, 6, 7, 8, 1, 0] rfl ?_
  refine vX9_fails_112 hE (fun w24 w25 w26 w27 w28 w29 w30 w31 h32 t33 hx => ?_) FU l0 l1 l2 l3 l4 l6 l8 s0 (0 : Int32) h t0 hx
  · refine V.lload (j := 4) dX9_fails_165 rfl rfl ?_
    refine V.lload (j := 7) dX9_fails_167 rfl rfl ?_
    refine V.aload_n (j := 0) dX9_fails_169 rfl rfl rfl ?_
    refine U.getP fl_X9_7 t33 dX9_fails_170 rfl ?_
    refine V.iload_n (j := 1) dX9_fails_173 rfl rfl rfl ?_
    refine V.iload (j := 6) dX9_fails_174 rfl rfl ?_
    refine V.aload_n (j := 0) dX9_fails_176 rfl rfl rfl ?_
    obtain ⟨v35, q34, hx⟩ := ob_some hx
    refine U.callV (As := []) (rest := [.int w30, .int w25, .ref (G.1 + (PC w24 0)), .long w31, .long w28]) (st' := [.int v35, .int w30, .int w25, .ref (G.1 + (PC w24 0)), .long w31, .long w28]) hE.1 (mX9_stepNow hE t33 q34) mic_X9_stepNow rfl t33 (by decide) rfl rfl wq_m_X9_169 wq_i_yX9_stepNow wq_s_yX9_stepNow ⟨Nat.le_of_ble_eq_true rfl, Nat.le_of_ble_eq_true rfl⟩ (Nat.le_of_ble_eq_true rfl) dX9_fails_177 rfl rfl rfl ?_
    obtain ⟨v37, q36, hx⟩ := ob_some hx
    refine U.callS (As := [.ref (G.1 + (PC w24 0)), .int w25, .int w30, .int v35]) (rest := [.long w31, .long w28]) (st' := [.int v37, .long w31, .long w28]) hE.1 (mX9_whoSees hE (ty_X9_0 t33) q36) mic_X9_whoSees rfl wq_m_X9_137 wq_t_yX9_whoSees ⟨Nat.le_of_ble_eq_true rfl, Nat.le_of_ble_eq_true rfl⟩ (Nat.le_of_ble_eq_true rfl) dX9_fails_180 rfl rfl rfl ?_
    obtain ⟨v39, q38, hx⟩ := ob_some hx
    refine U.callS (As := [.int v37]) (rest := [.long w31, .long w28]) (st' := [.int v39, .long w31, .long w28]) hE.1 (mX9_bits hE q38) mic_X9_bits rfl wq_m_X9_183 wq_t_yX9_bits ⟨Nat.le_of_ble_eq_true rfl, Nat.le_of_ble_eq_true rfl⟩ (Nat.le_of_ble_eq_true rfl) dX9_fails_183 rfl rfl rfl ?_
    refine V.i2l dX9_fails_186 rfl ?_
    refine V.lmul dX9_fails_187 rfl ?_
    refine V.ladd dX9_fails_188 rfl ?_
    refine U.letJ hx (fun v40 hx => ?_)
    refine V.lstore [(4, .long v40), (0, .ref (G.1 + w24)), (1, .int w25), (2, .int w26), (3, .int w27), (6, .long w29), (8, .int w30), (9, .long w31)] dX9_fails_189 rfl (Nat.le_of_ble_eq_true rfl) rfl ?_
    refine U.iinc hx (fun v41 => [(8, .int v41), (4, .long v40), (0, .ref (G.1 + w24)), (1, .int w25), (2, .int w26), (3, .int w27), (6, .long w29), (9, .long w31)]) (j := 6) rfl (by decide) (Nat.le_of_ble_eq_true rfl) (fun _ => rfl) dX9_fails_191 rfl (fun v41 hx => ?_)
    refine V.goto (q := 82) dX9_fails_194 (by decide) ?_
    refine V.pick [2, 3, 4, 5, 1, 6, 0] rfl ?_
    exact hk82 w24 w25 w26 w27 v40 w29 v41 h32 t33 hx
set_option maxRecDepth 100000 in
set_option maxHeartbeats 4000000 in
theorem vX9_fails_82 {l : Launch} {G : GG} {EX : State → Prop} (hE : EXB G EX) {r : Int32 × AH} : ∀ (n : Nat) (l0 : Nat) (l1 : Int32) (l2 : Int32) (l3 : Int32) (l4 : Int64) (l6 : Int64) (l8 : Int32) (h : AH) (t0 : KD l0 = 8), fX9_fails_82 n l0 l1 l2 l3 l4 l6 l8 h = some r → U l G EX mi_X9_fails 7 168 (some (.int r.1)) r.2 82 [(0, .ref (G.1 + l0)), (1, .int l1), (2, .int l2), (3, .int l3), (4, .long l4), (6, .long l6), (8, .int l8)] [] h := by
  intro n
  induction n with
  | zero =>
    intro l0 l1 l2 l3 l4 l6 l8 h t0 hx
    have hx : none = some r := hx
    cases hx
  | succ n ih =>
    intro l0 l1 l2 l3 l4 l6 l8 h t0 hx
    rw [fX9_fails_82] at hx
    refine V.iload (j := 6) dX9_fails_82 rfl rfl ?_
    refine V.iconst dX9_fails_84 rfl ki_1 ?_
    refine V.aload_n (j := 0) dX9_fails_85 rfl rfl rfl ?_
    obtain ⟨v13, q12, hx⟩ := ob_some hx
    refine U.callV (As := []) (rest := [.int (1 : Int32), .int l8]) (st' := [.int v13, .int (1 : Int32), .int l8]) hE.1 (mX9_many hE t0 q12) mic_X9_many rfl t0 (by decide) rfl rfl wq_m_X9_55 wq_i_yX9_many wq_s_yX9_many ⟨Nat.le_of_ble_eq_true rfl, Nat.le_of_ble_eq_true rfl⟩ (Nat.le_of_ble_eq_true rfl) dX9_fails_86 rfl rfl rfl ?_
    refine V.ishl dX9_fails_89 rfl ?_
    refine V.icmp_ge (tgt := 197) hx dX9_fails_90 (by decide) rfl (fun hx => ?_) (fun hx => ?_)
    · refine V.pick [0, 4, 5] rfl ?_
      exact vX9_fails_197 hE l0 l4 l6 h t0 hx
    · refine V.iload (j := 6) dX9_fails_93 rfl rfl ?_
      refine V.iload_n (j := 3) dX9_fails_95 rfl rfl rfl ?_
      refine V.iconst dX9_fails_96 rfl ki_m1 ?_
      refine V.ixor dX9_fails_97 rfl ?_
      refine V.iand dX9_fails_98 rfl ?_
      refine V.if_ne (tgt := 106) hx dX9_fails_99 (by decide) rfl (fun hx => ?_) (fun hx => ?_)
      · refine V.lconst dX9_fails_106 rfl kl_0 ?_
        exact vX9_fails_107 hE (ih) l0 l1 l2 l3 l4 l6 l8 (0 : Int64) h t0 hx
      · refine V.lconst dX9_fails_102 rfl kl_1 ?_
        refine V.goto (q := 107) dX9_fails_103 (by decide) ?_
        exact vX9_fails_107 hE (ih) l0 l1 l2 l3 l4 l6 l8 (1 : Int64) h t0 hx
set_option maxRecDepth 100000 in
set_option maxHeartbeats 4000000 in
theorem vX9_fails_79 {l : Launch} {G : GG} {EX : State → Prop} (hE : EXB G EX) {r : Int32 × AH} : ∀ (l0 : Nat) (l1 : Int32) (l2 : Int32) (l3 : Int32) (l4 : Int64) (l6 : Int64) (h : AH) (t0 : KD l0 = 8), fX9_fails_79 l0 l1 l2 l3 l4 l6 h = some r → U l G EX mi_X9_fails 7 168 (some (.int r.1)) r.2 79 [(0, .ref (G.1 + l0)), (1, .int l1), (2, .int l2), (3, .int l3), (4, .long l4), (6, .long l6)] [] h := by
  intro l0 l1 l2 l3 l4 l6 h t0 hx
  unfold fX9_fails_79 at hx
  refine V.iconst dX9_fails_79 rfl ki_0 ?_
  refine V.istore [(8, .int (0 : Int32)), (0, .ref (G.1 + l0)), (1, .int l1), (2, .int l2), (3, .int l3), (4, .long l4), (6, .long l6)] dX9_fails_80 rfl (Nat.le_of_ble_eq_true rfl) rfl ?_
  refine V.pick [1, 2, 3, 4, 5, 6, 0] rfl ?_
  exact vX9_fails_82 hE FU l0 l1 l2 l3 l4 l6 (0 : Int32) h t0 hx
set_option maxRecDepth 100000 in
set_option maxHeartbeats 4000000 in
theorem vX9_fails_70 {l : Launch} {G : GG} {EX : State → Prop} (hE : EXB G EX) {r : Int32 × AH} {k43 : Nat → Int32 → Int32 → Int32 → Int64 → Int64 → Int32 → AH → Option (Int32 × AH)} (hk43 : ∀ (l0 : Nat) (l1 : Int32) (l2 : Int32) (l3 : Int32) (l4 : Int64) (l6 : Int64) (l8 : Int32) (h : AH) (t0 : KD l0 = 8), k43 l0 l1 l2 l3 l4 l6 l8 h = some r → U l G EX mi_X9_fails 7 168 (some (.int r.1)) r.2 43 [(0, .ref (G.1 + l0)), (1, .int l1), (2, .int l2), (3, .int l3), (4, .long l4), (6, .long l6), (8, .int l8)] [] h) : ∀ (l0 : Nat) (l1 : Int32) (l2 : Int32) (l3 : Int32) (l4 : Int64) (l8 : Int32) (s0 : Int64) (s1 : Int64) (h : AH) (t0 : KD l0 = 8), fX9_fails_70 k43 l0 l1 l2 l3 l4 l8 s0 s1 h = some r → U l G EX mi_X9_fails 7 168 (some (.int r.1)) r.2 70 [(0, .ref (G.1 + l0)), (1, .int l1), (2, .int l2), (3, .int l3), (4, .long l4), (8, .int l8)] [.long s1, .long s0] h := by
  intro l0 l1 l2 l3 l4 l8 s0 s1 h t0 hx
  unfold fX9_fails_70 at hx
  refine V.lmul dX9_fails_70 rfl ?_
  refine U.letJ hx (fun v44 hx => ?_)
  refine V.lstore [(6, .long v44), (0, .ref (G.1 + l0)), (1, .int l1), (2, .int l2), (3, .int l3), (4, .long l4), (8, .int l8)] dX9_fails_71 rfl (Nat.le_of_ble_eq_true rfl) rfl ?_
  refine U.iinc hx (fun v45 => [(8, .int v45), (6, .long v44), (0, .ref (G.1 + l0)), (1, .int l1), (2, .int l2), (3, .int l3), (4, .long l4)]) (j := 6) rfl (by decide) (Nat.le_of_ble_eq_true rfl) (fun _ => rfl) dX9_fails_73 rfl (fun v45 hx => ?_)
  refine V.goto (q := 43) dX9_fails_76 (by decide) ?_
  refine V.pick [2, 3, 4, 5, 6, 1, 0] rfl ?_
  exact hk43 l0 l1 l2 l3 l4 v44 v45 h t0 hx
set_option maxRecDepth 100000 in
set_option maxHeartbeats 4000000 in
theorem vX9_fails_43 {l : Launch} {G : GG} {EX : State → Prop} (hE : EXB G EX) {r : Int32 × AH} : ∀ (n : Nat) (l0 : Nat) (l1 : Int32) (l2 : Int32) (l3 : Int32) (l4 : Int64) (l6 : Int64) (l8 : Int32) (h : AH) (t0 : KD l0 = 8), fX9_fails_43 n l0 l1 l2 l3 l4 l6 l8 h = some r → U l G EX mi_X9_fails 7 168 (some (.int r.1)) r.2 43 [(0, .ref (G.1 + l0)), (1, .int l1), (2, .int l2), (3, .int l3), (4, .long l4), (6, .long l6), (8, .int l8)] [] h := by
  intro n
  induction n with
  | zero =>
    intro l0 l1 l2 l3 l4 l6 l8 h t0 hx
    have hx : none = some r := hx
    cases hx
  | succ n ih =>
    intro l0 l1 l2 l3 l4 l6 l8 h t0 hx
    rw [fX9_fails_43] at hx
    refine V.iload (j := 6) dX9_fails_43 rfl rfl ?_
    refine V.aload_n (j := 0) dX9_fails_45 rfl rfl rfl ?_
    obtain ⟨v11, q10, hx⟩ := ob_some hx
    refine U.callV (As := []) (rest := [.int l8]) (st' := [.int v11, .int l8]) hE.1 (mX9_many hE t0 q10) mic_X9_many rfl t0 (by decide) rfl rfl wq_m_X9_55 wq_i_yX9_many wq_s_yX9_many ⟨Nat.le_of_ble_eq_true rfl, Nat.le_of_ble_eq_true rfl⟩ (Nat.le_of_ble_eq_true rfl) dX9_fails_46 rfl rfl rfl ?_
    refine V.icmp_ge (tgt := 79) hx dX9_fails_49 (by decide) rfl (fun hx => ?_) (fun hx => ?_)
    · refine V.pick [0, 1, 2, 3, 4, 5] rfl ?_
      exact vX9_fails_79 hE l0 l1 l2 l3 l4 l6 h t0 hx
    · refine V.lload (j := 5) dX9_fails_52 rfl rfl ?_
      refine V.iload_n (j := 3) dX9_fails_54 rfl rfl rfl ?_
      refine V.iload (j := 6) dX9_fails_55 rfl rfl ?_
      obtain ⟨v43, q42, hx⟩ := ob_some hx
      refine U.callS (As := [.int l3, .int l8]) (rest := [.long l6]) (st' := [.int v43, .long l6]) hE.1 (mX9_has hE q42) mic_X9_has rfl wq_m_X9_114 wq_t_yX9_has ⟨Nat.le_of_ble_eq_true rfl, Nat.le_of_ble_eq_true rfl⟩ (Nat.le_of_ble_eq_true rfl) dX9_fails_57 rfl rfl rfl ?_
      refine V.if_eq (tgt := 69) hx dX9_fails_60 (by decide) rfl (fun hx => ?_) (fun hx => ?_)
      · refine V.lconst dX9_fails_69 rfl kl_1 ?_
        refine V.pick [0, 1, 2, 3, 4, 6] rfl ?_
        exact vX9_fails_70 hE (ih) l0 l1 l2 l3 l4 l8 l6 (1 : Int64) h t0 hx
      · refine V.ldc2_w dX9_fails_63 rfl wq_l_X9_210 ?_
        refine V.goto (q := 70) dX9_fails_66 (by decide) ?_
        refine V.pick [0, 1, 2, 3, 4, 6] rfl ?_
        exact vX9_fails_70 hE (ih) l0 l1 l2 l3 l4 l8 l6 (10 : Int64) h t0 hx
set_option maxRecDepth 100000 in
set_option maxHeartbeats 4000000 in
theorem mX9_fails {l : Launch} {G : GG} {EX : State → Prop} (hE : EXB G EX) {th : Nat} {a1 : Int32} {a2 : Int32} {h : AH} (t0 : KD th = 8) {r : Int32 × AH} (hx : fX9_fails th a1 a2 h = some r) : MetU l G EX mi_X9_fails 7 168 [.ref (G.1 + th), .int a1, .int a2] h (some (.int r.1)) r.2 := by
  refine MetU.of mic_X9_fails.1 (Nat.le_of_ble_eq_true rfl) ?_
  refine show U l G EX mi_X9_fails 7 168 (some (.int r.1)) r.2 0 [(0, .ref (G.1 + th)), (1, .int a1), (2, .int a2)] [] h from ?_
  unfold fX9_fails at hx
  refine V.iload_n (j := 1) dX9_fails_0 rfl rfl rfl ?_
  obtain ⟨v2, q1, hx⟩ := ob_some hx
  refine U.callS (As := [.int a1]) (rest := []) (st' := [.int v2]) hE.1 (mX9_isCell hE q1) mic_X9_isCell rfl wq_m_X9_74 wq_t_yX9_isCell ⟨Nat.le_of_ble_eq_true rfl, Nat.le_of_ble_eq_true rfl⟩ (Nat.le_of_ble_eq_true rfl) dX9_fails_1 rfl rfl rfl ?_
  refine V.if_eq (tgt := 19) hx dX9_fails_4 (by decide) rfl (fun hx => ?_) (fun hx => ?_)
  · refine V.pick [0] rfl ?_
    exact vX9_fails_19 hE th h t0 hx
  · refine V.iload_n (j := 2) dX9_fails_7 rfl rfl rfl ?_
    refine V.i2l dX9_fails_8 rfl ?_
    refine V.lconst dX9_fails_9 rfl kl_0 ?_
    refine V.ldc2_w dX9_fails_10 rfl wq_l_X9_210 ?_
    obtain ⟨v7, q6, hx⟩ := ob_some hx
    refine U.callS (As := [.long a2.toInt64, .long (0 : Int64), .long (10 : Int64)]) (rest := []) (st' := [.int v7]) hE.1 (mX9_in hE q6) mic_X9_in rfl wq_m_X9_59 wq_t_yX9_in ⟨Nat.le_of_ble_eq_true rfl, Nat.le_of_ble_eq_true rfl⟩ (Nat.le_of_ble_eq_true rfl) dX9_fails_13 rfl rfl rfl ?_
    refine V.if_ne (tgt := 26) hx dX9_fails_16 (by decide) rfl (fun hx => ?_) (fun hx => ?_)
    · refine V.aload_n (j := 0) dX9_fails_26 rfl rfl rfl ?_
      refine U.getP fl_X9_7 t0 dX9_fails_27 rfl ?_
      obtain ⟨v9, q8, hx⟩ := ob_some hx
      refine U.callS (As := [.ref (G.1 + (PC th 0))]) (rest := []) (st' := [.int v9]) hE.1 (mX9_isOn hE (ty_X9_0 t0) q8) mic_X9_isOn rfl wq_m_X9_133 wq_t_yX9_isOn ⟨Nat.le_of_ble_eq_true rfl, Nat.le_of_ble_eq_true rfl⟩ (Nat.le_of_ble_eq_true rfl) dX9_fails_30 rfl rfl rfl ?_
      refine V.istore_n [(3, .int v9), (0, .ref (G.1 + th)), (1, .int a1), (2, .int a2)] dX9_fails_33 rfl rfl (Nat.le_of_ble_eq_true rfl) rfl ?_
      refine V.lconst dX9_fails_34 rfl kl_0 ?_
      refine V.lstore [(4, .long (0 : Int64)), (3, .int v9), (0, .ref (G.1 + th)), (1, .int a1), (2, .int a2)] dX9_fails_35 rfl (Nat.le_of_ble_eq_true rfl) rfl ?_
      refine V.lconst dX9_fails_37 rfl kl_1 ?_
      refine V.lstore [(6, .long (1 : Int64)), (4, .long (0 : Int64)), (3, .int v9), (0, .ref (G.1 + th)), (1, .int a1), (2, .int a2)] dX9_fails_38 rfl (Nat.le_of_ble_eq_true rfl) rfl ?_
      refine V.iconst dX9_fails_40 rfl ki_0 ?_
      refine V.istore [(8, .int (0 : Int32)), (6, .long (1 : Int64)), (4, .long (0 : Int64)), (3, .int v9), (0, .ref (G.1 + th)), (1, .int a1), (2, .int a2)] dX9_fails_41 rfl (Nat.le_of_ble_eq_true rfl) rfl ?_
      refine V.pick [4, 5, 6, 3, 2, 1, 0] rfl ?_
      exact vX9_fails_43 hE FU th a1 a2 v9 (0 : Int64) (1 : Int64) (0 : Int32) h t0 hx
    · refine V.pick [0] rfl ?_
      exact vX9_fails_19 hE th h t0 hx
