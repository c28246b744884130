set_option maxRecDepth 100000 in
set_option maxHeartbeats 4000000 in
theorem vX9_of_20 {l : Launch} {G : GG} {EX : State → Prop} (hE : EXB G EX) {r : Int32 × AH} : ∀ (l0 : Nat) (h : AH) (t0 : KD l0 = 8), fX9_of_20 l0 h = some r → U l G EX mi_X9_of 2 46 (some (.int r.1)) r.2 20 [(0, .ref (G.1 + l0))] [] h := by
  intro l0 h t0 hx
  unfold fX9_of_20 at hx
  refine V.aload_n (j := 0) dX9_of_20 rfl rfl rfl ?_
  refine V.bipush dX9_of_21 rfl kb_m2 ?_
  obtain ⟨v5, h4, q3, hx⟩ := ob2_some hx
  refine U.callV (As := [.int (-2 : Int32)]) (rest := []) (st' := [.int v5]) hE.1 (mX9_bad hE t0 q3) mic_X9_bad rfl t0 (by decide) rfl rfl wq_m_X9_78 wq_i_yX9_bad wq_s_yX9_bad ⟨Nat.le_of_ble_eq_true rfl, Nat.le_of_ble_eq_true rfl⟩ (Nat.le_of_ble_eq_true rfl) dX9_of_23 rfl rfl rfl ?_
  obtain rfl := Option.some.inj hx
  exact U.retI rfl rfl rfl rfl dX9_of_26
set_option maxRecDepth 100000 in
set_option maxHeartbeats 4000000 in
theorem mX9_of {l : Launch} {G : GG} {EX : State → Prop} (hE : EXB G EX) {th : Nat} {a1 : Int32} {a2 : Int32} {h : AH} (t0 : KD th = 8) {r : Int32 × AH} (hx : fX9_of th a1 a2 h = some r) : MetU l G EX mi_X9_of 2 46 [.ref (G.1 + th), .int a1, .int a2] h (some (.int r.1)) r.2 := by
  refine MetU.of mic_X9_of.1 (Nat.le_of_ble_eq_true rfl) ?_
  refine show U l G EX mi_X9_of 2 46 (some (.int r.1)) r.2 0 [(0, .ref (G.1 + th)), (1, .int a1), (2, .int a2)] [] h from ?_
  unfold fX9_of at hx
  refine V.aload_n (j := 0) dX9_of_0 rfl rfl rfl ?_
  refine V.iload_n (j := 1) dX9_of_1 rfl rfl rfl ?_
  obtain ⟨v2, q1, hx⟩ := ob_some hx
  refine U.callV (As := [.int a1]) (rest := []) (st' := [.int v2]) hE.1 (mX9_isShow hE t0 q1) mic_X9_isShow rfl t0 (by decide) rfl rfl wq_m_X9_153 wq_i_yX9_isShow wq_s_yX9_isShow ⟨Nat.le_of_ble_eq_true rfl, Nat.le_of_ble_eq_true rfl⟩ (Nat.le_of_ble_eq_true rfl) dX9_of_2 rfl rfl rfl ?_
  refine V.if_eq (tgt := 20) hx dX9_of_5 (by decide) rfl (fun hx => ?_) (fun hx => ?_)
  · refine V.pick [0] rfl ?_
    exact vX9_of_20 hE th h t0 hx
  · refine V.iload_n (j := 2) dX9_of_8 rfl rfl rfl ?_
    refine V.i2l dX9_of_9 rfl ?_
    refine V.lconst dX9_of_10 rfl kl_0 ?_
    refine V.ldc2_w dX9_of_11 rfl wq_l_X9_165 ?_
    obtain ⟨v7, q6, hx⟩ := ob_some hx
    refine U.callS (As := [.long a2.toInt64, .long (0 : Int64), .long (3 : Int64)]) (rest := []) (st' := [.int v7]) hE.1 (mX9_in hE q6) mic_X9_in rfl wq_m_X9_59 wq_t_yX9_in ⟨Nat.le_of_ble_eq_true rfl, Nat.le_of_ble_eq_true rfl⟩ (Nat.le_of_ble_eq_true rfl) dX9_of_14 rfl rfl rfl ?_
    refine V.if_ne (tgt := 27) hx dX9_of_17 (by decide) rfl (fun hx => ?_) (fun hx => ?_)
    · refine V.iload_n (j := 2) dX9_of_27 rfl rfl rfl ?_
      refine sw_case (ci := 0) hx (by decide) (fun c7 hx => ?_) (fun c7 hx => ?_)
      · refine V.tableIn (tgt := 56) dX9_of_28 (by rw [c7]; decide) (by rw [c7]; decide) (by rw [c7]; rfl) (by decide) ?_
        refine V.aload_n (j := 0) dX9_of_56 rfl rfl rfl ?_
        refine U.getP fl_X9_7 t0 dX9_of_57 rfl ?_
        refine V.bipush dX9_of_60 rfl kb_30 ?_
        refine V.iload_n (j := 1) dX9_of_62 rfl rfl rfl ?_
        refine V.iadd dX9_of_63 rfl ?_
        refine U.iald hx (ty_X9_0 t0) dX9_of_64 rfl (fun hx => ?_)
        obtain rfl := Option.some.inj hx
        exact U.retI rfl rfl rfl rfl dX9_of_65
      refine sw_case (ci := 1) hx (by decide) (fun c8 hx => ?_) (fun c8 hx => ?_)
      · refine V.tableIn (tgt := 66) dX9_of_28 (by rw [c8]; decide) (by rw [c8]; decide) (by rw [c8]; rfl) (by decide) ?_
        refine V.aload_n (j := 0) dX9_of_66 rfl rfl rfl ?_
        refine U.getP fl_X9_7 t0 dX9_of_67 rfl ?_
        refine V.bipush dX9_of_70 rfl kb_14 ?_
        refine V.iload_n (j := 1) dX9_of_72 rfl rfl rfl ?_
        refine V.iadd dX9_of_73 rfl ?_
        refine U.iald hx (ty_X9_0 t0) dX9_of_74 rfl (fun hx => ?_)
        obtain rfl := Option.some.inj hx
        exact U.retI rfl rfl rfl rfl dX9_of_75
      refine sw_case (ci := 2) hx (by decide) (fun c9 hx => ?_) (fun c9 hx => ?_)
      · refine V.tableIn (tgt := 76) dX9_of_28 (by rw [c9]; decide) (by rw [c9]; decide) (by rw [c9]; rfl) (by decide) ?_
        refine V.aload_n (j := 0) dX9_of_76 rfl rfl rfl ?_
        refine U.getP fl_X9_7 t0 dX9_of_77 rfl ?_
        refine V.bipush dX9_of_80 rfl kb_35 ?_
        refine V.iload_n (j := 1) dX9_of_82 rfl rfl rfl ?_
        refine V.iadd dX9_of_83 rfl ?_
        refine U.iald hx (ty_X9_0 t0) dX9_of_84 rfl (fun hx => ?_)
        obtain rfl := Option.some.inj hx
        exact U.retI rfl rfl rfl rfl dX9_of_85
      refine V.tableOut (tgt := 86) dX9_of_28 (by omega) (by decide) ?_
      refine V.aload_n (j := 0) dX9_of_86 rfl rfl rfl ?_
      refine U.getP fl_X9_7 t0 dX9_of_87 rfl ?_
      refine V.bipush dX9_of_90 rfl kb_25 ?_
      refine V.iload_n (j := 1) dX9_of_92 rfl rfl rfl ?_
      refine V.iadd dX9_of_93 rfl ?_
      refine U.iald hx (ty_X9_0 t0) dX9_of_94 rfl (fun hx => ?_)
      obtain rfl := Option.some.inj hx
      exact U.retI rfl rfl rfl rfl dX9_of_95
    · refine V.pick [0] rfl ?_
      exact vX9_of_20 hE th h t0 hx
set_option maxRecDepth 100000 in
set_option maxHeartbeats 4000000 in
theorem vX9_about_20 {l : Launch} {G : GG} {EX : State → Prop} (hE : EXB G EX) {r : Int32 × AH} : ∀ (l0 : Nat) (h : AH) (t0 : KD l0 = 8), fX9_about_20 l0 h = some r → U l G EX mi_X9_about 2 46 (some (.int r.1)) r.2 20 [(0, .ref (G.1 + l0))] [] h := by
  intro l0 h t0 hx
  unfold fX9_about_20 at hx
  refine V.aload_n (j := 0) dX9_about_20 rfl rfl rfl ?_
  refine V.bipush dX9_about_21 rfl kb_m2 ?_
  obtain ⟨v5, h4, q3, hx⟩ := ob2_some hx
  refine U.callV (As := [.int (-2 : Int32)]) (rest := []) (st' := [.int v5]) hE.1 (mX9_bad hE t0 q3) mic_X9_bad rfl t0 (by decide) rfl rfl wq_m_X9_78 wq_i_yX9_bad wq_s_yX9_bad ⟨Nat.le_of_ble_eq_true rfl, Nat.le_of_ble_eq_true rfl⟩ (Nat.le_of_ble_eq_true rfl) dX9_about_23 rfl rfl rfl ?_
  obtain rfl := Option.some.inj hx
  exact U.retI rfl rfl rfl rfl dX9_about_26
set_option maxRecDepth 100000 in
set_option maxHeartbeats 4000000 in
theorem vX9_about_52 {l : Launch} {G : GG} {EX : State → Prop} (hE : EXB G EX) {r : Int32 × AH} : ∀ (l1 : Int32) (s0 : Nat) (s1 : Int32) (h : AH) (ts0 : KD s0 = 9), fX9_about_52 l1 s0 s1 h = some r → U l G EX mi_X9_about 2 46 (some (.int r.1)) r.2 52 [(1, .int l1)] [.int s1, .ref (G.1 + s0)] h := by
  intro l1 s0 s1 h ts0 hx
  unfold fX9_about_52 at hx
  refine V.iload_n (j := 0) dX9_about_52 rfl rfl rfl ?_
  refine V.iadd dX9_about_53 rfl ?_
  refine U.iald hx ts0 dX9_about_54 rfl (fun hx => ?_)
  obtain rfl := Option.some.inj hx
  exact U.retI rfl rfl rfl rfl dX9_about_55
set_option maxRecDepth 100000 in
set_option maxHeartbeats 4000000 in
theorem mX9_about {l : Launch} {G : GG} {EX : State → Prop} (hE : EXB G EX) {th : Nat} {a1 : Int32} {a2 : Int32} {h : AH} (t0 : KD th = 8) {r : Int32 × AH} (hx : fX9_about th a1 a2 h = some r) : MetU l G EX mi_X9_about 2 46 [.ref (G.1 + th), .int a1, .int a2] h (some (.int r.1)) r.2 := by
  refine MetU.of mic_X9_about.1 (Nat.le_of_ble_eq_true rfl) ?_
  refine show U l G EX mi_X9_about 2 46 (some (.int r.1)) r.2 0 [(0, .ref (G.1 + th)), (1, .int a1), (2, .int a2)] [] h from ?_
  unfold fX9_about at hx
  refine V.aload_n (j := 0) dX9_about_0 rfl rfl rfl ?_
  refine V.iload_n (j := 1) dX9_about_1 rfl rfl rfl ?_
  obtain ⟨v2, q1, hx⟩ := ob_some hx
  refine U.callV (As := [.int a1]) (rest := []) (st' := [.int v2]) hE.1 (mX9_isWatcher hE t0 q1) mic_X9_isWatcher rfl t0 (by decide) rfl rfl wq_m_X9_159 wq_i_yX9_isWatcher wq_s_yX9_isWatcher ⟨Nat.le_of_ble_eq_true rfl, Nat.le_of_ble_eq_true rfl⟩ (Nat.le_of_ble_eq_true rfl) dX9_about_2 rfl rfl rfl ?_
  refine V.if_eq (tgt := 20) hx dX9_about_5 (by decide) rfl (fun hx => ?_) (fun hx => ?_)
  · refine V.pick [0] rfl ?_
    exact vX9_about_20 hE th h t0 hx
  · refine V.iload_n (j := 2) dX9_about_8 rfl rfl rfl ?_
    refine V.i2l dX9_about_9 rfl ?_
    refine V.lconst dX9_about_10 rfl kl_0 ?_
    refine V.ldc2_w dX9_about_11 rfl wq_l_X9_167 ?_
    obtain ⟨v7, q6, hx⟩ := ob_some hx
    refine U.callS (As := [.long a2.toInt64, .long (0 : Int64), .long (2 : Int64)]) (rest := []) (st' := [.int v7]) hE.1 (mX9_in hE q6) mic_X9_in rfl wq_m_X9_59 wq_t_yX9_in ⟨Nat.le_of_ble_eq_true rfl, Nat.le_of_ble_eq_true rfl⟩ (Nat.le_of_ble_eq_true rfl) dX9_about_14 rfl rfl rfl ?_
    refine V.if_ne (tgt := 27) hx dX9_about_17 (by decide) rfl (fun hx => ?_) (fun hx => ?_)
    · refine V.aload_n (j := 0) dX9_about_27 rfl rfl rfl ?_
      refine U.getP fl_X9_7 t0 dX9_about_28 rfl ?_
      refine V.iload_n (j := 2) dX9_about_31 rfl rfl rfl ?_
      refine V.if_ne (tgt := 40) hx dX9_about_32 (by decide) rfl (fun hx => ?_) (fun hx => ?_)
      · refine V.iload_n (j := 2) dX9_about_40 rfl rfl rfl ?_
        refine V.iconst dX9_about_41 rfl ki_1 ?_
        refine V.icmp_ne (tgt := 50) hx dX9_about_42 (by decide) rfl (fun hx => ?_) (fun hx => ?_)
        · refine V.bipush dX9_about_50 rfl kb_6 ?_
          refine V.pick [1] rfl ?_
          exact vX9_about_52 hE a1 (PC th 0) (6 : Int32) h (ty_X9_0 t0) hx
        · refine V.bipush dX9_about_45 rfl kb_19 ?_
          refine V.goto (q := 52) dX9_about_47 (by decide) ?_
          refine V.pick [1] rfl ?_
          exact vX9_about_52 hE a1 (PC th 0) (19 : Int32) h (ty_X9_0 t0) hx
      · refine V.bipush dX9_about_35 rfl kb_40 ?_
        refine V.goto (q := 52) dX9_about_37 (by decide) ?_
        refine V.pick [1] rfl ?_
        exact vX9_about_52 hE a1 (PC th 0) (40 : Int32) h (ty_X9_0 t0) hx
    · refine V.pick [0] rfl ?_
      exact vX9_about_20 hE th h t0 hx
set_option maxRecDepth 100000 in
set_option maxHeartbeats 4000000 in
theorem vX9_pull_40 {l : Launch} {G : GG} {EX : State → Prop} (hE : EXB G EX) {r : Int32 × AH} : ∀ (l0 : Nat) (h : AH) (t0 : KD l0 = 8), fX9_pull_40 l0 h = some r → U l G EX mi_X9_pull 4 92 (some (.int r.1)) r.2 40 [(0, .ref (G.1 + l0))] [] h := by
  intro l0 h t0 hx
  unfold fX9_pull_40 at hx
  refine V.aload_n (j := 0) dX9_pull_40 rfl rfl rfl ?_
  refine V.bipush dX9_pull_41 rfl kb_m2 ?_
  obtain ⟨v5, h4, q3, hx⟩ := ob2_some hx
  refine U.callV (As := [.int (-2 : Int32)]) (rest := []) (st' := [.int v5]) hE.1 (mX9_bad hE t0 q3) mic_X9_bad rfl t0 (by decide) rfl rfl wq_m_X9_78 wq_i_yX9_bad wq_s_yX9_bad ⟨Nat.le_of_ble_eq_true rfl, Nat.le_of_ble_eq_true rfl⟩ (Nat.le_of_ble_eq_true rfl) dX9_pull_43 rfl rfl rfl ?_
  obtain rfl := Option.some.inj hx
  exact U.retI rfl rfl rfl rfl dX9_pull_46
set_option maxRecDepth 100000 in
set_option maxHeartbeats 4000000 in
theorem mX9_pull {l : Launch} {G : GG} {EX : State → Prop} (hE : EXB G EX) {th : Nat} {a1 : Int32} {a2 : Int32} {h : AH} (t0 : KD th = 8) {r : Int32 × AH} (hx : fX9_pull th a1 a2 h = some r) : MetU l G EX mi_X9_pull 4 92 [.ref (G.1 + th), .int a1, .int a2] h (some (.int r.1)) r.2 := by
  refine MetU.of mic_X9_pull.1 (Nat.le_of_ble_eq_true rfl) ?_
  refine show U l G EX mi_X9_pull 4 92 (some (.int r.1)) r.2 0 [(0, .ref (G.1 + th)), (1, .int a1), (2, .int a2)] [] h from ?_
  unfold fX9_pull at hx
  refine V.aload_n (j := 0) dX9_pull_0 rfl rfl rfl ?_
  refine V.iload_n (j := 1) dX9_pull_1 rfl rfl rfl ?_
  obtain ⟨v2, q1, hx⟩ := ob_some hx
  refine U.callV (As := [.int a1]) (rest := []) (st' := [.int v2]) hE.1 (mX9_isShow hE t0 q1) mic_X9_isShow rfl t0 (by decide) rfl rfl wq_m_X9_153 wq_i_yX9_isShow wq_s_yX9_isShow ⟨Nat.le_of_ble_eq_true rfl, Nat.le_of_ble_eq_true rfl⟩ (Nat.le_of_ble_eq_true rfl) dX9_pull_2 rfl rfl rfl ?_
  refine V.if_eq (tgt := 40) hx dX9_pull_5 (by decide) rfl (fun hx => ?_) (fun hx => ?_)
  · refine V.pick [0] rfl ?_
    exact vX9_pull_40 hE th h t0 hx
  · refine V.aload_n (j := 0) dX9_pull_8 rfl rfl rfl ?_
    refine V.iload_n (j := 2) dX9_pull_9 rfl rfl rfl ?_
    obtain ⟨v7, q6, hx⟩ := ob_some hx
    refine U.callV (As := [.int a2]) (rest := []) (st' := [.int v7]) hE.1 (mX9_isWatcher hE t0 q6) mic_X9_isWatcher rfl t0 (by decide) rfl rfl wq_m_X9_159 wq_i_yX9_isWatcher wq_s_yX9_isWatcher ⟨Nat.le_of_ble_eq_true rfl, Nat.le_of_ble_eq_true rfl⟩ (Nat.le_of_ble_eq_true rfl) dX9_pull_10 rfl rfl rfl ?_
    refine V.if_eq (tgt := 40) hx dX9_pull_13 (by decide) rfl (fun hx => ?_) (fun hx => ?_)
    · refine V.pick [0] rfl ?_
      exact vX9_pull_40 hE th h t0 hx
    · refine V.aload_n (j := 0) dX9_pull_16 rfl rfl rfl ?_
      refine U.getP fl_X9_7 t0 dX9_pull_17 rfl ?_
      refine V.iload_n (j := 1) dX9_pull_20 rfl rfl rfl ?_
      refine V.aload_n (j := 0) dX9_pull_21 rfl rfl rfl ?_
      refine U.getP fl_X9_7 t0 dX9_pull_22 rfl ?_
      refine V.bipush dX9_pull_25 rfl kb_19 ?_
      refine V.iload_n (j := 2) dX9_pull_27 rfl rfl rfl ?_
      refine V.iadd dX9_pull_28 rfl ?_
      refine U.iald hx (ty_X9_0 t0) dX9_pull_29 rfl (fun hx => ?_)
      refine V.aload_n (j := 0) dX9_pull_30 rfl rfl rfl ?_
      obtain ⟨v9, q8, hx⟩ := ob_some hx
      refine U.callV (As := []) (rest := [.int (hI h (PC th 0) (ix ((19 : Int32) + a2))), .int a1, .ref (G.1 + (PC th 0))]) (st' := [.int v9, .int (hI h (PC th 0) (ix ((19 : Int32) + a2))), .int a1, .ref (G.1 + (PC th 0))]) hE.1 (mX9_stepNow hE t0 q8) mic_X9_stepNow rfl t0 (by decide) rfl rfl wq_m_X9_169 wq_i_yX9_stepNow wq_s_yX9_stepNow ⟨Nat.le_of_ble_eq_true rfl, Nat.le_of_ble_eq_true rfl⟩ (Nat.le_of_ble_eq_true rfl) dX9_pull_31 rfl rfl rfl ?_
      obtain ⟨v11, q10, hx⟩ := ob_some hx
      refine U.callS (As := [.ref (G.1 + (PC th 0)), .int a1, .int (hI h (PC th 0) (ix ((19 : Int32) + a2))), .int v9]) (rest := []) (st' := [.int v11]) hE.1 (mX9_pullAt hE (ty_X9_0 t0) q10) mic_X9_pullAt rfl wq_m_X9_118 wq_t_yX9_pullAt ⟨Nat.le_of_ble_eq_true rfl, Nat.le_of_ble_eq_true rfl⟩ (Nat.le_of_ble_eq_true rfl) dX9_pull_34 rfl rfl rfl ?_
      refine V.goto (q := 46) dX9_pull_37 (by decide) ?_
      obtain rfl := Option.some.inj hx
      exact U.retI rfl rfl rfl rfl dX9_pull_46
set_option maxRecDepth 100000 in
set_option maxHeartbeats 4000000 in
theorem vX9_drawn_18 {l : Launch} {G : GG} {EX : State → Prop} (hE : EXB G EX) {r : Int32 × AH} : ∀ (l0 : Nat) (h : AH) (t0 : KD l0 = 8), fX9_drawn_18 l0 h = some r → U l G EX mi_X9_drawn 5 118 (some (.int r.1)) r.2 18 [(0, .ref (G.1 + l0))] [] h := by
  intro l0 h t0 hx
  unfold fX9_drawn_18 at hx
  refine V.aload_n (j := 0) dX9_drawn_18 rfl rfl rfl ?_
  refine V.bipush dX9_drawn_19 rfl kb_m2 ?_
  obtain ⟨v5, h4, q3, hx⟩ := ob2_some hx
  refine U.callV (As := [.int (-2 : Int32)]) (rest := []) (st' := [.int v5]) hE.1 (mX9_bad hE t0 q3) mic_X9_bad rfl t0 (by decide) rfl rfl wq_m_X9_78 wq_i_yX9_bad wq_s_yX9_bad ⟨Nat.le_of_ble_eq_true rfl, Nat.le_of_ble_eq_true rfl⟩ (Nat.le_of_ble_eq_true rfl) dX9_drawn_21 rfl rfl rfl ?_
  obtain rfl := Option.some.inj hx
  exact U.retI rfl rfl rfl rfl dX9_drawn_24
set_option maxRecDepth 100000 in
set_option maxHeartbeats 4000000 in
theorem vX9_drawn_75 {l : Launch} {G : GG} {EX : State → Prop} (hE : EXB G EX) {r : Int32 × AH} : ∀ (n : Nat) (l0 : Nat) (l1 : Int32) (l3 : Int32) (l4 : Int32) (h : AH) (t0 : KD l0 = 8), fX9_drawn_75 n l0 l1 l3 l4 h = some r → U l G EX mi_X9_drawn 5 118 (some (.int r.1)) r.2 75 [(0, .ref (G.1 + l0)), (1, .int l1), (3, .int l3), (4, .int l4)] [] h := by
  intro n
  induction n with
  | zero =>
    intro l0 l1 l3 l4 h t0 hx
    have hx : none = some r := hx
    cases hx
  | succ n ih =>
    intro l0 l1 l3 l4 h t0 hx
    rw [fX9_drawn_75] at hx
    refine V.iload (j := 3) dX9_drawn_75 rfl rfl ?_
    refine V.aload_n (j := 0) dX9_drawn_77 rfl rfl rfl ?_
    obtain ⟨v15, q14, hx⟩ := ob_some hx
    refine U.callV (As := []) (rest := [.int l4]) (st' := [.int v15, .int l4]) hE.1 (mX9_many hE t0 q14) mic_X9_many rfl t0 (by decide) rfl rfl wq_m_X9_55 wq_i_yX9_many wq_s_yX9_many ⟨Nat.le_of_ble_eq_true rfl, Nat.le_of_ble_eq_true rfl⟩ (Nat.le_of_ble_eq_true rfl) dX9_drawn_78 rfl rfl rfl ?_
    refine V.icmp_ge (tgt := 122) hx dX9_drawn_81 (by decide) rfl (fun hx => ?_) (fun hx => ?_)
    · refine V.iconst dX9_drawn_122 rfl ki_m1 ?_
      obtain rfl := Option.some.inj hx
      exact U.retI rfl rfl rfl rfl dX9_drawn_123
    · refine V.iload_n (j := 2) dX9_drawn_84 rfl rfl rfl ?_
      refine V.if_le (tgt := 122) hx dX9_drawn_85 (by decide) rfl (fun hx => ?_) (fun hx => ?_)
      · refine V.iconst dX9_drawn_122 rfl ki_m1 ?_
        obtain rfl := Option.some.inj hx
        exact U.retI rfl rfl rfl rfl dX9_drawn_123
      · refine V.aload_n (j := 0) dX9_drawn_88 rfl rfl rfl ?_
        refine U.getP fl_X9_7 t0 dX9_drawn_89 rfl ?_
        refine V.bipush dX9_drawn_92 rfl kb_25 ?_
        refine V.iload (j := 3) dX9_drawn_94 rfl rfl ?_
        refine V.iadd dX9_drawn_96 rfl ?_
        refine U.iald hx (ty_X9_0 t0) dX9_drawn_97 rfl (fun hx => ?_)
        refine V.iconst dX9_drawn_98 rfl ki_1 ?_
        refine V.icmp_ne (tgt := 116) hx dX9_drawn_99 (by decide) rfl (fun hx => ?_) (fun hx => ?_)
        · refine U.iinc hx (fun v16 => [(4, .int v16), (0, .ref (G.1 + l0)), (1, .int l1), (3, .int l3)]) (j := 3) rfl (by decide) (Nat.le_of_ble_eq_true rfl) (fun _ => rfl) dX9_drawn_116 rfl (fun v16 hx => ?_)
          refine V.goto (q := 75) dX9_drawn_119 (by decide) ?_
          refine V.pick [1, 2, 3, 0] rfl ?_
          exact ih l0 l1 l3 v16 h t0 hx
        · refine V.aload_n (j := 0) dX9_drawn_102 rfl rfl rfl ?_
          refine V.iload (j := 3) dX9_drawn_103 rfl rfl ?_
          refine V.iload_n (j := 1) dX9_drawn_105 rfl rfl rfl ?_
          obtain ⟨v19, h18, q17, hx⟩ := ob2_some hx
          refine U.callV (As := [.int l4, .int l1]) (rest := []) (st' := [.int v19]) hE.1 (mX9_pull hE t0 q17) mic_X9_pull rfl t0 (by decide) rfl rfl wq_m_X9_172 wq_i_yX9_pull wq_s_yX9_pull ⟨Nat.le_of_ble_eq_true rfl, Nat.le_of_ble_eq_true rfl⟩ (Nat.le_of_ble_eq_true rfl) dX9_drawn_106 rfl rfl rfl ?_
          refine V.iload_n (j := 2) dX9_drawn_109 rfl rfl rfl ?_
          refine V.icmp_ne (tgt := 116) hx dX9_drawn_110 (by decide) rfl (fun hx => ?_) (fun hx => ?_)
          · refine U.iinc hx (fun v20 => [(4, .int v20), (0, .ref (G.1 + l0)), (1, .int l1), (3, .int l3)]) (j := 3) rfl (by decide) (Nat.le_of_ble_eq_true rfl) (fun _ => rfl) dX9_drawn_116 rfl (fun v20 hx => ?_)
            refine V.goto (q := 75) dX9_drawn_119 (by decide) ?_
            refine V.pick [1, 2, 3, 0] rfl ?_
            exact ih l0 l1 l3 v20 h18 t0 hx
          · refine V.iload (j := 3) dX9_drawn_113 rfl rfl ?_
            obtain rfl := Option.some.inj hx
            exact U.retI rfl rfl rfl rfl dX9_drawn_115
set_option maxRecDepth 100000 in
set_option maxHeartbeats 4000000 in
theorem mX9_drawn {l : Launch} {G : GG} {EX : State → Prop} (hE : EXB G EX) {th : Nat} {a1 : Int32} {a2 : Int32} {h : AH} (t0 : KD th = 8) {r : Int32 × AH} (hx : fX9_drawn th a1 a2 h = some r) : MetU l G EX mi_X9_drawn 5 118 [.ref (G.1 + th), .int a1, .int a2] h (some (.int r.1)) r.2 := by
  refine MetU.of mic_X9_drawn.1 (Nat.le_of_ble_eq_true rfl) ?_
  refine show U l G EX mi_X9_drawn 5 118 (some (.int r.1)) r.2 0 [(0, .ref (G.1 + th)), (1, .int a1), (2, .int a2)] [] h from ?_
  unfold fX9_drawn at hx
  refine V.aload_n (j := 0) dX9_drawn_0 rfl rfl rfl ?_
  refine V.iload_n (j := 1) dX9_drawn_1 rfl rfl rfl ?_
  obtain ⟨v2, q1, hx⟩ := ob_some hx
  refine U.callV (As := [.int a1]) (rest := []) (st' := [.int v2]) hE.1 (mX9_isWatcher hE t0 q1) mic_X9_isWatcher rfl t0 (by decide) rfl rfl wq_m_X9_159 wq_i_yX9_isWatcher wq_s_yX9_isWatcher ⟨Nat.le_of_ble_eq_true rfl, Nat.le_of_ble_eq_true rfl⟩ (Nat.le_of_ble_eq_true rfl) dX9_drawn_2 rfl rfl rfl ?_
  refine V.if_eq (tgt := 18) hx dX9_drawn_5 (by decide) rfl (fun hx => ?_) (fun hx => ?_)
  · refine V.pick [0] rfl ?_
    exact vX9_drawn_18 hE th h t0 hx
  · refine V.iload_n (j := 2) dX9_drawn_8 rfl rfl rfl ?_
    refine V.i2l dX9_drawn_9 rfl ?_
    refine V.lconst dX9_drawn_10 rfl kl_0 ?_
    refine V.lconst dX9_drawn_11 rfl kl_1 ?_
    obtain ⟨v7, q6, hx⟩ := ob_some hx
    refine U.callS (As := [.long a2.toInt64, .long (0 : Int64), .long (1 : Int64)]) (rest := []) (st' := [.int v7]) hE.1 (mX9_in hE q6) mic_X9_in rfl wq_m_X9_59 wq_t_yX9_in ⟨Nat.le_of_ble_eq_true rfl, Nat.le_of_ble_eq_true rfl⟩ (Nat.le_of_ble_eq_true rfl) dX9_drawn_12 rfl rfl rfl ?_
    refine V.if_ne (tgt := 25) hx dX9_drawn_15 (by decide) rfl (fun hx => ?_) (fun hx => ?_)
    · refine V.aload_n (j := 0) dX9_drawn_25 rfl rfl rfl ?_
      refine U.getP fl_X9_7 t0 dX9_drawn_26 rfl ?_
      refine V.aload_n (j := 0) dX9_drawn_29 rfl rfl rfl ?_
      refine U.getP fl_X9_7 t0 dX9_drawn_30 rfl ?_
      obtain ⟨v9, q8, hx⟩ := ob_some hx
      refine U.callS (As := [.ref (G.1 + (PC th 0))]) (rest := [.ref (G.1 + (PC th 0))]) (st' := [.int v9, .ref (G.1 + (PC th 0))]) hE.1 (mX9_isOn hE (ty_X9_0 t0) q8) mic_X9_isOn rfl wq_m_X9_133 wq_t_yX9_isOn ⟨Nat.le_of_ble_eq_true rfl, Nat.le_of_ble_eq_true rfl⟩ (Nat.le_of_ble_eq_true rfl) dX9_drawn_33 rfl rfl rfl ?_
      refine V.aload_n (j := 0) dX9_drawn_36 rfl rfl rfl ?_
      refine U.getP fl_X9_7 t0 dX9_drawn_37 rfl ?_
      refine V.bipush dX9_drawn_40 rfl kb_19 ?_
      refine V.iload_n (j := 1) dX9_drawn_42 rfl rfl rfl ?_
      refine V.iadd dX9_drawn_43 rfl ?_
      refine U.iald hx (ty_X9_0 t0) dX9_drawn_44 rfl (fun hx => ?_)
      refine V.aload_n (j := 0) dX9_drawn_45 rfl rfl rfl ?_
      obtain ⟨v11, q10, hx⟩ := ob_some hx
      refine U.callV (As := []) (rest := [.int (hI h (PC th 0) (ix ((19 : Int32) + a1))), .int v9, .ref (G.1 + (PC th 0))]) (st' := [.int v11, .int (hI h (PC th 0) (ix ((19 : Int32) + a1))), .int v9, .ref (G.1 + (PC th 0))]) hE.1 (mX9_stepNow hE t0 q10) mic_X9_stepNow rfl t0 (by decide) rfl rfl wq_m_X9_169 wq_i_yX9_stepNow wq_s_yX9_stepNow ⟨Nat.le_of_ble_eq_true rfl, Nat.le_of_ble_eq_true rfl⟩ (Nat.le_of_ble_eq_true rfl) dX9_drawn_46 rfl rfl rfl ?_
      obtain ⟨v13, q12, hx⟩ := ob_some hx
      refine U.callS (As := [.ref (G.1 + (PC th 0)), .int v9, .int (hI h (PC th 0) (ix ((19 : Int32) + a1))), .int v11]) (rest := []) (st' := [.int v13]) hE.1 (mX9_greatest hE (ty_X9_0 t0) q12) mic_X9_greatest rfl wq_m_X9_122 wq_t_yX9_greatest ⟨Nat.le_of_ble_eq_true rfl, Nat.le_of_ble_eq_true rfl⟩ (Nat.le_of_ble_eq_true rfl) dX9_drawn_49 rfl rfl rfl ?_
      refine V.istore_n [(3, .int v13), (0, .ref (G.1 + th)), (1, .int a1), (2, .int a2)] dX9_drawn_52 rfl rfl (Nat.le_of_ble_eq_true rfl) rfl ?_
      refine V.iload_n (j := 3) dX9_drawn_53 rfl rfl rfl ?_
      refine V.iconst dX9_drawn_54 rfl ki_1 ?_
      refine V.icmp_ne (tgt := 72) hx dX9_drawn_55 (by decide) rfl (fun hx => ?_) (fun hx => ?_)
      · refine V.iconst dX9_drawn_72 rfl ki_0 ?_
        refine V.istore [(4, .int (0 : Int32)), (3, .int v13), (0, .ref (G.1 + th)), (1, .int a1), (2, .int a2)] dX9_drawn_73 rfl (Nat.le_of_ble_eq_true rfl) rfl ?_
        refine V.pick [2, 3, 1, 0] rfl ?_
        exact vX9_drawn_75 hE FU th a1 v13 (0 : Int32) h t0 hx
      · refine V.aload_n (j := 1) dX9_drawn_58 rfl rfl rfl ?_
        refine U.getP fl_X9_7 t0 dX9_drawn_59 rfl ?_
        refine V.bipush dX9_drawn_62 rfl kb_40 ?_
        refine V.iload_n (j := 2) dX9_drawn_64 rfl rfl rfl ?_
        refine V.iadd dX9_drawn_65 rfl ?_
        refine U.iald hx (ty_X9_0 t0) dX9_drawn_66 rfl (fun hx => ?_)
        refine V.iload_n (j := 0) dX9_drawn_67 rfl rfl rfl ?_
        obtain ⟨v22, q21, hx⟩ := ob_some hx
        refine U.callS (As := [.int (hI h (PC th 0) (ix ((40 : Int32) + a1))), .int v13]) (rest := []) (st' := [.int v22]) hE.1 (mX9_drawnAs hE q21) mic_X9_drawnAs rfl wq_m_X9_104 wq_t_yX9_drawnAs ⟨Nat.le_of_ble_eq_true rfl, Nat.le_of_ble_eq_true rfl⟩ (Nat.le_of_ble_eq_true rfl) dX9_drawn_68 rfl rfl rfl ?_
        obtain rfl := Option.some.inj hx
        exact U.retI rfl rfl rfl rfl dX9_drawn_71
    · refine V.pick [0] rfl ?_
      exact vX9_drawn_18 hE th h t0 hx
set_option maxRecDepth 100000 in
set_option maxHeartbeats 4000000 in
theorem vX9_sees_25 {l : Launch} {G : GG} {EX : State → Prop} (hE : EXB G EX) {r : Int32 × AH} : ∀ (l0 : Nat) (h : AH) (t0 : KD l0 = 8), fX9_sees_25 l0 h = some r → U l G EX mi_X9_sees 7 168 (some (.int r.1)) r.2 25 [(0, .ref (G.1 + l0))] [] h := by
  intro l0 h t0 hx
  unfold fX9_sees_25 at hx
  refine V.aload_n (j := 0) dX9_sees_25 rfl rfl rfl ?_
  refine V.bipush dX9_sees_26 rfl kb_m2 ?_
  obtain ⟨v7, h6, q5, hx⟩ := ob2_some hx
  refine U.callV (As := [.int (-2 : Int32)]) (rest := []) (st' := [.int v7]) hE.1 (mX9_bad hE t0 q5) mic_X9_bad rfl t0 (by decide) rfl rfl wq_m_X9_78 wq_i_yX9_bad wq_s_yX9_bad ⟨Nat.le_of_ble_eq_true rfl, Nat.le_of_ble_eq_true rfl⟩ (Nat.le_of_ble_eq_true rfl) dX9_sees_28 rfl rfl rfl ?_
  obtain rfl := Option.some.inj hx
  exact U.retI rfl rfl rfl rfl dX9_sees_31
set_option maxRecDepth 100000 in
set_option maxHeartbeats 4000000 in
theorem mX9_sees {l : Launch} {G : GG} {EX : State → Prop} (hE : EXB G EX) {th : Nat} {a1 : Int32} {a2 : Int32} {h : AH} (t0 : KD th = 8) {r : Int32 × AH} (hx : fX9_sees th a1 a2 h = some r) : MetU l G EX mi_X9_sees 7 168 [.ref (G.1 + th), .int a1, .int a2] h (some (.int r.1)) r.2 := by
  refine MetU.of mic_X9_sees.1 (Nat.le_of_ble_eq_true rfl) ?_
  refine show U l G EX mi_X9_sees 7 168 (some (.int r.1)) r.2 0 [(0, .ref (G.1 + th)), (1, .int a1), (2, .int a2)] [] h from ?_
  unfold fX9_sees at hx
  refine V.iload_n (j := 1) dX9_sees_0 rfl rfl rfl ?_
  refine V.i2l dX9_sees_1 rfl ?_
  refine V.ldc2_w dX9_sees_2 rfl wq_l_X9_175 ?_
  refine V.aload_n (j := 0) dX9_sees_5 rfl rfl rfl ?_
  obtain ⟨v2, q1, hx⟩ := ob_some hx
  refine U.callV (As := []) (rest := [.long (-1 : Int64), .long a1.toInt64]) (st' := [.int v2, .long (-1 : Int64), .long a1.toInt64]) hE.1 (mX9_manyWatchers hE t0 q1) mic_X9_manyWatchers rfl t0 (by decide) rfl rfl wq_m_X9_63 wq_i_yX9_manyWatchers wq_s_yX9_manyWatchers ⟨Nat.le_of_ble_eq_true rfl, Nat.le_of_ble_eq_true rfl⟩ (Nat.le_of_ble_eq_true rfl) dX9_sees_6 rfl rfl rfl ?_
  refine V.iconst dX9_sees_9 rfl ki_1 ?_
  refine V.isub dX9_sees_10 rfl ?_
  refine V.i2l dX9_sees_11 rfl ?_
  obtain ⟨v4, q3, hx⟩ := ob_some hx
  refine U.callS (As := [.long a1.toInt64, .long (-1 : Int64), .long ((v2 - (1 : Int32)).toInt64)]) (rest := []) (st' := [.int v4]) hE.1 (mX9_in hE q3) mic_X9_in rfl wq_m_X9_59 wq_t_yX9_in ⟨Nat.le_of_ble_eq_true rfl, Nat.le_of_ble_eq_true rfl⟩ (Nat.le_of_ble_eq_true rfl) dX9_sees_12 rfl rfl rfl ?_
  refine V.if_eq (tgt := 25) hx dX9_sees_15 (by decide) rfl (fun hx => ?_) (fun hx => ?_)
  · refine V.pick [0] rfl ?_
    exact vX9_sees_25 hE th h t0 hx
  · refine V.iload_n (j := 2) dX9_sees_18 rfl rfl rfl ?_
    obtain ⟨v9, q8, hx⟩ := ob_some hx
    refine U.callS (As := [.int a2]) (rest := []) (st' := [.int v9]) hE.1 (mX9_isCell hE q8) mic_X9_isCell rfl wq_m_X9_74 wq_t_yX9_isCell ⟨Nat.le_of_ble_eq_true rfl, Nat.le_of_ble_eq_true rfl⟩ (Nat.le_of_ble_eq_true rfl) dX9_sees_19 rfl rfl rfl ?_
    refine V.if_ne (tgt := 32) hx dX9_sees_22 (by decide) rfl (fun hx => ?_) (fun hx => ?_)
    · refine V.aload_n (j := 0) dX9_sees_32 rfl rfl rfl ?_
      refine U.getP fl_X9_7 t0 dX9_sees_33 rfl ?_
      refine V.iload_n (j := 2) dX9_sees_36 rfl rfl rfl ?_
      refine V.aload_n (j := 0) dX9_sees_37 rfl rfl rfl ?_
      refine U.getP fl_X9_7 t0 dX9_sees_38 rfl ?_
      obtain ⟨v11, q10, hx⟩ := ob_some hx
      refine U.callS (As := [.ref (G.1 + (PC th 0))]) (rest := [.int a2, .ref (G.1 + (PC th 0))]) (st' := [.int v11, .int a2, .ref (G.1 + (PC th 0))]) hE.1 (mX9_isOn hE (ty_X9_0 t0) q10) mic_X9_isOn rfl wq_m_X9_133 wq_t_yX9_isOn ⟨Nat.le_of_ble_eq_true rfl, Nat.le_of_ble_eq_true rfl⟩ (Nat.le_of_ble_eq_true rfl) dX9_sees_41 rfl rfl rfl ?_
      refine V.aload_n (j := 0) dX9_sees_44 rfl rfl rfl ?_
      obtain ⟨v13, q12, hx⟩ := ob_some hx
      refine U.callV (As := []) (rest := [.int v11, .int a2, .ref (G.1 + (PC th 0))]) (st' := [.int v13, .int v11, .int a2, .ref (G.1 + (PC th 0))]) hE.1 (mX9_stepNow hE t0 q12) mic_X9_stepNow rfl t0 (by decide) rfl rfl wq_m_X9_169 wq_i_yX9_stepNow wq_s_yX9_stepNow ⟨Nat.le_of_ble_eq_true rfl, Nat.le_of_ble_eq_true rfl⟩ (Nat.le_of_ble_eq_true rfl) dX9_sees_45 rfl rfl rfl ?_
      obtain ⟨v15, q14, hx⟩ := ob_some hx
      refine U.callS (As := [.ref (G.1 + (PC th 0)), .int a2, .int v11, .int v13]) (rest := []) (st' := [.int v15]) hE.1 (mX9_whoSees hE (ty_X9_0 t0) q14) mic_X9_whoSees rfl wq_m_X9_137 wq_t_yX9_whoSees ⟨Nat.le_of_ble_eq_true rfl, Nat.le_of_ble_eq_true rfl⟩ (Nat.le_of_ble_eq_true rfl) dX9_sees_48 rfl rfl rfl ?_
      refine V.istore_n [(3, .int v15), (0, .ref (G.1 + th)), (1, .int a1), (2, .int a2)] dX9_sees_51 rfl rfl (Nat.le_of_ble_eq_true rfl) rfl ?_
      refine V.iload_n (j := 2) dX9_sees_52 rfl rfl rfl ?_
      refine V.iconst dX9_sees_53 rfl ki_m1 ?_
      refine V.icmp_ne (tgt := 61) hx dX9_sees_54 (by decide) rfl (fun hx => ?_) (fun hx => ?_)
      · refine V.iload_n (j := 0) dX9_sees_61 rfl rfl rfl ?_
        refine V.iload_n (j := 2) dX9_sees_62 rfl rfl rfl ?_
        refine V.ishr dX9_sees_63 rfl ?_
        refine V.iconst dX9_sees_64 rfl ki_1 ?_
        refine V.iand dX9_sees_65 rfl ?_
        obtain rfl := Option.some.inj hx
        exact U.retI rfl rfl rfl rfl dX9_sees_66
      · refine V.iload_n (j := 0) dX9_sees_57 rfl rfl rfl ?_
        refine V.goto (q := 66) dX9_sees_58 (by decide) ?_
        obtain rfl := Option.some.inj hx
        exact U.retI rfl rfl rfl rfl dX9_sees_66
    · refine V.pick [0] rfl ?_
      exact vX9_sees_25 hE th h t0 hx
set_option maxRecDepth 100000 in
set_option maxHeartbeats 4000000 in
theorem vX9_unseen_51 {l : Launch} {G : GG} {EX : State → Prop} (hE : EXB G EX) {r : Int32 × AH} {k18 : Nat → Int32 → Int32 → Int32 → AH → Option (Int32 × AH)} (hk18 : ∀ (l0 : Nat) (l1 : Int32) (l2 : Int32) (l3 : Int32) (h : AH) (t0 : KD l0 = 8), k18 l0 l1 l2 l3 h = some r → U l G EX mi_X9_unseen 7 168 (some (.int r.1)) r.2 18 [(0, .ref (G.1 + l0)), (1, .int l1), (2, .int l2), (3, .int l3)] [] h) : ∀ (l0 : Nat) (l1 : Int32) (l3 : Int32) (s0 : Int32) (s1 : Int32) (h : AH) (t0 : KD l0 = 8), fX9_unseen_51 k18 l0 l1 l3 s0 s1 h = some r → U l G EX mi_X9_unseen 7 168 (some (.int r.1)) r.2 51 [(0, .ref (G.1 + l0)), (1, .int l1), (3, .int l3)] [.int s1, .int s0] h := by
  intro l0 l1 l3 s0 s1 h t0 hx
  unfold fX9_unseen_51 at hx
  refine V.ior dX9_unseen_51 rfl ?_
  refine U.letI hx (fun v7 hx => ?_)
  refine V.istore_n [(2, .int v7), (0, .ref (G.1 + l0)), (1, .int l1), (3, .int l3)] dX9_unseen_52 rfl rfl (Nat.le_of_ble_eq_true rfl) rfl ?_
  refine U.iinc hx (fun v8 => [(3, .int v8), (2, .int v7), (0, .ref (G.1 + l0)), (1, .int l1)]) (j := 3) rfl (by decide) (Nat.le_of_ble_eq_true rfl) (fun _ => rfl) dX9_unseen_53 rfl (fun v8 hx => ?_)
  refine V.goto (q := 18) dX9_unseen_56 (by decide) ?_
  refine V.pick [2, 3, 1, 0] rfl ?_
  exact hk18 l0 l1 v7 v8 h t0 hx
set_option maxRecDepth 100000 in
set_option maxHeartbeats 4000000 in
theorem vX9_unseen_18 {l : Launch} {G : GG} {EX : State → Prop} (hE : EXB G EX) {r : Int32 × AH} : ∀ (n : Nat) (l0 : Nat) (l1 : Int32) (l2 : Int32) (l3 : Int32) (h : AH) (t0 : KD l0 = 8), fX9_unseen_18 n l0 l1 l2 l3 h = some r → U l G EX mi_X9_unseen 7 168 (some (.int r.1)) r.2 18 [(0, .ref (G.1 + l0)), (1, .int l1), (2, .int l2), (3, .int l3)] [] h := by
  intro n
  induction n with
  | zero =>
    intro l0 l1 l2 l3 h t0 hx
    have hx : none = some r := hx
    cases hx
  | succ n ih =>
    intro l0 l1 l2 l3 h t0 hx
    rw [fX9_unseen_18] at hx
    refine V.iload_n (j := 3) dX9_unseen_18 rfl rfl rfl ?_
    refine V.bipush dX9_unseen_19 rfl kb_30 ?_
    refine V.icmp_ge (tgt := 59) hx dX9_unseen_21 (by decide) rfl (fun hx => ?_) (fun hx => ?_)
    · refine V.iload_n (j := 2) dX9_unseen_59 rfl rfl rfl ?_
      obtain rfl := Option.some.inj hx
      exact U.retI rfl rfl rfl rfl dX9_unseen_60
    · refine V.iload_n (j := 2) dX9_unseen_24 rfl rfl rfl ?_
      refine V.aload_n (j := 0) dX9_unseen_25 rfl rfl rfl ?_
      refine U.getP fl_X9_7 t0 dX9_unseen_26 rfl ?_
      refine V.iload_n (j := 3) dX9_unseen_29 rfl rfl rfl ?_
      refine V.aload_n (j := 0) dX9_unseen_30 rfl rfl rfl ?_
      refine U.getP fl_X9_7 t0 dX9_unseen_31 rfl ?_
      obtain ⟨v4, q3, hx⟩ := ob_some hx
      refine U.callS (As := [.ref (G.1 + (PC l0 0))]) (rest := [.int l3, .ref (G.1 + (PC l0 0)), .int l2]) (st' := [.int v4, .int l3, .ref (G.1 + (PC l0 0)), .int l2]) hE.1 (mX9_isOn hE (ty_X9_0 t0) q3) mic_X9_isOn rfl wq_m_X9_133 wq_t_yX9_isOn ⟨Nat.le_of_ble_eq_true rfl, Nat.le_of_ble_eq_true rfl⟩ (Nat.le_of_ble_eq_true rfl) dX9_unseen_34 rfl rfl rfl ?_
      refine V.iload_n (j := 1) dX9_unseen_37 rfl rfl rfl ?_
      obtain ⟨v6, q5, hx⟩ := ob_some hx
      refine U.callS (As := [.ref (G.1 + (PC l0 0)), .int l3, .int v4, .int l1]) (rest := [.int l2]) (st' := [.int v6, .int l2]) hE.1 (mX9_whoSees hE (ty_X9_0 t0) q5) mic_X9_whoSees rfl wq_m_X9_137 wq_t_yX9_whoSees ⟨Nat.le_of_ble_eq_true rfl, Nat.le_of_ble_eq_true rfl⟩ (Nat.le_of_ble_eq_true rfl) dX9_unseen_38 rfl rfl rfl ?_
      refine V.if_ne (tgt := 50) hx dX9_unseen_41 (by decide) rfl (fun hx => ?_) (fun hx => ?_)
      · refine V.iconst dX9_unseen_50 rfl ki_0 ?_
        refine V.pick [0, 1, 3] rfl ?_
        exact vX9_unseen_51 hE (ih) l0 l1 l3 l2 (0 : Int32) h t0 hx
      · refine V.iconst dX9_unseen_44 rfl ki_1 ?_
        refine V.iload_n (j := 3) dX9_unseen_45 rfl rfl rfl ?_
        refine V.ishl dX9_unseen_46 rfl ?_
        refine V.goto (q := 51) dX9_unseen_47 (by decide) ?_
        refine V.pick [0, 1, 3] rfl ?_
        exact vX9_unseen_51 hE (ih) l0 l1 l3 l2 (jshl (1 : Int32) l3) h t0 hx
set_option maxRecDepth 100000 in
set_option maxHeartbeats 4000000 in
theorem mX9_unseen {l : Launch} {G : GG} {EX : State → Prop} (hE : EXB G EX) {th : Nat} {a1 : Int32} {h : AH} (t0 : KD th = 8) {r : Int32 × AH} (hx : fX9_unseen th a1 h = some r) : MetU l G EX mi_X9_unseen 7 168 [.ref (G.1 + th), .int a1] h (some (.int r.1)) r.2 := by
  refine MetU.of mic_X9_unseen.1 (Nat.le_of_ble_eq_true rfl) ?_
  refine show U l G EX mi_X9_unseen 7 168 (some (.int r.1)) r.2 0 [(0, .ref (G.1 + th)), (1, .int a1)] [] h from ?_
  unfold fX9_unseen at hx
  refine V.iload_n (j := 1) dX9_unseen_0 rfl rfl rfl ?_
  obtain ⟨v2, q1, hx⟩ := ob_some hx
  refine U.callS (As := [.int a1]) (rest := []) (st' := [.int v2]) hE.1 (mX9_isStep hE q1) mic_X9_isStep rfl wq_m_X9_177 wq_t_yX9_isStep ⟨Nat.le_of_ble_eq_true rfl, Nat.le_of_ble_eq_true rfl⟩ (Nat.le_of_ble_eq_true rfl) dX9_unseen_1 rfl rfl rfl ?_
  refine V.if_ne (tgt := 14) hx dX9_unseen_4 (by decide) rfl (fun hx => ?_) (fun hx => ?_)
  · refine V.iconst dX9_unseen_14 rfl ki_0 ?_
    refine V.istore_n [(2, .int (0 : Int32)), (0, .ref (G.1 + th)), (1, .int a1)] dX9_unseen_15 rfl rfl (Nat.le_of_ble_eq_true rfl) rfl ?_
    refine V.iconst dX9_unseen_16 rfl ki_0 ?_
    refine V.istore_n [(3, .int (0 : Int32)), (2, .int (0 : Int32)), (0, .ref (G.1 + th)), (1, .int a1)] dX9_unseen_17 rfl rfl (Nat.le_of_ble_eq_true rfl) rfl ?_
    refine V.pick [2, 3, 1, 0] rfl ?_
    exact vX9_unseen_18 hE FU th a1 (0 : Int32) (0 : Int32) h t0 hx
  · refine V.aload_n (j := 0) dX9_unseen_7 rfl rfl rfl ?_
    refine V.bipush dX9_unseen_8 rfl kb_m2 ?_
    obtain ⟨v11, h10, q9, hx⟩ := ob2_some hx
    refine U.callV (As := [.int (-2 : Int32)]) (rest := []) (st' := [.int v11]) hE.1 (mX9_bad hE t0 q9) mic_X9_bad rfl t0 (by decide) rfl rfl wq_m_X9_78 wq_i_yX9_bad wq_s_yX9_bad ⟨Nat.le_of_ble_eq_true rfl, Nat.le_of_ble_eq_true rfl⟩ (Nat.le_of_ble_eq_true rfl) dX9_unseen_10 rfl rfl rfl ?_
    obtain rfl := Option.some.inj hx
    exact U.retI rfl rfl rfl rfl dX9_unseen_13
set_option maxRecDepth 100000 in
set_option maxHeartbeats 4000000 in
theorem mX9_isUnseenIn {l : Launch} {G : GG} {EX : State → Prop} (hE : EXB G EX) {th : Nat} {a1 : Int32} {a2 : Int32} {h : AH} (t0 : KD th = 8) {r : Int32} (hx : fX9_isUnseenIn th a1 a2 h = some r) : MetU l G EX mi_X9_isUnseenIn 7 168 [.ref (G.1 + th), .int a1, .int a2] h (some (.int r)) h := by
  refine MetU.of mic_X9_isUnseenIn.1 (Nat.le_of_ble_eq_true rfl) ?_
  refine show U l G EX mi_X9_isUnseenIn 7 168 (some (.int r)) h 0 [(0, .ref (G.1 + th)), (1, .int a1), (2, .int a2)] [] h from ?_
  unfold fX9_isUnseenIn at hx
  refine V.aload_n (j := 0) dX9_isUnseenIn_0 rfl rfl rfl ?_
  refine U.getP fl_X9_7 t0 dX9_isUnseenIn_1 rfl ?_
  refine V.iload_n (j := 1) dX9_isUnseenIn_4 rfl rfl rfl ?_
  refine V.aload_n (j := 0) dX9_isUnseenIn_5 rfl rfl rfl ?_
  refine U.getP fl_X9_7 t0 dX9_isUnseenIn_6 rfl ?_
  obtain ⟨v2, q1, hx⟩ := ob_some hx
  refine U.callS (As := [.ref (G.1 + (PC th 0))]) (rest := [.int a1, .ref (G.1 + (PC th 0))]) (st' := [.int v2, .int a1, .ref (G.1 + (PC th 0))]) hE.1 (mX9_isOn hE (ty_X9_0 t0) q1) mic_X9_isOn rfl wq_m_X9_133 wq_t_yX9_isOn ⟨Nat.le_of_ble_eq_true rfl, Nat.le_of_ble_eq_true rfl⟩ (Nat.le_of_ble_eq_true rfl) dX9_isUnseenIn_9 rfl rfl rfl ?_
  refine V.aload_n (j := 0) dX9_isUnseenIn_12 rfl rfl rfl ?_
  refine U.getP fl_X9_7 t0 dX9_isUnseenIn_13 rfl ?_
  refine V.bipush dX9_isUnseenIn_16 rfl kb_13 ?_
  refine U.iald hx (ty_X9_0 t0) dX9_isUnseenIn_18 rfl (fun hx => ?_)
  refine V.iload_n (j := 2) dX9_isUnseenIn_19 rfl rfl rfl ?_
  refine V.iadd dX9_isUnseenIn_20 rfl ?_
  refine V.bipush dX9_isUnseenIn_21 rfl kb_12 ?_
  refine V.irem dX9_isUnseenIn_23 rfl (by decide) ?_
  obtain ⟨v4, q3, hx⟩ := ob_some hx
  refine U.callS (As := [.ref (G.1 + (PC th 0)), .int a1, .int v2, .int (jrem ((hI h (PC th 0) (ix (13 : Int32))) + a2) (12 : Int32))]) (rest := []) (st' := [.int v4]) hE.1 (mX9_whoSees hE (ty_X9_0 t0) q3) mic_X9_whoSees rfl wq_m_X9_137 wq_t_yX9_whoSees ⟨Nat.le_of_ble_eq_true rfl, Nat.le_of_ble_eq_true rfl⟩ (Nat.le_of_ble_eq_true rfl) dX9_isUnseenIn_24 rfl rfl rfl ?_
  refine V.if_ne (tgt := 34) hx dX9_isUnseenIn_27 (by decide) rfl (fun hx => ?_) (fun hx => ?_)
  · refine V.iconst dX9_isUnseenIn_34 rfl ki_0 ?_
    obtain rfl := Option.some.inj hx
    exact U.retI rfl rfl rfl rfl dX9_isUnseenIn_35
  · refine V.iconst dX9_isUnseenIn_30 rfl ki_1 ?_
    refine V.goto (q := 35) dX9_isUnseenIn_31 (by decide) ?_
    obtain rfl := Option.some.inj hx
    exact U.retI rfl rfl rfl rfl dX9_isUnseenIn_35
set_option maxRecDepth 100000 in
set_option maxHeartbeats 4000000 in
theorem vX9_when_16 {l : Launch} {G : GG} {EX : State → Prop} (hE : EXB G EX) {r : Int32 × AH} : ∀ (n : Nat) (l0 : Nat) (l1 : Int32) (l2 : Int32) (h : AH) (t0 : KD l0 = 8), fX9_when_16 n l0 l1 l2 h = some r → U l G EX mi_X9_when 8 190 (some (.int r.1)) r.2 16 [(0, .ref (G.1 + l0)), (1, .int l1), (2, .int l2)] [] h := by
  intro n
  induction n with
  | zero =>
    intro l0 l1 l2 h t0 hx
    have hx : none = some r := hx
    cases hx
  | succ n ih =>
    intro l0 l1 l2 h t0 hx
    rw [fX9_when_16] at hx
    refine V.iload_n (j := 2) dX9_when_16 rfl rfl rfl ?_
    refine V.bipush dX9_when_17 rfl kb_24 ?_
    refine V.icmp_ge (tgt := 39) hx dX9_when_19 (by decide) rfl (fun hx => ?_) (fun hx => ?_)
    · refine V.iconst dX9_when_39 rfl ki_m1 ?_
      obtain rfl := Option.some.inj hx
      exact U.retI rfl rfl rfl rfl dX9_when_40
    · refine V.aload_n (j := 0) dX9_when_22 rfl rfl rfl ?_
      refine V.iload_n (j := 1) dX9_when_23 rfl rfl rfl ?_
      refine V.iload_n (j := 2) dX9_when_24 rfl rfl rfl ?_
      obtain ⟨v4, q3, hx⟩ := ob_some hx
      refine U.callV (As := [.int l1, .int l2]) (rest := []) (st' := [.int v4]) hE.1 (mX9_isUnseenIn hE t0 q3) mic_X9_isUnseenIn rfl t0 (by decide) rfl rfl wq_m_X9_180 wq_i_yX9_isUnseenIn wq_s_yX9_isUnseenIn ⟨Nat.le_of_ble_eq_true rfl, Nat.le_of_ble_eq_true rfl⟩ (Nat.le_of_ble_eq_true rfl) dX9_when_25 rfl rfl rfl ?_
      refine V.if_eq (tgt := 33) hx dX9_when_28 (by decide) rfl (fun hx => ?_) (fun hx => ?_)
      · refine U.iinc hx (fun v5 => [(2, .int v5), (0, .ref (G.1 + l0)), (1, .int l1)]) (j := 2) rfl (by decide) (Nat.le_of_ble_eq_true rfl) (fun _ => rfl) dX9_when_33 rfl (fun v5 hx => ?_)
        refine V.goto (q := 16) dX9_when_36 (by decide) ?_
        refine V.pick [1, 2, 0] rfl ?_
        exact ih l0 l1 v5 h t0 hx
      · refine V.iload_n (j := 2) dX9_when_31 rfl rfl rfl ?_
        obtain rfl := Option.some.inj hx
        exact U.retI rfl rfl rfl rfl dX9_when_32
set_option maxRecDepth 100000 in
set_option maxHeartbeats 4000000 in
theorem mX9_when {l : Launch} {G : GG} {EX : State → Prop} (hE : EXB G EX) {th : Nat} {a1 : Int32} {h : AH} (t0 : KD th = 8) {r : Int32 × AH} (hx : fX9_when th a1 h = some r) : MetU l G EX mi_X9_when 8 190 [.ref (G.1 + th), .int a1] h (some (.int r.1)) r.2 := by
  refine MetU.of mic_X9_when.1 (Nat.le_of_ble_eq_true rfl) ?_
  refine show U l G EX mi_X9_when 8 190 (some (.int r.1)) r.2 0 [(0, .ref (G.1 + th)), (1, .int a1)] [] h from ?_
  unfold fX9_when at hx
  refine V.iload_n (j := 1) dX9_when_0 rfl rfl rfl ?_
  obtain ⟨v2, q1, hx⟩ := ob_some hx
  refine U.callS (As := [.int a1]) (rest := []) (st' := [.int v2]) hE.1 (mX9_isCell hE q1) mic_X9_isCell rfl wq_m_X9_74 wq_t_yX9_isCell ⟨Nat.le_of_ble_eq_true rfl, Nat.le_of_ble_eq_true rfl⟩ (Nat.le_of_ble_eq_true rfl) dX9_when_1 rfl rfl rfl ?_
  refine V.if_ne (tgt := 14) hx dX9_when_4 (by decide) rfl (fun hx => ?_) (fun hx => ?_)
  · refine V.iconst dX9_when_14 rfl ki_0 ?_
    refine V.istore_n [(2, .int (0 : Int32)), (0, .ref (G.1 + th)), (1, .int a1)] dX9_when_15 rfl rfl (Nat.le_of_ble_eq_true rfl) rfl ?_
    refine V.pick [1, 2, 0] rfl ?_
    exact vX9_when_16 hE FU th a1 (0 : Int32) h t0 hx
  · refine V.aload_n (j := 0) dX9_when_7 rfl rfl rfl ?_
    refine V.bipush dX9_when_8 rfl kb_m2 ?_
    obtain ⟨v8, h7, q6, hx⟩ := ob2_some hx
    refine U.callV (As := [.int (-2 : Int32)]) (rest := []) (st' := [.int v8]) hE.1 (mX9_bad hE t0 q6) mic_X9_bad rfl t0 (by decide) rfl rfl wq_m_X9_78 wq_i_yX9_bad wq_s_yX9_bad ⟨Nat.le_of_ble_eq_true rfl, Nat.le_of_ble_eq_true rfl⟩ (Nat.le_of_ble_eq_true rfl) dX9_when_10 rfl rfl rfl ?_
    obtain rfl := Option.some.inj hx
    exact U.retI rfl rfl rfl rfl dX9_when_13
set_option maxRecDepth 100000 in
set_option maxHeartbeats 4000000 in
theorem vX9_enough_77 {l : Launch} {G : GG} {EX : State → Prop} (hE : EXB G EX) {r : Int32 × AH} {k18 : Nat → Int32 → Int32 → Int32 → AH → Option (Int32 × AH)} (hk18 : ∀ (l0 : Nat) (l1 : Int32) (l2 : Int32) (l3 : Int32) (h : AH) (t0 : KD l0 = 8), k18 l0 l1 l2 l3 h = some r → U l G EX mi_X9_enough 7 168 (some (.int r.1)) r.2 18 [(0, .ref (G.1 + l0)), (1, .int l1), (2, .int l2), (3, .int l3)] [] h) : ∀ (l0 : Nat) (l1 : Int32) (l3 : Int32) (s0 : Int32) (h : AH) (t0 : KD l0 = 8), fX9_enough_77 k18 l0 l1 l3 s0 h = some r → U l G EX mi_X9_enough 7 168 (some (.int r.1)) r.2 77 [(0, .ref (G.1 + l0)), (1, .int l1), (3, .int l3)] [.int s0] h := by
  intro l0 l1 l3 s0 h t0 hx
  unfold fX9_enough_77 at hx
  refine V.istore_n [(2, .int s0), (0, .ref (G.1 + l0)), (1, .int l1), (3, .int l3)] dX9_enough_77 rfl rfl (Nat.le_of_ble_eq_true rfl) rfl ?_
  refine U.iinc hx (fun v5 => [(3, .int v5), (2, .int s0), (0, .ref (G.1 + l0)), (1, .int l1)]) (j := 3) rfl (by decide) (Nat.le_of_ble_eq_true rfl) (fun _ => rfl) dX9_enough_78 rfl (fun v5 hx => ?_)
  refine V.goto (q := 18) dX9_enough_81 (by decide) ?_
  refine V.pick [2, 3, 1, 0] rfl ?_
  exact hk18 l0 l1 s0 v5 h t0 hx
set_option maxRecDepth 100000 in
set_option maxHeartbeats 4000000 in
theorem vX9_enough_76 {l : Launch} {G : GG} {EX : State → Prop} (hE : EXB G EX) {r : Int32 × AH} {k18 : Nat → Int32 → Int32 → Int32 → AH → Option (Int32 × AH)} (hk18 : ∀ (l0 : Nat) (l1 : Int32) (l2 : Int32) (l3 : Int32) (h : AH) (t0 : KD l0 = 8), k18 l0 l1 l2 l3 h = some r → U l G EX mi_X9_enough 7 168 (some (.int r.1)) r.2 18 [(0, .ref (G.1 + l0)), (1, .int l1), (2, .int l2), (3, .int l3)] [] h) : ∀ (l0 : Nat) (l1 : Int32) (l2 : Int32) (l3 : Int32) (h : AH) (t0 : KD l0 = 8), fX9_enough_76 k18 l0 l1 l2 l3 h = some r → U l G EX mi_X9_enough 7 168 (some (.int r.1)) r.2 76 [(0, .ref (G.1 + l0)), (1, .int l1), (2, .int l2), (3, .int l3)] [] h := by
  intro l0 l1 l2 l3 h t0 hx
  unfold fX9_enough_76 at hx
  refine V.iload_n (j := 2) dX9_enough_76 rfl rfl rfl ?_
  refine V.pick [0, 1, 3] rfl ?_
  exact vX9_enough_77 hE hk18 l0 l1 l3 l2 h t0 hx
set_option maxRecDepth 100000 in
set_option maxHeartbeats 4000000 in
theorem vX9_enough_49 {l : Launch} {G : GG} {EX : State → Prop} (hE : EXB G EX) {r : Int32 × AH} {k18 : Nat → Int32 → Int32 → Int32 → AH → Option (Int32 × AH)} (hk18 : ∀ (l0 : Nat) (l1 : Int32) (l2 : Int32) (l3 : Int32) (h : AH) (t0 : KD l0 = 8), k18 l0 l1 l2 l3 h = some r → U l G EX mi_X9_enough 7 168 (some (.int r.1)) r.2 18 [(0, .ref (G.1 + l0)), (1, .int l1), (2, .int l2), (3, .int l3)] [] h) : ∀ (l0 : Nat) (l1 : Int32) (l2 : Int32) (l3 : Int32) (s0 : Int32) (h : AH) (t0 : KD l0 = 8), fX9_enough_49 k18 l0 l1 l2 l3 s0 h = some r → U l G EX mi_X9_enough 7 168 (some (.int r.1)) r.2 49 [(0, .ref (G.1 + l0)), (1, .int l1), (2, .int l2), (3, .int l3)] [.int s0] h := by
  intro l0 l1 l2 l3 s0 h t0 hx
  unfold fX9_enough_49 at hx
  refine V.istore [(4, .int s0), (0, .ref (G.1 + l0)), (1, .int l1), (2, .int l2), (3, .int l3)] dX9_enough_49 rfl (Nat.le_of_ble_eq_true rfl) rfl ?_
  refine V.iload (j := 0) dX9_enough_51 rfl rfl ?_
  refine V.if_eq (tgt := 76) hx dX9_enough_53 (by decide) rfl (fun hx => ?_) (fun hx => ?_)
  · refine V.pick [1, 2, 3, 4] rfl ?_
    exact vX9_enough_76 hE hk18 l0 l1 l2 l3 h t0 hx
  · refine V.aload_n (j := 1) dX9_enough_56 rfl rfl rfl ?_
    refine U.getP fl_X9_7 t0 dX9_enough_57 rfl ?_
    refine V.iload_n (j := 2) dX9_enough_60 rfl rfl rfl ?_
    refine V.iload_n (j := 4) dX9_enough_61 rfl rfl rfl ?_
    refine V.aload_n (j := 1) dX9_enough_62 rfl rfl rfl ?_
    obtain ⟨v7, q6, hx⟩ := ob_some hx
    refine U.callV (As := []) (rest := [.int l3, .int l1, .ref (G.1 + (PC l0 0))]) (st' := [.int v7, .int l3, .int l1, .ref (G.1 + (PC l0 0))]) hE.1 (mX9_stepNow hE t0 q6) mic_X9_stepNow rfl t0 (by decide) rfl rfl wq_m_X9_169 wq_i_yX9_stepNow wq_s_yX9_stepNow ⟨Nat.le_of_ble_eq_true rfl, Nat.le_of_ble_eq_true rfl⟩ (Nat.le_of_ble_eq_true rfl) dX9_enough_63 rfl rfl rfl ?_
    obtain ⟨v9, q8, hx⟩ := ob_some hx
    refine U.callS (As := [.ref (G.1 + (PC l0 0)), .int l1, .int l3, .int v7]) (rest := []) (st' := [.int v9]) hE.1 (mX9_whoSees hE (ty_X9_0 t0) q8) mic_X9_whoSees rfl wq_m_X9_137 wq_t_yX9_whoSees ⟨Nat.le_of_ble_eq_true rfl, Nat.le_of_ble_eq_true rfl⟩ (Nat.le_of_ble_eq_true rfl) dX9_enough_66 rfl rfl rfl ?_
    refine V.if_ne (tgt := 76) hx dX9_enough_69 (by decide) rfl (fun hx => ?_) (fun hx => ?_)
    · refine V.pick [1, 2, 3, 4] rfl ?_
      exact vX9_enough_76 hE hk18 l0 l1 l2 l3 h t0 hx
    · refine V.iload_n (j := 4) dX9_enough_72 rfl rfl rfl ?_
      refine V.goto (q := 77) dX9_enough_73 (by decide) ?_
      refine V.pick [1, 2, 4] rfl ?_
      exact vX9_enough_77 hE hk18 l0 l1 l3 l3 h t0 hx
set_option maxRecDepth 100000 in
set_option maxHeartbeats 4000000 in
theorem vX9_enough_44 {l : Launch} {G : GG} {EX : State → Prop} (hE : EXB G EX) {r : Int32 × AH} {k18 : Nat → Int32 → Int32 → Int32 → AH → Option (Int32 × AH)} (hk18 : ∀ (l0 : Nat) (l1 : Int32) (l2 : Int32) (l3 : Int32) (h : AH) (t0 : KD l0 = 8), k18 l0 l1 l2 l3 h = some r → U l G EX mi_X9_enough 7 168 (some (.int r.1)) r.2 18 [(0, .ref (G.1 + l0)), (1, .int l1), (2, .int l2), (3, .int l3)] [] h) : ∀ (l0 : Nat) (l1 : Int32) (l2 : Int32) (l3 : Int32) (h : AH) (t0 : KD l0 = 8), fX9_enough_44 k18 l0 l1 l2 l3 h = some r → U l G EX mi_X9_enough 7 168 (some (.int r.1)) r.2 44 [(0, .ref (G.1 + l0)), (1, .int l1), (2, .int l2), (3, .int l3)] [] h := by
  intro l0 l1 l2 l3 h t0 hx
  unfold fX9_enough_44 at hx
  refine V.iconst dX9_enough_44 rfl ki_1 ?_
  refine V.goto (q := 49) dX9_enough_45 (by decide) ?_
  exact vX9_enough_49 hE hk18 l0 l1 l2 l3 (1 : Int32) h t0 hx
set_option maxRecDepth 100000 in
set_option maxHeartbeats 4000000 in
theorem vX9_enough_18 {l : Launch} {G : GG} {EX : State → Prop} (hE : EXB G EX) {r : Int32 × AH} : ∀ (n : Nat) (l0 : Nat) (l1 : Int32) (l2 : Int32) (l3 : Int32) (h : AH) (t0 : KD l0 = 8), fX9_enough_18 n l0 l1 l2 l3 h = some r → U l G EX mi_X9_enough 7 168 (some (.int r.1)) r.2 18 [(0, .ref (G.1 + l0)), (1, .int l1), (2, .int l2), (3, .int l3)] [] h := by
  intro n
  induction n with
  | zero =>
    intro l0 l1 l2 l3 h t0 hx
    have hx : none = some r := hx
    cases hx
  | succ n ih =>
    intro l0 l1 l2 l3 h t0 hx
    rw [fX9_enough_18] at hx
    refine V.iload_n (j := 3) dX9_enough_18 rfl rfl rfl ?_
    refine V.iconst dX9_enough_19 rfl ki_1 ?_
    refine V.aload_n (j := 0) dX9_enough_20 rfl rfl rfl ?_
    obtain ⟨v4, q3, hx⟩ := ob_some hx
    refine U.callV (As := []) (rest := [.int (1 : Int32), .int l3]) (st' := [.int v4, .int (1 : Int32), .int l3]) hE.1 (mX9_many hE t0 q3) mic_X9_many rfl t0 (by decide) rfl rfl wq_m_X9_55 wq_i_yX9_many wq_s_yX9_many ⟨Nat.le_of_ble_eq_true rfl, Nat.le_of_ble_eq_true rfl⟩ (Nat.le_of_ble_eq_true rfl) dX9_enough_21 rfl rfl rfl ?_
    refine V.ishl dX9_enough_24 rfl ?_
    refine V.icmp_ge (tgt := 84) hx dX9_enough_25 (by decide) rfl (fun hx => ?_) (fun hx => ?_)
    · refine V.iload_n (j := 2) dX9_enough_84 rfl rfl rfl ?_
      obtain rfl := Option.some.inj hx
      exact U.retI rfl rfl rfl rfl dX9_enough_85
    · refine V.iload_n (j := 2) dX9_enough_28 rfl rfl rfl ?_
      refine V.iconst dX9_enough_29 rfl ki_m1 ?_
      refine V.icmp_eq (tgt := 44) hx dX9_enough_30 (by decide) rfl (fun hx => ?_) (fun hx => ?_)
      · exact vX9_enough_44 hE (ih) l0 l1 l2 l3 h t0 hx
      · refine V.iload_n (j := 3) dX9_enough_33 rfl rfl rfl ?_
        obtain ⟨v11, q10, hx⟩ := ob_some hx
        refine U.callS (As := [.int l3]) (rest := []) (st' := [.int v11]) hE.1 (mX9_bits hE q10) mic_X9_bits rfl wq_m_X9_183 wq_t_yX9_bits ⟨Nat.le_of_ble_eq_true rfl, Nat.le_of_ble_eq_true rfl⟩ (Nat.le_of_ble_eq_true rfl) dX9_enough_34 rfl rfl rfl ?_
        refine V.iload_n (j := 2) dX9_enough_37 rfl rfl rfl ?_
        obtain ⟨v13, q12, hx⟩ := ob_some hx
        refine U.callS (As := [.int l2]) (rest := [.int v11]) (st' := [.int v13, .int v11]) hE.1 (mX9_bits hE q12) mic_X9_bits rfl wq_m_X9_183 wq_t_yX9_bits ⟨Nat.le_of_ble_eq_true rfl, Nat.le_of_ble_eq_true rfl⟩ (Nat.le_of_ble_eq_true rfl) dX9_enough_38 rfl rfl rfl ?_
        refine V.icmp_ge (tgt := 48) hx dX9_enough_41 (by decide) rfl (fun hx => ?_) (fun hx => ?_)
        · refine V.iconst dX9_enough_48 rfl ki_0 ?_
          exact vX9_enough_49 hE (ih) l0 l1 l2 l3 (0 : Int32) h t0 hx
        · exact vX9_enough_44 hE (ih) l0 l1 l2 l3 h t0 hx
set_option maxRecDepth 100000 in
set_option maxHeartbeats 4000000 in
theorem mX9_enough {l : Launch} {G : GG} {EX : State → Prop} (hE : EXB G EX) {th : Nat} {a1 : Int32} {h : AH} (t0 : KD th = 8) {r : Int32 × AH} (hx : fX9_enough th a1 h = some r) : MetU l G EX mi_X9_enough 7 168 [.ref (G.1 + th), .int a1] h (some (.int r.1)) r.2 := by
  refine MetU.of mic_X9_enough.1 (Nat.le_of_ble_eq_true rfl) ?_
  refine show U l G EX mi_X9_enough 7 168 (some (.int r.1)) r.2 0 [(0, .ref (G.1 + th)), (1, .int a1)] [] h from ?_
  unfold fX9_enough at hx
  refine V.iload_n (j := 1) dX9_enough_0 rfl rfl rfl ?_
  obtain ⟨v2, q1, hx⟩ := ob_some hx
  refine U.callS (As := [.int a1]) (rest := []) (st' := [.int v2]) hE.1 (mX9_isCell hE q1) mic_X9_isCell rfl wq_m_X9_74 wq_t_yX9_isCell ⟨Nat.le_of_ble_eq_true rfl, Nat.le_of_ble_eq_true rfl⟩ (Nat.le_of_ble_eq_true rfl) dX9_enough_1 rfl rfl rfl ?_
  refine V.if_ne (tgt := 14) hx dX9_enough_4 (by decide) rfl (fun hx => ?_) (fun hx => ?_)
  · refine V.iconst dX9_enough_14 rfl ki_m1 ?_
    refine V.istore_n [(2, .int (-1 : Int32)), (0, .ref (G.1 + th)), (1, .int a1)] dX9_enough_15 rfl rfl (Nat.le_of_ble_eq_true rfl) rfl ?_
    refine V.iconst dX9_enough_16 rfl ki_0 ?_
    refine V.istore_n [(3, .int (0 : Int32)), (2, .int (-1 : Int32)), (0, .ref (G.1 + th)), (1, .int a1)] dX9_enough_17 rfl rfl (Nat.le_of_ble_eq_true rfl) rfl ?_
    refine V.pick [2, 3, 1, 0] rfl ?_
    exact vX9_enough_18 hE FU th a1 (-1 : Int32) (0 : Int32) h t0 hx
  · refine V.aload_n (j := 0) dX9_enough_7 rfl rfl rfl ?_
    refine V.bipush dX9_enough_8 rfl kb_m2 ?_
    obtain ⟨v16, h15, q14, hx⟩ := ob2_some hx
    refine U.callV (As := [.int (-2 : Int32)]) (rest := []) (st' := [.int v16]) hE.1 (mX9_bad hE t0 q14) mic_X9_bad rfl t0 (by decide) rfl rfl wq_m_X9_78 wq_i_yX9_bad wq_s_yX9_bad ⟨Nat.le_of_ble_eq_true rfl, Nat.le_of_ble_eq_true rfl⟩ (Nat.le_of_ble_eq_true rfl) dX9_enough_10 rfl rfl rfl ?_
    obtain rfl := Option.some.inj hx
    exact U.retI rfl rfl rfl rfl dX9_enough_13
set_option maxRecDepth 100000 in
set_option maxHeartbeats 4000000 in
theorem vX9_layHand_2 {l : Launch} {G : GG} {EX : State → Prop} (hE : EXB G EX) {r : AH} : ∀ (n : Nat) (l0 : Nat) (l1 : Int32) (h : AH) (t0 : KD l0 = 8), fX9_layHand_2 n l0 l1 h = some r → U l G EX mi_X9_layHand 0 0 none r 2 [(0, .ref (G.1 + l0)), (1, .int l1)] [] h := by
  intro n
  induction n with
  | zero =>
    intro l0 l1 h t0 hx
    have hx : none = some r := hx
    cases hx
  | succ n ih =>
    intro l0 l1 h t0 hx
    rw [fX9_layHand_2] at hx
    refine V.iload_n (j := 1) dX9_layHand_2 rfl rfl rfl ?_
    refine V.bipush dX9_layHand_3 rfl kb_46 ?_
    refine V.icmp_ge (tgt := 26) hx dX9_layHand_5 (by decide) rfl (fun hx => ?_) (fun hx => ?_)
    · obtain rfl := Option.some.inj hx
      exact U.ret0 rfl rfl rfl dX9_layHand_26
    · refine V.aload_n (j := 0) dX9_layHand_8 rfl rfl rfl ?_
      refine U.getP fl_X9_27 t0 dX9_layHand_9 rfl ?_
      refine V.iload_n (j := 1) dX9_layHand_12 rfl rfl rfl ?_
      refine V.aload_n (j := 0) dX9_layHand_13 rfl rfl rfl ?_
      refine U.getP fl_X9_7 t0 dX9_layHand_14 rfl ?_
      refine V.iload_n (j := 1) dX9_layHand_17 rfl rfl rfl ?_
      refine U.iald hx (ty_X9_0 t0) dX9_layHand_18 rfl (fun hx => ?_)
      refine U.iast hx (ty_X9_6 t0) dX9_layHand_19 rfl (fun h1 hx => ?_)
      refine U.iinc hx (fun v2 => [(1, .int v2), (0, .ref (G.1 + l0))]) (j := 1) rfl (by decide) (Nat.le_of_ble_eq_true rfl) (fun _ => rfl) dX9_layHand_20 rfl (fun v2 hx => ?_)
      refine V.goto (q := 2) dX9_layHand_23 (by decide) ?_
      refine V.pick [1, 0] rfl ?_
      exact ih l0 v2 h1 t0 hx
set_option maxRecDepth 100000 in
set_option maxHeartbeats 4000000 in
theorem mX9_layHand {l : Launch} {G : GG} {EX : State → Prop} (hE : EXB G EX) {th : Nat} {h : AH} (t0 : KD th = 8) {r : AH} (hx : fX9_layHand th h = some r) : MetU l G EX mi_X9_layHand 0 0 [.ref (G.1 + th)] h none r := by
  refine MetU.of mic_X9_layHand.1 (Nat.le_of_ble_eq_true rfl) ?_
  refine show U l G EX mi_X9_layHand 0 0 none r 0 [(0, .ref (G.1 + th))] [] h from ?_
  unfold fX9_layHand at hx
  refine V.iconst dX9_layHand_0 rfl ki_0 ?_
  refine V.istore_n [(1, .int (0 : Int32)), (0, .ref (G.1 + th))] dX9_layHand_1 rfl rfl (Nat.le_of_ble_eq_true rfl) rfl ?_
  refine V.pick [1, 0] rfl ?_
  exact vX9_layHand_2 hE FU th (0 : Int32) h t0 hx
set_option maxRecDepth 100000 in
set_option maxHeartbeats 4000000 in
theorem vX9_place_25 {l : Launch} {G : GG} {EX : State → Prop} (hE : EXB G EX) {r : Int32 × AH} : ∀ (l0 : Nat) (h : AH) (t0 : KD l0 = 8), fX9_place_25 l0 h = some r → U l G EX mi_X9_place 7 168 (some (.int r.1)) r.2 25 [(0, .ref (G.1 + l0))] [] h := by
  intro l0 h t0 hx
  unfold fX9_place_25 at hx
  refine V.aload_n (j := 0) dX9_place_25 rfl rfl rfl ?_
  refine V.bipush dX9_place_26 rfl kb_m2 ?_
  obtain ⟨v5, h4, q3, hx⟩ := ob2_some hx
  refine U.callV (As := [.int (-2 : Int32)]) (rest := []) (st' := [.int v5]) hE.1 (mX9_bad hE t0 q3) mic_X9_bad rfl t0 (by decide) rfl rfl wq_m_X9_78 wq_i_yX9_bad wq_s_yX9_bad ⟨Nat.le_of_ble_eq_true rfl, Nat.le_of_ble_eq_true rfl⟩ (Nat.le_of_ble_eq_true rfl) dX9_place_28 rfl rfl rfl ?_
  obtain rfl := Option.some.inj hx
  exact U.retI rfl rfl rfl rfl dX9_place_31
set_option maxRecDepth 100000 in
set_option maxHeartbeats 4000000 in
theorem vX9_place_136 {l : Launch} {G : GG} {EX : State → Prop} (hE : EXB G EX) {r : Int32 × AH} : ∀ (l3 : Int32) (l4 : Int32) (l5 : Int32) (h : AH), fX9_place_136 l3 l4 l5 h = some r → U l G EX mi_X9_place 7 168 (some (.int r.1)) r.2 136 [(3, .int l3), (4, .int l4), (5, .int l5)] [] h := by
  intro l3 l4 l5 h hx
  unfold fX9_place_136 at hx
  refine V.iload_n (j := 0) dX9_place_136 rfl rfl rfl ?_
  refine V.if_ne (tgt := 145) hx dX9_place_137 (by decide) rfl (fun hx => ?_) (fun hx => ?_)
  · refine V.iload (j := 2) dX9_place_145 rfl rfl ?_
    obtain rfl := Option.some.inj hx
    exact U.retI rfl rfl rfl rfl dX9_place_147
  · refine V.iload (j := 1) dX9_place_140 rfl rfl ?_
    refine V.goto (q := 147) dX9_place_142 (by decide) ?_
    obtain rfl := Option.some.inj hx
    exact U.retI rfl rfl rfl rfl dX9_place_147
set_option maxRecDepth 100000 in
set_option maxHeartbeats 4000000 in
theorem vX9_place_128 {l : Launch} {G : GG} {EX : State → Prop} (hE : EXB G EX) {r : Int32 × AH} {k56 : Nat → Int32 → Int32 → Int32 → Int32 → Int32 → Int32 → AH → Option (Int32 × AH)} (hk56 : ∀ (l0 : Nat) (l1 : Int32) (l2 : Int32) (l3 : Int32) (l4 : Int32) (l5 : Int32) (l6 : Int32) (h : AH) (t0 : KD l0 = 8), k56 l0 l1 l2 l3 l4 l5 l6 h = some r → U l G EX mi_X9_place 7 168 (some (.int r.1)) r.2 56 [(0, .ref (G.1 + l0)), (1, .int l1), (2, .int l2), (3, .int l3), (4, .int l4), (5, .int l5), (6, .int l6)] [] h) : ∀ (l0 : Nat) (l1 : Int32) (l2 : Int32) (l3 : Int32) (l4 : Int32) (l6 : Int32) (s0 : Int32) (h : AH) (t0 : KD l0 = 8), fX9_place_128 k56 l0 l1 l2 l3 l4 l6 s0 h = some r → U l G EX mi_X9_place 7 168 (some (.int r.1)) r.2 128 [(0, .ref (G.1 + l0)), (1, .int l1), (2, .int l2), (3, .int l3), (4, .int l4), (6, .int l6)] [.int s0] h := by
  intro l0 l1 l2 l3 l4 l6 s0 h t0 hx
  unfold fX9_place_128 at hx
  refine V.istore [(5, .int s0), (0, .ref (G.1 + l0)), (1, .int l1), (2, .int l2), (3, .int l3), (4, .int l4), (6, .int l6)] dX9_place_128 rfl (Nat.le_of_ble_eq_true rfl) rfl ?_
  refine U.iinc hx (fun v22 => [(6, .int v22), (5, .int s0), (0, .ref (G.1 + l0)), (1, .int l1), (2, .int l2), (3, .int l3), (4, .int l4)]) (j := 6) rfl (by decide) (Nat.le_of_ble_eq_true rfl) (fun _ => rfl) dX9_place_130 rfl (fun v22 hx => ?_)
  refine V.goto (q := 56) dX9_place_133 (by decide) ?_
  refine V.pick [2, 3, 4, 5, 6, 1, 0] rfl ?_
  exact hk56 l0 l1 l2 l3 l4 s0 v22 h t0 hx
set_option maxRecDepth 100000 in
set_option maxHeartbeats 4000000 in
theorem vX9_place_112 {l : Launch} {G : GG} {EX : State → Prop} (hE : EXB G EX) {r : Int32 × AH} {k56 : Nat → Int32 → Int32 → Int32 → Int32 → Int32 → Int32 → AH → Option (Int32 × AH)} (hk56 : ∀ (l0 : Nat) (l1 : Int32) (l2 : Int32) (l3 : Int32) (l4 : Int32) (l5 : Int32) (l6 : Int32) (h : AH) (t0 : KD l0 = 8), k56 l0 l1 l2 l3 l4 l5 l6 h = some r → U l G EX mi_X9_place 7 168 (some (.int r.1)) r.2 56 [(0, .ref (G.1 + l0)), (1, .int l1), (2, .int l2), (3, .int l3), (4, .int l4), (5, .int l5), (6, .int l6)] [] h) : ∀ (l0 : Nat) (l1 : Int32) (l2 : Int32) (l3 : Int32) (l5 : Int32) (l6 : Int32) (l7 : Int32) (s0 : Int32) (h : AH) (t0 : KD l0 = 8), fX9_place_112 k56 l0 l1 l2 l3 l5 l6 l7 s0 h = some r → U l G EX mi_X9_place 7 168 (some (.int r.1)) r.2 112 [(0, .ref (G.1 + l0)), (1, .int l1), (2, .int l2), (3, .int l3), (5, .int l5), (6, .int l6), (7, .int l7)] [.int s0] h := by
  intro l0 l1 l2 l3 l5 l6 l7 s0 h t0 hx
  unfold fX9_place_112 at hx
  refine V.istore [(4, .int s0), (0, .ref (G.1 + l0)), (1, .int l1), (2, .int l2), (3, .int l3), (5, .int l5), (6, .int l6), (7, .int l7)] dX9_place_112 rfl (Nat.le_of_ble_eq_true rfl) rfl ?_
  refine V.iload (j := 7) dX9_place_114 rfl rfl ?_
  refine V.iload (j := 5) dX9_place_116 rfl rfl ?_
  refine V.icmp_ge (tgt := 126) hx dX9_place_118 (by decide) rfl (fun hx => ?_) (fun hx => ?_)
  · refine V.iload (j := 5) dX9_place_126 rfl rfl ?_
    refine V.pick [1, 2, 3, 4, 0, 6] rfl ?_
    exact vX9_place_128 hE hk56 l0 l1 l2 l3 s0 l6 l5 h t0 hx
  · refine V.iload (j := 7) dX9_place_121 rfl rfl ?_
    refine V.goto (q := 128) dX9_place_123 (by decide) ?_
    refine V.pick [1, 2, 3, 4, 0, 6] rfl ?_
    exact vX9_place_128 hE hk56 l0 l1 l2 l3 s0 l6 l7 h t0 hx
set_option maxRecDepth 100000 in
set_option maxHeartbeats 4000000 in
theorem vX9_place_56 {l : Launch} {G : GG} {EX : State → Prop} (hE : EXB G EX) {r : Int32 × AH} : ∀ (n : Nat) (l0 : Nat) (l1 : Int32) (l2 : Int32) (l3 : Int32) (l4 : Int32) (l5 : Int32) (l6 : Int32) (h : AH) (t0 : KD l0 = 8), fX9_place_56 n l0 l1 l2 l3 l4 l5 l6 h = some r → U l G EX mi_X9_place 7 168 (some (.int r.1)) r.2 56 [(0, .ref (G.1 + l0)), (1, .int l1), (2, .int l2), (3, .int l3), (4, .int l4), (5, .int l5), (6, .int l6)] [] h := by
  intro n
  induction n with
  | zero =>
    intro l0 l1 l2 l3 l4 l5 l6 h t0 hx
    have hx : none = some r := hx
    cases hx
  | succ n ih =>
    intro l0 l1 l2 l3 l4 l5 l6 h t0 hx
    rw [fX9_place_56] at hx
    refine V.iload (j := 6) dX9_place_56 rfl rfl ?_
    refine V.bipush dX9_place_58 rfl kb_30 ?_
    refine V.icmp_ge (tgt := 136) hx dX9_place_60 (by decide) rfl (fun hx => ?_) (fun hx => ?_)
    · refine V.pick [3, 4, 5] rfl ?_
      exact vX9_place_136 hE l3 l4 l5 h hx
    · refine V.aload_n (j := 0) dX9_place_63 rfl rfl rfl ?_
      refine U.getP fl_X9_27 t0 dX9_place_64 rfl ?_
      refine V.bipush dX9_place_67 rfl kb_14 ?_
      refine V.iload_n (j := 1) dX9_place_69 rfl rfl rfl ?_
      refine V.iadd dX9_place_70 rfl ?_
      refine V.iload (j := 6) dX9_place_71 rfl rfl ?_
      refine U.iast hx (ty_X9_6 t0) dX9_place_73 rfl (fun h13 hx => ?_)
      refine V.aload_n (j := 0) dX9_place_74 rfl rfl rfl ?_
      refine U.getP fl_X9_27 t0 dX9_place_75 rfl ?_
      refine V.iload_n (j := 2) dX9_place_78 rfl rfl rfl ?_
      refine V.aload_n (j := 0) dX9_place_79 rfl rfl rfl ?_
      refine U.getP fl_X9_27 t0 dX9_place_80 rfl ?_
      obtain ⟨v15, q14, hx⟩ := ob_some hx
      refine U.callS (As := [.ref (G.1 + (PC l0 6))]) (rest := [.int l2, .ref (G.1 + (PC l0 6))]) (st' := [.int v15, .int l2, .ref (G.1 + (PC l0 6))]) hE.1 (mX9_isOn hE (ty_X9_6 t0) q14) mic_X9_isOn rfl wq_m_X9_133 wq_t_yX9_isOn ⟨Nat.le_of_ble_eq_true rfl, Nat.le_of_ble_eq_true rfl⟩ (Nat.le_of_ble_eq_true rfl) dX9_place_83 rfl rfl rfl ?_
      refine V.aload_n (j := 0) dX9_place_86 rfl rfl rfl ?_
      obtain ⟨v17, q16, hx⟩ := ob_some hx
      refine U.callV (As := []) (rest := [.int v15, .int l2, .ref (G.1 + (PC l0 6))]) (st' := [.int v17, .int v15, .int l2, .ref (G.1 + (PC l0 6))]) hE.1 (mX9_stepNow hE t0 q16) mic_X9_stepNow rfl t0 (by decide) rfl rfl wq_m_X9_169 wq_i_yX9_stepNow wq_s_yX9_stepNow ⟨Nat.le_of_ble_eq_true rfl, Nat.le_of_ble_eq_true rfl⟩ (Nat.le_of_ble_eq_true rfl) dX9_place_87 rfl rfl rfl ?_
      obtain ⟨v19, q18, hx⟩ := ob_some hx
      refine U.callS (As := [.ref (G.1 + (PC l0 6)), .int l2, .int v15, .int v17]) (rest := []) (st' := [.int v19]) hE.1 (mX9_whoSees hE (ty_X9_6 t0) q18) mic_X9_whoSees rfl wq_m_X9_137 wq_t_yX9_whoSees ⟨Nat.le_of_ble_eq_true rfl, Nat.le_of_ble_eq_true rfl⟩ (Nat.le_of_ble_eq_true rfl) dX9_place_90 rfl rfl rfl ?_
      obtain ⟨v21, q20, hx⟩ := ob_some hx
      refine U.callS (As := [.int v19]) (rest := []) (st' := [.int v21]) hE.1 (mX9_bits hE q20) mic_X9_bits rfl wq_m_X9_183 wq_t_yX9_bits ⟨Nat.le_of_ble_eq_true rfl, Nat.le_of_ble_eq_true rfl⟩ (Nat.le_of_ble_eq_true rfl) dX9_place_93 rfl rfl rfl ?_
      refine V.istore [(7, .int v21), (0, .ref (G.1 + l0)), (1, .int l1), (2, .int l2), (3, .int l3), (4, .int l4), (5, .int l5), (6, .int l6)] dX9_place_96 rfl (Nat.le_of_ble_eq_true rfl) rfl ?_
      refine V.iload (j := 0) dX9_place_98 rfl rfl ?_
      refine V.iload (j := 6) dX9_place_100 rfl rfl ?_
      refine V.icmp_ge (tgt := 110) hx dX9_place_102 (by decide) rfl (fun hx => ?_) (fun hx => ?_)
      · refine V.iload (j := 5) dX9_place_110 rfl rfl ?_
        refine V.pick [1, 2, 3, 4, 6, 7, 0] rfl ?_
        exact vX9_place_112 hE (ih) l0 l1 l2 l3 l5 l6 v21 l4 h13 t0 hx
      · refine V.iload (j := 7) dX9_place_105 rfl rfl ?_
        refine V.goto (q := 112) dX9_place_107 (by decide) ?_
        refine V.pick [1, 2, 3, 4, 6, 7, 0] rfl ?_
        exact vX9_place_112 hE (ih) l0 l1 l2 l3 l5 l6 v21 l6 h13 t0 hx
set_option maxRecDepth 100000 in
set_option maxHeartbeats 4000000 in
theorem mX9_place {l : Launch} {G : GG} {EX : State → Prop} (hE : EXB G EX) {th : Nat} {a1 : Int32} {a2 : Int32} {a3 : Int32} {h : AH} (t0 : KD th = 8) {r : Int32 × AH} (hx : fX9_place th a1 a2 a3 h = some r) : MetU l G EX mi_X9_place 7 168 [.ref (G.1 + th), .int a1, .int a2, .int a3] h (some (.int r.1)) r.2 := by
  refine MetU.of mic_X9_place.1 (Nat.le_of_ble_eq_true rfl) ?_
  refine show U l G EX mi_X9_place 7 168 (some (.int r.1)) r.2 0 [(0, .ref (G.1 + th)), (1, .int a1), (2, .int a2), (3, .int a3)] [] h from ?_
  unfold fX9_place at hx
  refine V.aload_n (j := 0) dX9_place_0 rfl rfl rfl ?_
  refine V.iload_n (j := 1) dX9_place_1 rfl rfl rfl ?_
  obtain ⟨v2, q1, hx⟩ := ob_some hx
  refine U.callV (As := [.int a1]) (rest := []) (st' := [.int v2]) hE.1 (mX9_isShow hE t0 q1) mic_X9_isShow rfl t0 (by decide) rfl rfl wq_m_X9_153 wq_i_yX9_isShow wq_s_yX9_isShow ⟨Nat.le_of_ble_eq_true rfl, Nat.le_of_ble_eq_true rfl⟩ (Nat.le_of_ble_eq_true rfl) dX9_place_2 rfl rfl rfl ?_
  refine V.if_eq (tgt := 25) hx dX9_place_5 (by decide) rfl (fun hx => ?_) (fun hx => ?_)
  · refine V.pick [0] rfl ?_
    exact vX9_place_25 hE th h t0 hx
  · refine V.iload_n (j := 2) dX9_place_8 rfl rfl rfl ?_
    obtain ⟨v7, q6, hx⟩ := ob_some hx
    refine U.callS (As := [.int a2]) (rest := []) (st' := [.int v7]) hE.1 (mX9_isCell hE q6) mic_X9_isCell rfl wq_m_X9_74 wq_t_yX9_isCell ⟨Nat.le_of_ble_eq_true rfl, Nat.le_of_ble_eq_true rfl⟩ (Nat.le_of_ble_eq_true rfl) dX9_place_9 rfl rfl rfl ?_
    refine V.if_eq (tgt := 25) hx dX9_place_12 (by decide) rfl (fun hx => ?_) (fun hx => ?_)
    · refine V.pick [0] rfl ?_
      exact vX9_place_25 hE th h t0 hx
    · refine V.iload_n (j := 3) dX9_place_15 rfl rfl rfl ?_
      refine V.i2l dX9_place_16 rfl ?_
      refine V.lconst dX9_place_17 rfl kl_0 ?_
      refine V.lconst dX9_place_18 rfl kl_1 ?_
      obtain ⟨v9, q8, hx⟩ := ob_some hx
      refine U.callS (As := [.long a3.toInt64, .long (0 : Int64), .long (1 : Int64)]) (rest := []) (st' := [.int v9]) hE.1 (mX9_in hE q8) mic_X9_in rfl wq_m_X9_59 wq_t_yX9_in ⟨Nat.le_of_ble_eq_true rfl, Nat.le_of_ble_eq_true rfl⟩ (Nat.le_of_ble_eq_true rfl) dX9_place_19 rfl rfl rfl ?_
      refine V.if_ne (tgt := 32) hx dX9_place_22 (by decide) rfl (fun hx => ?_) (fun hx => ?_)
      · refine V.iconst dX9_place_32 rfl ki_m1 ?_
        refine V.istore [(4, .int (-1 : Int32)), (0, .ref (G.1 + th)), (1, .int a1), (2, .int a2), (3, .int a3)] dX9_place_33 rfl (Nat.le_of_ble_eq_true rfl) rfl ?_
        refine V.ldc dX9_place_35 rfl wq_k_X9_186 ?_
        refine V.istore [(5, .int (1000000 : Int32)), (4, .int (-1 : Int32)), (0, .ref (G.1 + th)), (1, .int a1), (2, .int a2), (3, .int a3)] dX9_place_37 rfl (Nat.le_of_ble_eq_true rfl) rfl ?_
        refine V.aload_n (j := 2) dX9_place_39 rfl rfl rfl ?_
        obtain ⟨h11, q10, hx⟩ := ob_some hx
        refine U.callV (As := []) (rest := []) (st' := []) hE.1 (mX9_layHand hE t0 q10) mic_X9_layHand rfl t0 (by decide) rfl rfl wq_m_X9_187 wq_i_yX9_layHand wq_s_yX9_layHand ⟨Nat.le_of_ble_eq_true rfl, Nat.le_of_ble_eq_true rfl⟩ (Nat.le_of_ble_eq_true rfl) dX9_place_40 rfl rfl rfl ?_
        refine V.aload_n (j := 2) dX9_place_43 rfl rfl rfl ?_
        refine U.getP fl_X9_27 t0 dX9_place_44 rfl ?_
        refine V.bipush dX9_place_47 rfl kb_25 ?_
        refine V.iload_n (j := 3) dX9_place_49 rfl rfl rfl ?_
        refine V.iadd dX9_place_50 rfl ?_
        refine V.iconst dX9_place_51 rfl ki_1 ?_
        refine U.iast hx (ty_X9_6 t0) dX9_place_52 rfl (fun h12 hx => ?_)
        refine V.iconst dX9_place_53 rfl ki_0 ?_
        refine V.istore [(6, .int (0 : Int32)), (5, .int (1000000 : Int32)), (4, .int (-1 : Int32)), (0, .ref (G.1 + th)), (1, .int a1), (2, .int a2), (3, .int a3)] dX9_place_54 rfl (Nat.le_of_ble_eq_true rfl) rfl ?_
        refine V.pick [3, 4, 5, 6, 2, 1, 0] rfl ?_
        exact vX9_place_56 hE FU th a1 a2 a3 (-1 : Int32) (1000000 : Int32) (0 : Int32) h12 t0 hx
      · refine V.pick [0] rfl ?_
        exact vX9_place_25 hE th h t0 hx
set_option maxRecDepth 100000 in
set_option maxHeartbeats 4000000 in
theorem vX9_layGoals_80 {l : Launch} {G : GG} {EX : State → Prop} (hE : EXB G EX) {r : Int32 × AH} : ∀ (l2 : Int32) (h : AH), fX9_layGoals_80 l2 h = some r → U l G EX mi_X9_layGoals 1 25 (some (.int r.1)) r.2 80 [(2, .int l2)] [] h := by
  intro l2 h hx
  unfold fX9_layGoals_80 at hx
  refine V.iload_n (j := 0) dX9_layGoals_80 rfl rfl rfl ?_
  refine V.if_ne (tgt := 88) hx dX9_layGoals_81 (by decide) rfl (fun hx => ?_) (fun hx => ?_)
  · refine V.iload_n (j := 0) dX9_layGoals_88 rfl rfl rfl ?_
    obtain rfl := Option.some.inj hx
    exact U.retI rfl rfl rfl rfl dX9_layGoals_89
  · refine V.iconst dX9_layGoals_84 rfl ki_m1 ?_
    refine V.goto (q := 89) dX9_layGoals_85 (by decide) ?_
    obtain rfl := Option.some.inj hx
    exact U.retI rfl rfl rfl rfl dX9_layGoals_89
set_option maxRecDepth 100000 in
set_option maxHeartbeats 4000000 in
theorem vX9_layGoals_50 {l : Launch} {G : GG} {EX : State → Prop} (hE : EXB G EX) {r : Int32 × AH} : ∀ (n : Nat) (l0 : Nat) (l2 : Int32) (l3 : Int32) (l4 : Int32) (h : AH) (t0 : KD l0 = 8), fX9_layGoals_50 n l0 l2 l3 l4 h = some r → U l G EX mi_X9_layGoals 1 25 (some (.int r.1)) r.2 50 [(0, .ref (G.1 + l0)), (2, .int l2), (3, .int l3), (4, .int l4)] [] h := by
  intro n
  induction n with
  | zero =>
    intro l0 l2 l3 l4 h t0 hx
    have hx : none = some r := hx
    cases hx
  | succ n ih =>
    intro l0 l2 l3 l4 h t0 hx
    rw [fX9_layGoals_50] at hx
    refine V.iload (j := 3) dX9_layGoals_50 rfl rfl ?_
    refine V.if_lt (tgt := 80) hx dX9_layGoals_52 (by decide) rfl (fun hx => ?_) (fun hx => ?_)
    · refine V.pick [1] rfl ?_
      exact vX9_layGoals_80 hE l2 h hx
    · refine V.aload_n (j := 0) dX9_layGoals_55 rfl rfl rfl ?_
      refine U.getP fl_X9_30 t0 dX9_layGoals_56 rfl ?_
      refine V.iload (j := 3) dX9_layGoals_59 rfl rfl ?_
      refine V.iload_n (j := 2) dX9_layGoals_61 rfl rfl rfl ?_
      refine V.bipush dX9_layGoals_62 rfl kb_100 ?_
      refine V.irem dX9_layGoals_64 rfl (by decide) ?_
      refine V.bipush dX9_layGoals_65 rfl kb_11 ?_
      refine V.isub dX9_layGoals_67 rfl ?_
      refine U.iast hx (ty_X9_7 t0) dX9_layGoals_68 rfl (fun h2 hx => ?_)
      refine V.iload_n (j := 2) dX9_layGoals_69 rfl rfl rfl ?_
      refine V.bipush dX9_layGoals_70 rfl kb_100 ?_
      refine V.idiv dX9_layGoals_72 rfl (by decide) ?_
      refine U.letI hx (fun v3 hx => ?_)
      refine V.istore_n [(3, .int v3), (0, .ref (G.1 + l0)), (2, .int l2), (4, .int l4)] dX9_layGoals_73 rfl rfl (Nat.le_of_ble_eq_true rfl) rfl ?_
      refine U.iinc hx (fun v4 => [(4, .int v4), (3, .int v3), (0, .ref (G.1 + l0)), (2, .int l2)]) (j := 3) rfl (by decide) (Nat.le_of_ble_eq_true rfl) (fun _ => rfl) dX9_layGoals_74 rfl (fun v4 hx => ?_)
      refine V.goto (q := 50) dX9_layGoals_77 (by decide) ?_
      refine V.pick [2, 3, 1, 0] rfl ?_
      exact ih l0 l2 v3 v4 h2 t0 hx
set_option maxRecDepth 100000 in
set_option maxHeartbeats 4000000 in
theorem vX9_layGoals_43 {l : Launch} {G : GG} {EX : State → Prop} (hE : EXB G EX) {r : Int32 × AH} : ∀ (l0 : Nat) (l1 : Int32) (l2 : Int32) (h : AH) (t0 : KD l0 = 8), fX9_layGoals_43 l0 l1 l2 h = some r → U l G EX mi_X9_layGoals 1 25 (some (.int r.1)) r.2 43 [(0, .ref (G.1 + l0)), (1, .int l1), (2, .int l2)] [] h := by
  intro l0 l1 l2 h t0 hx
  unfold fX9_layGoals_43 at hx
  refine V.iload_n (j := 1) dX9_layGoals_43 rfl rfl rfl ?_
  refine V.istore_n [(3, .int l1), (0, .ref (G.1 + l0)), (1, .int l1), (2, .int l2)] dX9_layGoals_44 rfl rfl (Nat.le_of_ble_eq_true rfl) rfl ?_
  refine V.iload_n (j := 3) dX9_layGoals_45 rfl rfl rfl ?_
  refine V.iconst dX9_layGoals_46 rfl ki_1 ?_
  refine V.isub dX9_layGoals_47 rfl ?_
  refine U.letI hx (fun v1 hx => ?_)
  refine V.istore [(4, .int v1), (3, .int l1), (0, .ref (G.1 + l0)), (1, .int l1), (2, .int l2)] dX9_layGoals_48 rfl (Nat.le_of_ble_eq_true rfl) rfl ?_
  refine V.pick [2, 4, 1, 0] rfl ?_
  exact vX9_layGoals_50 hE FU l0 l2 l1 v1 h t0 hx
set_option maxRecDepth 100000 in
set_option maxHeartbeats 4000000 in
theorem vX9_layGoals_4 {l : Launch} {G : GG} {EX : State → Prop} (hE : EXB G EX) {r : Int32 × AH} : ∀ (n : Nat) (l0 : Nat) (l1 : Int32) (l2 : Int32) (l3 : Int32) (h : AH) (t0 : KD l0 = 8), fX9_layGoals_4 n l0 l1 l2 l3 h = some r → U l G EX mi_X9_layGoals 1 25 (some (.int r.1)) r.2 4 [(0, .ref (G.1 + l0)), (1, .int l1), (2, .int l2), (3, .int l3)] [] h := by
  intro n
  induction n with
  | zero =>
    intro l0 l1 l2 l3 h t0 hx
    have hx : none = some r := hx
    cases hx
  | succ n ih =>
    intro l0 l1 l2 l3 h t0 hx
    rw [fX9_layGoals_4] at hx
    refine V.iload_n (j := 3) dX9_layGoals_4 rfl rfl rfl ?_
    refine V.if_le (tgt := 43) hx dX9_layGoals_5 (by decide) rfl (fun hx => ?_) (fun hx => ?_)
    · refine V.pick [0, 1, 2] rfl ?_
      exact vX9_layGoals_43 hE l0 l1 l2 h t0 hx
    · refine V.iload_n (j := 2) dX9_layGoals_8 rfl rfl rfl ?_
      refine V.iconst dX9_layGoals_9 rfl ki_4 ?_
      refine V.icmp_eq (tgt := 30) hx dX9_layGoals_10 (by decide) rfl (fun hx => ?_) (fun hx => ?_)
      · refine V.iconst dX9_layGoals_30 rfl ki_m1 ?_
        obtain rfl := Option.some.inj hx
        exact U.retI rfl rfl rfl rfl dX9_layGoals_31
      · refine V.iload_n (j := 3) dX9_layGoals_13 rfl rfl rfl ?_
        refine V.bipush dX9_layGoals_14 rfl kb_100 ?_
        refine V.irem dX9_layGoals_16 rfl (by decide) ?_
        refine V.i2l dX9_layGoals_17 rfl ?_
        refine V.ldc2_w dX9_layGoals_18 rfl wq_l_X9_68 ?_
        refine V.ldc2_w dX9_layGoals_21 rfl wq_l_X9_190 ?_
        obtain ⟨v6, q5, hx⟩ := ob_some hx
        refine U.callS (As := [.long ((jrem l3 (100 : Int32)).toInt64), .long (11 : Int64), .long (40 : Int64)]) (rest := []) (st' := [.int v6]) hE.1 (mX9_in hE q5) mic_X9_in rfl wq_m_X9_59 wq_t_yX9_in ⟨Nat.le_of_ble_eq_true rfl, Nat.le_of_ble_eq_true rfl⟩ (Nat.le_of_ble_eq_true rfl) dX9_layGoals_24 rfl rfl rfl ?_
        refine V.if_ne (tgt := 32) hx dX9_layGoals_27 (by decide) rfl (fun hx => ?_) (fun hx => ?_)
        · refine U.iinc hx (fun v7 => [(2, .int v7), (0, .ref (G.1 + l0)), (1, .int l1), (3, .int l3)]) (j := 2) rfl (by decide) (Nat.le_of_ble_eq_true rfl) (fun _ => rfl) dX9_layGoals_32 rfl (fun v7 hx => ?_)
          refine V.iload_n (j := 3) dX9_layGoals_35 rfl rfl rfl ?_
          refine V.bipush dX9_layGoals_36 rfl kb_100 ?_
          refine V.idiv dX9_layGoals_38 rfl (by decide) ?_
          refine U.letI hx (fun v8 hx => ?_)
          refine V.istore_n [(3, .int v8), (2, .int v7), (0, .ref (G.1 + l0)), (1, .int l1)] dX9_layGoals_39 rfl rfl (Nat.le_of_ble_eq_true rfl) rfl ?_
          refine V.goto (q := 4) dX9_layGoals_40 (by decide) ?_
          refine V.pick [2, 3, 1, 0] rfl ?_
          exact ih l0 l1 v7 v8 h t0 hx
        · refine V.iconst dX9_layGoals_30 rfl ki_m1 ?_
          obtain rfl := Option.some.inj hx
          exact U.retI rfl rfl rfl rfl dX9_layGoals_31
set_option maxRecDepth 100000 in
set_option maxHeartbeats 4000000 in
theorem mX9_layGoals {l : Launch} {G : GG} {EX : State → Prop} (hE : EXB G EX) {th : Nat} {a1 : Int32} {h : AH} (t0 : KD th = 8) {r : Int32 × AH} (hx : fX9_layGoals th a1 h = some r) : MetU l G EX mi_X9_layGoals 1 25 [.ref (G.1 + th), .int a1] h (some (.int r.1)) r.2 := by
  refine MetU.of mic_X9_layGoals.1 (Nat.le_of_ble_eq_true rfl) ?_
  refine show U l G EX mi_X9_layGoals 1 25 (some (.int r.1)) r.2 0 [(0, .ref (G.1 + th)), (1, .int a1)] [] h from ?_
  unfold fX9_layGoals at hx
  refine V.iconst dX9_layGoals_0 rfl ki_0 ?_
  refine V.istore_n [(2, .int (0 : Int32)), (0, .ref (G.1 + th)), (1, .int a1)] dX9_layGoals_1 rfl rfl (Nat.le_of_ble_eq_true rfl) rfl ?_
  refine V.iload_n (j := 2) dX9_layGoals_2 rfl rfl rfl ?_
  refine V.istore_n [(3, .int a1), (2, .int (0 : Int32)), (0, .ref (G.1 + th)), (1, .int a1)] dX9_layGoals_3 rfl rfl (Nat.le_of_ble_eq_true rfl) rfl ?_
  refine V.pick [2, 3, 1, 0] rfl ?_
  exact vX9_layGoals_4 hE FU th a1 (0 : Int32) a1 h t0 hx
set_option maxRecDepth 100000 in
set_option maxHeartbeats 4000000 in
theorem vX9_lastBy_32 {l : Launch} {G : GG} {EX : State → Prop} (hE : EXB G EX) {r : Int32 × AH} {k50 : AH → Option (Int32 × AH)} {k59 : Nat → Int32 → Int32 → Int32 → Int32 → Int32 → AH → Option (Int32 × AH)} (hk50 : ∀ (h : AH), k50 h = some r → U l G EX mi_X9_lastBy 0 0 (some (.int r.1)) r.2 50 [] [] h) (hk59 : ∀ (l0 : Nat) (l2 : Int32) (l3 : Int32) (l4 : Int32) (l5 : Int32) (l6 : Int32) (h : AH) (t0 : KD l0 = 8), k59 l0 l2 l3 l4 l5 l6 h = some r → U l G EX mi_X9_lastBy 0 0 (some (.int r.1)) r.2 59 [(0, .ref (G.1 + l0)), (2, .int l2), (3, .int l3), (4, .int l4), (5, .int l5), (6, .int l6)] [] h) : ∀ (n : Nat) (l0 : Nat) (l2 : Int32) (l3 : Int32) (l4 : Int32) (l5 : Int32) (l6 : Int32) (l7 : Int32) (h : AH) (t0 : KD l0 = 8), fX9_lastBy_32 k50 k59 n l0 l2 l3 l4 l5 l6 l7 h = some r → U l G EX mi_X9_lastBy 0 0 (some (.int r.1)) r.2 32 [(0, .ref (G.1 + l0)), (2, .int l2), (3, .int l3), (4, .int l4), (5, .int l5), (6, .int l6), (7, .int l7)] [] h := by
  intro n
  induction n with
  | zero =>
    intro l0 l2 l3 l4 l5 l6 l7 h t0 hx
    have hx : none = some r := hx
    cases hx
  | succ n ih =>
    intro l0 l2 l3 l4 l5 l6 l7 h t0 hx
    rw [fX9_lastBy_32] at hx
    refine V.iload (j := 6) dX9_lastBy_32 rfl rfl ?_
    refine V.iload_n (j := 1) dX9_lastBy_34 rfl rfl rfl ?_
    refine V.icmp_ge (tgt := 59) hx dX9_lastBy_35 (by decide) rfl (fun hx => ?_) (fun hx => ?_)
    · refine V.pick [0, 1, 2, 3, 4, 5] rfl ?_
      exact hk59 l0 l2 l3 l4 l5 l6 h t0 hx
    · refine V.aload_n (j := 0) dX9_lastBy_38 rfl rfl rfl ?_
      refine U.getP fl_X9_36 t0 dX9_lastBy_39 rfl ?_
      refine V.iload (j := 6) dX9_lastBy_42 rfl rfl ?_
      refine U.iald hx (ty_X9_9 t0) dX9_lastBy_44 rfl (fun hx => ?_)
      refine V.iload (j := 5) dX9_lastBy_45 rfl rfl ?_
      refine V.icmp_ne (tgt := 53) hx dX9_lastBy_47 (by decide) rfl (fun hx => ?_) (fun hx => ?_)
      · refine U.iinc hx (fun v5 => [(7, .int v5), (0, .ref (G.1 + l0)), (2, .int l2), (3, .int l3), (4, .int l4), (5, .int l5), (6, .int l6)]) (j := 6) rfl (by decide) (Nat.le_of_ble_eq_true rfl) (fun _ => rfl) dX9_lastBy_53 rfl (fun v5 hx => ?_)
        refine V.goto (q := 32) dX9_lastBy_56 (by decide) ?_
        refine V.pick [1, 2, 3, 4, 5, 6, 0] rfl ?_
        exact ih l0 l2 l3 l4 l5 l6 v5 h t0 hx
      · refine V.pick [] rfl ?_
        exact hk50 h hx
set_option maxRecDepth 100000 in
set_option maxHeartbeats 4000000 in
theorem vX9_lastBy_50 {l : Launch} {G : GG} {EX : State → Prop} (hE : EXB G EX) {r : Int32 × AH} : ∀ (h : AH), fX9_lastBy_50  h = some r → U l G EX mi_X9_lastBy 0 0 (some (.int r.1)) r.2 50 [] [] h := by
  intro h hx
  unfold fX9_lastBy_50 at hx
  refine V.ldc dX9_lastBy_50 rfl wq_k_X9_186 ?_
  obtain rfl := Option.some.inj hx
  exact U.retI rfl rfl rfl rfl dX9_lastBy_52
set_option maxRecDepth 100000 in
set_option maxHeartbeats 4000000 in
theorem vX9_lastBy_105 {l : Launch} {G : GG} {EX : State → Prop} (hE : EXB G EX) {r : Int32 × AH} {k10 : Nat → Int32 → Int32 → Int32 → Int32 → AH → Option (Int32 × AH)} (hk10 : ∀ (l0 : Nat) (l2 : Int32) (l3 : Int32) (l4 : Int32) (l5 : Int32) (h : AH) (t0 : KD l0 = 8), k10 l0 l2 l3 l4 l5 h = some r → U l G EX mi_X9_lastBy 0 0 (some (.int r.1)) r.2 10 [(0, .ref (G.1 + l0)), (2, .int l2), (3, .int l3), (4, .int l4), (5, .int l5)] [] h) : ∀ (l0 : Nat) (l2 : Int32) (l3 : Int32) (l5 : Int32) (s0 : Int32) (h : AH) (t0 : KD l0 = 8), fX9_lastBy_105 k10 l0 l2 l3 l5 s0 h = some r → U l G EX mi_X9_lastBy 0 0 (some (.int r.1)) r.2 105 [(0, .ref (G.1 + l0)), (2, .int l2), (3, .int l3), (5, .int l5)] [.int s0] h := by
  intro l0 l2 l3 l5 s0 h t0 hx
  unfold fX9_lastBy_105 at hx
  refine V.istore [(4, .int s0), (0, .ref (G.1 + l0)), (2, .int l2), (3, .int l3), (5, .int l5)] dX9_lastBy_105 rfl (Nat.le_of_ble_eq_true rfl) rfl ?_
  refine U.iinc hx (fun v16 => [(5, .int v16), (4, .int s0), (0, .ref (G.1 + l0)), (2, .int l2), (3, .int l3)]) (j := 4) rfl (by decide) (Nat.le_of_ble_eq_true rfl) (fun _ => rfl) dX9_lastBy_107 rfl (fun v16 hx => ?_)
  refine V.goto (q := 10) dX9_lastBy_110 (by decide) ?_
  refine V.pick [2, 3, 4, 1, 0] rfl ?_
  exact hk10 l0 l2 l3 s0 v16 h t0 hx
set_option maxRecDepth 100000 in
set_option maxHeartbeats 4000000 in
theorem vX9_lastBy_75 {l : Launch} {G : GG} {EX : State → Prop} (hE : EXB G EX) {r : Int32 × AH} : ∀ (h : AH), fX9_lastBy_75  h = some r → U l G EX mi_X9_lastBy 0 0 (some (.int r.1)) r.2 75 [] [] h := by
  intro h hx
  unfold fX9_lastBy_75 at hx
  refine V.ldc dX9_lastBy_75 rfl wq_k_X9_186 ?_
  obtain rfl := Option.some.inj hx
  exact U.retI rfl rfl rfl rfl dX9_lastBy_77
set_option maxRecDepth 100000 in
set_option maxHeartbeats 4000000 in
theorem vX9_lastBy_10 {l : Launch} {G : GG} {EX : State → Prop} (hE : EXB G EX) {r : Int32 × AH} : ∀ (n : Nat) (l0 : Nat) (l2 : Int32) (l3 : Int32) (l4 : Int32) (l5 : Int32) (h : AH) (t0 : KD l0 = 8), fX9_lastBy_10 n l0 l2 l3 l4 l5 h = some r → U l G EX mi_X9_lastBy 0 0 (some (.int r.1)) r.2 10 [(0, .ref (G.1 + l0)), (2, .int l2), (3, .int l3), (4, .int l4), (5, .int l5)] [] h := by
  intro n
  induction n with
  | zero =>
    intro l0 l2 l3 l4 l5 h t0 hx
    have hx : none = some r := hx
    cases hx
  | succ n ih =>
    intro l0 l2 l3 l4 l5 h t0 hx
    rw [fX9_lastBy_10] at hx
    refine V.iload (j := 4) dX9_lastBy_10 rfl rfl ?_
    refine V.if_lt (tgt := 113) hx dX9_lastBy_12 (by decide) rfl (fun hx => ?_) (fun hx => ?_)
    · refine V.iload (j := 3) dX9_lastBy_113 rfl rfl ?_
      obtain rfl := Option.some.inj hx
      exact U.retI rfl rfl rfl rfl dX9_lastBy_115
    · refine V.iload_n (j := 2) dX9_lastBy_15 rfl rfl rfl ?_
      refine V.bipush dX9_lastBy_16 rfl kb_24 ?_
      refine V.irem dX9_lastBy_18 rfl (by decide) ?_
      refine U.letI hx (fun v2 hx => ?_)
      refine V.istore [(6, .int v2), (0, .ref (G.1 + l0)), (2, .int l2), (3, .int l3), (4, .int l4), (5, .int l5)] dX9_lastBy_19 rfl (Nat.le_of_ble_eq_true rfl) rfl ?_
      refine V.iload_n (j := 3) dX9_lastBy_21 rfl rfl rfl ?_
      refine V.bipush dX9_lastBy_22 rfl kb_24 ?_
      refine V.idiv dX9_lastBy_24 rfl (by decide) ?_
      refine U.letI hx (fun v3 hx => ?_)
      refine V.istore_n [(3, .int v3), (6, .int v2), (0, .ref (G.1 + l0)), (2, .int l2), (4, .int l4), (5, .int l5)] dX9_lastBy_25 rfl rfl (Nat.le_of_ble_eq_true rfl) rfl ?_
      refine V.iload (j := 5) dX9_lastBy_26 rfl rfl ?_
      refine V.iconst dX9_lastBy_28 rfl ki_1 ?_
      refine V.iadd dX9_lastBy_29 rfl ?_
      refine U.letI hx (fun v4 hx => ?_)
      refine V.istore [(7, .int v4), (3, .int v3), (6, .int v2), (0, .ref (G.1 + l0)), (2, .int l2), (4, .int l4), (5, .int l5)] dX9_lastBy_30 rfl (Nat.le_of_ble_eq_true rfl) rfl ?_
      refine V.pick [3, 4, 1, 5, 6, 2, 0] rfl ?_
      refine vX9_lastBy_32 hE (fun h6 hx => ?_) (fun w7 w8 w9 w10 w11 w12 h13 t14 hx => ?_) FU l0 l2 v3 l4 l5 v2 v4 h t0 hx
      · exact vX9_lastBy_50 hE h6 hx
      · refine V.aload_n (j := 0) dX9_lastBy_59 rfl rfl rfl ?_
        refine U.getP fl_X9_33 t14 dX9_lastBy_60 rfl ?_
        refine V.bipush dX9_lastBy_63 rfl kb_24 ?_
        refine V.iload (j := 4) dX9_lastBy_65 rfl rfl ?_
        refine V.imul dX9_lastBy_67 rfl ?_
        refine V.iload (j := 5) dX9_lastBy_68 rfl rfl ?_
        refine V.iadd dX9_lastBy_70 rfl ?_
        refine U.zald hx (ty_X9_8 t14) dX9_lastBy_71 rfl (fun hx => ?_)
        refine V.if_ne (tgt := 78) hx dX9_lastBy_72 (by decide) rfl (fun hx => ?_) (fun hx => ?_)
        · refine V.aload_n (j := 0) dX9_lastBy_78 rfl rfl rfl ?_
          refine U.getP fl_X9_36 t14 dX9_lastBy_79 rfl ?_
          refine V.iload (j := 4) dX9_lastBy_82 rfl rfl ?_
          refine V.iload (j := 5) dX9_lastBy_84 rfl rfl ?_
          refine U.iast hx (ty_X9_9 t14) dX9_lastBy_86 rfl (fun h15 hx => ?_)
          refine V.iload (j := 5) dX9_lastBy_87 rfl rfl ?_
          refine V.iconst dX9_lastBy_89 rfl ki_1 ?_
          refine V.iadd dX9_lastBy_90 rfl ?_
          refine V.iload (j := 3) dX9_lastBy_91 rfl rfl ?_
          refine V.icmp_le (tgt := 103) hx dX9_lastBy_93 (by decide) rfl (fun hx => ?_) (fun hx => ?_)
          · refine V.iload (j := 3) dX9_lastBy_103 rfl rfl ?_
            refine V.pick [0, 1, 2, 4] rfl ?_
            exact vX9_lastBy_105 hE (ih) w7 w8 w9 w11 w10 h15 t14 hx
          · refine V.iload (j := 5) dX9_lastBy_96 rfl rfl ?_
            refine V.iconst dX9_lastBy_98 rfl ki_1 ?_
            refine V.iadd dX9_lastBy_99 rfl ?_
            refine V.goto (q := 105) dX9_lastBy_100 (by decide) ?_
            refine V.pick [0, 1, 2, 4] rfl ?_
            exact vX9_lastBy_105 hE (ih) w7 w8 w9 w11 (w12 + (1 : Int32)) h15 t14 hx
        · refine V.pick [] rfl ?_
          exact vX9_lastBy_75 hE h13 hx
set_option maxRecDepth 100000 in
set_option maxHeartbeats 4000000 in
theorem mX9_lastBy {l : Launch} {G : GG} {EX : State → Prop} (hE : EXB G EX) {th : Nat} {a1 : Int32} {a2 : Int32} {h : AH} (t0 : KD th = 8) {r : Int32 × AH} (hx : fX9_lastBy th a1 a2 h = some r) : MetU l G EX mi_X9_lastBy 0 0 [.ref (G.1 + th), .int a1, .int a2] h (some (.int r.1)) r.2 := by
  refine MetU.of mic_X9_lastBy.1 (Nat.le_of_ble_eq_true rfl) ?_
  refine show U l G EX mi_X9_lastBy 0 0 (some (.int r.1)) r.2 0 [(0, .ref (G.1 + th)), (1, .int a1), (2, .int a2)] [] h from ?_
  unfold fX9_lastBy at hx
  refine V.iload_n (j := 1) dX9_lastBy_0 rfl rfl rfl ?_
  refine V.istore_n [(3, .int a1), (0, .ref (G.1 + th)), (1, .int a1), (2, .int a2)] dX9_lastBy_1 rfl rfl (Nat.le_of_ble_eq_true rfl) rfl ?_
  refine V.iconst dX9_lastBy_2 rfl ki_0 ?_
  refine V.istore [(4, .int (0 : Int32)), (3, .int a1), (0, .ref (G.1 + th)), (1, .int a1), (2, .int a2)] dX9_lastBy_3 rfl (Nat.le_of_ble_eq_true rfl) rfl ?_
  refine V.iload_n (j := 4) dX9_lastBy_5 rfl rfl rfl ?_
  refine V.iconst dX9_lastBy_6 rfl ki_1 ?_
  refine V.isub dX9_lastBy_7 rfl ?_
  refine U.letI hx (fun v1 hx => ?_)
  refine V.istore [(5, .int v1), (4, .int (0 : Int32)), (3, .int a1), (0, .ref (G.1 + th)), (1, .int a1), (2, .int a2)] dX9_lastBy_8 rfl (Nat.le_of_ble_eq_true rfl) rfl ?_
  refine V.pick [3, 5, 2, 1, 0] rfl ?_
  exact vX9_lastBy_10 hE FU th a2 a1 (0 : Int32) v1 h t0 hx
set_option maxRecDepth 100000 in
set_option maxHeartbeats 4000000 in
theorem vX9_plan_16 {l : Launch} {G : GG} {EX : State → Prop} (hE : EXB G EX) {r : Int32 × AH} : ∀ (l0 : Nat) (h : AH) (t0 : KD l0 = 8), fX9_plan_16 l0 h = some r → U l G EX mi_X9_plan 8 190 (some (.int r.1)) r.2 16 [(0, .ref (G.1 + l0))] [] h := by
  intro l0 h t0 hx
  unfold fX9_plan_16 at hx
  refine V.aload_n (j := 0) dX9_plan_16 rfl rfl rfl ?_
  refine V.bipush dX9_plan_17 rfl kb_m10 ?_
  obtain ⟨v6, h5, q4, hx⟩ := ob2_some hx
  refine U.callV (As := [.int (-10 : Int32)]) (rest := []) (st' := [.int v6]) hE.1 (mX9_bad hE t0 q4) mic_X9_bad rfl t0 (by decide) rfl rfl wq_m_X9_78 wq_i_yX9_bad wq_s_yX9_bad ⟨Nat.le_of_ble_eq_true rfl, Nat.le_of_ble_eq_true rfl⟩ (Nat.le_of_ble_eq_true rfl) dX9_plan_19 rfl rfl rfl ?_
  obtain rfl := Option.some.inj hx
  exact U.retI rfl rfl rfl rfl dX9_plan_22
set_option maxRecDepth 100000 in
set_option maxHeartbeats 4000000 in
theorem vX9_plan_171 {l : Launch} {G : GG} {EX : State → Prop} (hE : EXB G EX) {r : Int32 × AH} : ∀ (l0 : Nat) (l2 : Int32) (l3 : Int32) (l5 : Int32) (h : AH) (t0 : KD l0 = 8), fX9_plan_171 l0 l2 l3 l5 h = some r → U l G EX mi_X9_plan 8 190 (some (.int r.1)) r.2 171 [(0, .ref (G.1 + l0)), (2, .int l2), (3, .int l3), (5, .int l5)] [] h := by
  intro l0 l2 l3 l5 h t0 hx
  unfold fX9_plan_171 at hx
  refine V.iload (j := 3) dX9_plan_171 rfl rfl ?_
  refine V.ldc dX9_plan_173 rfl wq_k_X9_186 ?_
  refine V.icmp_ne (tgt := 182) hx dX9_plan_175 (by decide) rfl (fun hx => ?_) (fun hx => ?_)
  · refine V.iload_n (j := 1) dX9_plan_182 rfl rfl rfl ?_
    refine V.iconst dX9_plan_183 rfl ki_m1 ?_
    refine V.icmp_ne (tgt := 192) hx dX9_plan_184 (by decide) rfl (fun hx => ?_) (fun hx => ?_)
    · refine V.iload_n (j := 1) dX9_plan_192 rfl rfl rfl ?_
      refine V.iload_n (j := 2) dX9_plan_193 rfl rfl rfl ?_
      refine V.icmp_ge (tgt := 206) hx dX9_plan_194 (by decide) rfl (fun hx => ?_) (fun hx => ?_)
      · refine V.bipush dX9_plan_206 rfl kb_m5 ?_
        obtain rfl := Option.some.inj hx
        exact U.retI rfl rfl rfl rfl dX9_plan_208
      · refine V.aload_n (j := 0) dX9_plan_197 rfl rfl rfl ?_
        refine U.getP fl_X9_39 t0 dX9_plan_198 rfl ?_
        refine V.iload_n (j := 1) dX9_plan_201 rfl rfl rfl ?_
        refine U.iald hx (ty_X9_10 t0) dX9_plan_202 rfl (fun hx => ?_)
        refine V.goto (q := 208) dX9_plan_203 (by decide) ?_
        obtain rfl := Option.some.inj hx
        exact U.retI rfl rfl rfl rfl dX9_plan_208
    · refine V.iload (j := 3) dX9_plan_187 rfl rfl ?_
      refine V.goto (q := 208) dX9_plan_189 (by decide) ?_
      obtain rfl := Option.some.inj hx
      exact U.retI rfl rfl rfl rfl dX9_plan_208
  · refine V.iconst dX9_plan_178 rfl ki_m1 ?_
    refine V.goto (q := 208) dX9_plan_179 (by decide) ?_
    obtain rfl := Option.some.inj hx
    exact U.retI rfl rfl rfl rfl dX9_plan_208
set_option maxRecDepth 100000 in
set_option maxHeartbeats 4000000 in
theorem vX9_plan_116 {l : Launch} {G : GG} {EX : State → Prop} (hE : EXB G EX) {r : Int32 × AH} {k149 : Nat → Int32 → Int32 → Int32 → Int32 → Int32 → Int32 → AH → Option (Int32 × AH)} (hk149 : ∀ (l0 : Nat) (l2 : Int32) (l3 : Int32) (l4 : Int32) (l5 : Int32) (l6 : Int32) (l7 : Int32) (h : AH) (t0 : KD l0 = 8), k149 l0 l2 l3 l4 l5 l6 l7 h = some r → U l G EX mi_X9_plan 8 190 (some (.int r.1)) r.2 149 [(0, .ref (G.1 + l0)), (2, .int l2), (3, .int l3), (4, .int l4), (5, .int l5), (6, .int l6), (7, .int l7)] [] h) : ∀ (n : Nat) (l0 : Nat) (l2 : Int32) (l3 : Int32) (l4 : Int32) (l5 : Int32) (l6 : Int32) (l7 : Int32) (l8 : Int32) (h : AH) (t0 : KD l0 = 8), fX9_plan_116 k149 n l0 l2 l3 l4 l5 l6 l7 l8 h = some r → U l G EX mi_X9_plan 8 190 (some (.int r.1)) r.2 116 [(0, .ref (G.1 + l0)), (2, .int l2), (3, .int l3), (4, .int l4), (5, .int l5), (6, .int l6), (7, .int l7), (8, .int l8)] [] h := by
  intro n
  induction n with
  | zero =>
    intro l0 l2 l3 l4 l5 l6 l7 l8 h t0 hx
    have hx : none = some r := hx
    cases hx
  | succ n ih =>
    intro l0 l2 l3 l4 l5 l6 l7 l8 h t0 hx
    rw [fX9_plan_116] at hx
    refine V.iload (j := 7) dX9_plan_116 rfl rfl ?_
    refine V.iload_n (j := 2) dX9_plan_118 rfl rfl rfl ?_
    refine V.icmp_ge (tgt := 149) hx dX9_plan_119 (by decide) rfl (fun hx => ?_) (fun hx => ?_)
    · refine V.pick [0, 1, 2, 3, 4, 5, 6] rfl ?_
      exact hk149 l0 l2 l3 l4 l5 l6 l7 h t0 hx
    · refine V.iload (j := 6) dX9_plan_122 rfl rfl ?_
      refine V.iload (j := 4) dX9_plan_124 rfl rfl ?_
      refine V.icmp_ge (tgt := 149) hx dX9_plan_126 (by decide) rfl (fun hx => ?_) (fun hx => ?_)
      · refine V.pick [0, 1, 2, 3, 4, 5, 6] rfl ?_
        exact hk149 l0 l2 l3 l4 l5 l6 l7 h t0 hx
      · refine V.aload_n (j := 0) dX9_plan_129 rfl rfl rfl ?_
        refine U.getP fl_X9_39 t0 dX9_plan_130 rfl ?_
        refine V.iload (j := 7) dX9_plan_133 rfl rfl ?_
        refine V.aload_n (j := 0) dX9_plan_135 rfl rfl rfl ?_
        refine U.getP fl_X9_36 t0 dX9_plan_136 rfl ?_
        refine V.iload (j := 7) dX9_plan_139 rfl rfl ?_
        refine U.iald hx (ty_X9_9 t0) dX9_plan_141 rfl (fun hx => ?_)
        refine U.iast hx (ty_X9_10 t0) dX9_plan_142 rfl (fun h10 hx => ?_)
        refine U.iinc hx (fun v11 => [(8, .int v11), (0, .ref (G.1 + l0)), (2, .int l2), (3, .int l3), (4, .int l4), (5, .int l5), (6, .int l6), (7, .int l7)]) (j := 7) rfl (by decide) (Nat.le_of_ble_eq_true rfl) (fun _ => rfl) dX9_plan_143 rfl (fun v11 hx => ?_)
        refine V.goto (q := 116) dX9_plan_146 (by decide) ?_
        refine V.pick [1, 2, 3, 4, 5, 6, 7, 0] rfl ?_
        exact ih l0 l2 l3 l4 l5 l6 l7 v11 h10 t0 hx
set_option maxRecDepth 100000 in
set_option maxHeartbeats 4000000 in
theorem vX9_plan_163 {l : Launch} {G : GG} {EX : State → Prop} (hE : EXB G EX) {r : Int32 × AH} {k97 : Nat → Int32 → Int32 → Int32 → Int32 → Int32 → AH → Option (Int32 × AH)} (hk97 : ∀ (l0 : Nat) (l2 : Int32) (l3 : Int32) (l4 : Int32) (l5 : Int32) (l6 : Int32) (h : AH) (t0 : KD l0 = 8), k97 l0 l2 l3 l4 l5 l6 h = some r → U l G EX mi_X9_plan 8 190 (some (.int r.1)) r.2 97 [(0, .ref (G.1 + l0)), (2, .int l2), (3, .int l3), (4, .int l4), (5, .int l5), (6, .int l6)] [] h) : ∀ (l0 : Nat) (l2 : Int32) (l3 : Int32) (l4 : Int32) (l6 : Int32) (s0 : Int32) (h : AH) (t0 : KD l0 = 8), fX9_plan_163 k97 l0 l2 l3 l4 l6 s0 h = some r → U l G EX mi_X9_plan 8 190 (some (.int r.1)) r.2 163 [(0, .ref (G.1 + l0)), (2, .int l2), (3, .int l3), (4, .int l4), (6, .int l6)] [.int s0] h := by
  intro l0 l2 l3 l4 l6 s0 h t0 hx
  unfold fX9_plan_163 at hx
  refine V.istore [(5, .int s0), (0, .ref (G.1 + l0)), (2, .int l2), (3, .int l3), (4, .int l4), (6, .int l6)] dX9_plan_163 rfl (Nat.le_of_ble_eq_true rfl) rfl ?_
  refine U.iinc hx (fun v21 => [(6, .int v21), (5, .int s0), (0, .ref (G.1 + l0)), (2, .int l2), (3, .int l3), (4, .int l4)]) (j := 5) rfl (by decide) (Nat.le_of_ble_eq_true rfl) (fun _ => rfl) dX9_plan_165 rfl (fun v21 hx => ?_)
  refine V.goto (q := 97) dX9_plan_168 (by decide) ?_
  refine V.pick [2, 3, 4, 5, 1, 0] rfl ?_
  exact hk97 l0 l2 l3 l4 s0 v21 h t0 hx
set_option maxRecDepth 100000 in
set_option maxHeartbeats 4000000 in
theorem vX9_plan_149 {l : Launch} {G : GG} {EX : State → Prop} (hE : EXB G EX) {r : Int32 × AH} {k97 : Nat → Int32 → Int32 → Int32 → Int32 → Int32 → AH → Option (Int32 × AH)} (hk97 : ∀ (l0 : Nat) (l2 : Int32) (l3 : Int32) (l4 : Int32) (l5 : Int32) (l6 : Int32) (h : AH) (t0 : KD l0 = 8), k97 l0 l2 l3 l4 l5 l6 h = some r → U l G EX mi_X9_plan 8 190 (some (.int r.1)) r.2 97 [(0, .ref (G.1 + l0)), (2, .int l2), (3, .int l3), (4, .int l4), (5, .int l5), (6, .int l6)] [] h) : ∀ (l0 : Nat) (l2 : Int32) (l3 : Int32) (l4 : Int32) (l5 : Int32) (l6 : Int32) (l7 : Int32) (h : AH) (t0 : KD l0 = 8), fX9_plan_149 k97 l0 l2 l3 l4 l5 l6 l7 h = some r → U l G EX mi_X9_plan 8 190 (some (.int r.1)) r.2 149 [(0, .ref (G.1 + l0)), (2, .int l2), (3, .int l3), (4, .int l4), (5, .int l5), (6, .int l6), (7, .int l7)] [] h := by
  intro l0 l2 l3 l4 l5 l6 l7 h t0 hx
  unfold fX9_plan_149 at hx
  refine V.iload (j := 6) dX9_plan_149 rfl rfl ?_
  refine V.iload (j := 4) dX9_plan_151 rfl rfl ?_
  refine V.icmp_ge (tgt := 161) hx dX9_plan_153 (by decide) rfl (fun hx => ?_) (fun hx => ?_)
  · refine V.iload (j := 4) dX9_plan_161 rfl rfl ?_
    refine V.pick [0, 1, 2, 3, 5] rfl ?_
    exact vX9_plan_163 hE hk97 l0 l2 l3 l4 l6 l5 h t0 hx
  · refine V.iload (j := 6) dX9_plan_156 rfl rfl ?_
    refine V.goto (q := 163) dX9_plan_158 (by decide) ?_
    refine V.pick [0, 1, 2, 3, 5] rfl ?_
    exact vX9_plan_163 hE hk97 l0 l2 l3 l4 l6 l7 h t0 hx
set_option maxRecDepth 100000 in
set_option maxHeartbeats 4000000 in
theorem vX9_plan_97 {l : Launch} {G : GG} {EX : State → Prop} (hE : EXB G EX) {r : Int32 × AH} : ∀ (n : Nat) (l0 : Nat) (l2 : Int32) (l3 : Int32) (l4 : Int32) (l5 : Int32) (l6 : Int32) (h : AH) (t0 : KD l0 = 8), fX9_plan_97 n l0 l2 l3 l4 l5 l6 h = some r → U l G EX mi_X9_plan 8 190 (some (.int r.1)) r.2 97 [(0, .ref (G.1 + l0)), (2, .int l2), (3, .int l3), (4, .int l4), (5, .int l5), (6, .int l6)] [] h := by
  intro n
  induction n with
  | zero =>
    intro l0 l2 l3 l4 l5 l6 h t0 hx
    have hx : none = some r := hx
    cases hx
  | succ n ih =>
    intro l0 l2 l3 l4 l5 l6 h t0 hx
    rw [fX9_plan_97] at hx
    refine V.iload (j := 5) dX9_plan_97 rfl rfl ?_
    refine V.iload (j := 3) dX9_plan_99 rfl rfl ?_
    refine V.icmp_ge (tgt := 171) hx dX9_plan_101 (by decide) rfl (fun hx => ?_) (fun hx => ?_)
    · refine V.pick [0, 1, 2, 4] rfl ?_
      exact vX9_plan_171 hE l0 l2 l3 l5 h t0 hx
    · refine V.aload_n (j := 0) dX9_plan_104 rfl rfl rfl ?_
      refine V.iload (j := 5) dX9_plan_105 rfl rfl ?_
      refine V.iload_n (j := 2) dX9_plan_107 rfl rfl rfl ?_
      obtain ⟨v9, h8, q7, hx⟩ := ob2_some hx
      refine U.callV (As := [.int l6, .int l3]) (rest := []) (st' := [.int v9]) hE.1 (mX9_lastBy hE t0 q7) mic_X9_lastBy rfl t0 (by decide) rfl rfl wq_m_X9_195 wq_i_yX9_lastBy wq_s_yX9_lastBy ⟨Nat.le_of_ble_eq_true rfl, Nat.le_of_ble_eq_true rfl⟩ (Nat.le_of_ble_eq_true rfl) dX9_plan_108 rfl rfl rfl ?_
      refine V.istore [(7, .int v9), (0, .ref (G.1 + l0)), (2, .int l2), (3, .int l3), (4, .int l4), (5, .int l5), (6, .int l6)] dX9_plan_111 rfl (Nat.le_of_ble_eq_true rfl) rfl ?_
      refine V.iconst dX9_plan_113 rfl ki_0 ?_
      refine V.istore [(8, .int (0 : Int32)), (7, .int v9), (0, .ref (G.1 + l0)), (2, .int l2), (3, .int l3), (4, .int l4), (5, .int l5), (6, .int l6)] dX9_plan_114 rfl (Nat.le_of_ble_eq_true rfl) rfl ?_
      refine V.pick [2, 3, 4, 5, 6, 7, 1, 0] rfl ?_
      refine vX9_plan_116 hE (fun w12 w13 w14 w15 w16 w17 w18 h19 t20 hx => ?_) FU l0 l2 l3 l4 l5 l6 v9 (0 : Int32) h8 t0 hx
      · exact vX9_plan_149 hE (ih) w12 w13 w14 w15 w16 w17 w18 h19 t20 hx
set_option maxRecDepth 100000 in
set_option maxHeartbeats 4000000 in
theorem vX9_plan_90 {l : Launch} {G : GG} {EX : State → Prop} (hE : EXB G EX) {r : Int32 × AH} : ∀ (l0 : Nat) (l2 : Int32) (l3 : Int32) (l4 : Int32) (h : AH) (t0 : KD l0 = 8), fX9_plan_90 l0 l2 l3 l4 h = some r → U l G EX mi_X9_plan 8 190 (some (.int r.1)) r.2 90 [(0, .ref (G.1 + l0)), (2, .int l2), (3, .int l3), (4, .int l4)] [] h := by
  intro l0 l2 l3 l4 h t0 hx
  unfold fX9_plan_90 at hx
  refine V.ldc dX9_plan_90 rfl wq_k_X9_186 ?_
  refine V.istore [(5, .int (1000000 : Int32)), (0, .ref (G.1 + l0)), (2, .int l2), (3, .int l3), (4, .int l4)] dX9_plan_92 rfl (Nat.le_of_ble_eq_true rfl) rfl ?_
  refine V.iconst dX9_plan_94 rfl ki_0 ?_
  refine V.istore [(6, .int (0 : Int32)), (5, .int (1000000 : Int32)), (0, .ref (G.1 + l0)), (2, .int l2), (3, .int l3), (4, .int l4)] dX9_plan_95 rfl (Nat.le_of_ble_eq_true rfl) rfl ?_
  refine V.pick [2, 3, 4, 5, 1, 0] rfl ?_
  exact vX9_plan_97 hE FU l0 l2 l3 l4 (1000000 : Int32) (0 : Int32) h t0 hx
set_option maxRecDepth 100000 in
set_option maxHeartbeats 4000000 in
theorem vX9_plan_45 {l : Launch} {G : GG} {EX : State → Prop} (hE : EXB G EX) {r : Int32 × AH} {k84 : Nat → Int32 → Int32 → Int32 → Int32 → AH → Option (Int32 × AH)} (hk84 : ∀ (l0 : Nat) (l2 : Int32) (l3 : Int32) (l4 : Int32) (l5 : Int32) (h : AH) (t0 : KD l0 = 8), k84 l0 l2 l3 l4 l5 h = some r → U l G EX mi_X9_plan 8 190 (some (.int r.1)) r.2 84 [(0, .ref (G.1 + l0)), (2, .int l2), (3, .int l3), (4, .int l4), (5, .int l5)] [] h) : ∀ (n : Nat) (l0 : Nat) (l2 : Int32) (l3 : Int32) (l4 : Int32) (l5 : Int32) (l6 : Int32) (h : AH) (t0 : KD l0 = 8), fX9_plan_45 k84 n l0 l2 l3 l4 l5 l6 h = some r → U l G EX mi_X9_plan 8 190 (some (.int r.1)) r.2 45 [(0, .ref (G.1 + l0)), (2, .int l2), (3, .int l3), (4, .int l4), (5, .int l5), (6, .int l6)] [] h := by
  intro n
  induction n with
  | zero =>
    intro l0 l2 l3 l4 l5 l6 h t0 hx
    have hx : none = some r := hx
    cases hx
  | succ n ih =>
    intro l0 l2 l3 l4 l5 l6 h t0 hx
    rw [fX9_plan_45] at hx
    refine V.iload (j := 5) dX9_plan_45 rfl rfl ?_
    refine V.bipush dX9_plan_47 rfl kb_24 ?_
    refine V.icmp_ge (tgt := 84) hx dX9_plan_49 (by decide) rfl (fun hx => ?_) (fun hx => ?_)
    · refine V.pick [0, 1, 2, 3, 4] rfl ?_
      exact hk84 l0 l2 l3 l4 l5 h t0 hx
    · refine V.aload_n (j := 0) dX9_plan_52 rfl rfl rfl ?_
      refine U.getP fl_X9_33 t0 dX9_plan_53 rfl ?_
      refine V.bipush dX9_plan_56 rfl kb_24 ?_
      refine V.iload (j := 4) dX9_plan_58 rfl rfl ?_
      refine V.imul dX9_plan_60 rfl ?_
      refine V.iload (j := 5) dX9_plan_61 rfl rfl ?_
      refine V.iadd dX9_plan_63 rfl ?_
      refine V.aload_n (j := 0) dX9_plan_64 rfl rfl rfl ?_
      refine V.aload_n (j := 0) dX9_plan_65 rfl rfl rfl ?_
      refine U.getP fl_X9_30 t0 dX9_plan_66 rfl ?_
      refine V.iload (j := 4) dX9_plan_69 rfl rfl ?_
      refine U.iald hx (ty_X9_7 t0) dX9_plan_71 rfl (fun hx => ?_)
      refine V.iload (j := 5) dX9_plan_72 rfl rfl ?_
      obtain ⟨v24, q23, hx⟩ := ob_some hx
      refine U.callV (As := [.int (hI h (PC l0 7) (ix l5)), .int l6]) (rest := [.int (((24 : Int32) * l5) + l6), .ref (G.1 + (PC l0 8))]) (st' := [.int v24, .int (((24 : Int32) * l5) + l6), .ref (G.1 + (PC l0 8))]) hE.1 (mX9_isUnseenIn hE t0 q23) mic_X9_isUnseenIn rfl t0 (by decide) rfl rfl wq_m_X9_180 wq_i_yX9_isUnseenIn wq_s_yX9_isUnseenIn ⟨Nat.le_of_ble_eq_true rfl, Nat.le_of_ble_eq_true rfl⟩ (Nat.le_of_ble_eq_true rfl) dX9_plan_74 rfl rfl rfl ?_
      refine U.zast hx (ty_X9_8 t0) dX9_plan_77 rfl (fun h25 hx => ?_)
      refine U.iinc hx (fun v26 => [(6, .int v26), (0, .ref (G.1 + l0)), (2, .int l2), (3, .int l3), (4, .int l4), (5, .int l5)]) (j := 5) rfl (by decide) (Nat.le_of_ble_eq_true rfl) (fun _ => rfl) dX9_plan_78 rfl (fun v26 hx => ?_)
      refine V.goto (q := 45) dX9_plan_81 (by decide) ?_
      refine V.pick [1, 2, 3, 4, 5, 0] rfl ?_
      exact ih l0 l2 l3 l4 l5 v26 h25 t0 hx
set_option maxRecDepth 100000 in
set_option maxHeartbeats 4000000 in
theorem vX9_plan_29 {l : Launch} {G : GG} {EX : State → Prop} (hE : EXB G EX) {r : Int32 × AH} : ∀ (n : Nat) (l0 : Nat) (l2 : Int32) (l3 : Int32) (l4 : Int32) (l5 : Int32) (h : AH) (t0 : KD l0 = 8), fX9_plan_29 n l0 l2 l3 l4 l5 h = some r → U l G EX mi_X9_plan 8 190 (some (.int r.1)) r.2 29 [(0, .ref (G.1 + l0)), (2, .int l2), (3, .int l3), (4, .int l4), (5, .int l5)] [] h := by
  intro n
  induction n with
  | zero =>
    intro l0 l2 l3 l4 l5 h t0 hx
    have hx : none = some r := hx
    cases hx
  | succ n ih =>
    intro l0 l2 l3 l4 l5 h t0 hx
    rw [fX9_plan_29] at hx
    refine V.iload (j := 4) dX9_plan_29 rfl rfl ?_
    refine V.iload_n (j := 2) dX9_plan_31 rfl rfl rfl ?_
    refine V.icmp_ge (tgt := 90) hx dX9_plan_32 (by decide) rfl (fun hx => ?_) (fun hx => ?_)
    · refine V.pick [0, 1, 2, 3] rfl ?_
      exact vX9_plan_90 hE l0 l2 l3 l4 h t0 hx
    · refine V.iload (j := 3) dX9_plan_35 rfl rfl ?_
      refine V.bipush dX9_plan_37 rfl kb_24 ?_
      refine V.imul dX9_plan_39 rfl ?_
      refine U.letI hx (fun v22 hx => ?_)
      refine V.istore [(4, .int v22), (0, .ref (G.1 + l0)), (2, .int l2), (3, .int l3), (5, .int l5)] dX9_plan_40 rfl (Nat.le_of_ble_eq_true rfl) rfl ?_
      refine V.iconst dX9_plan_42 rfl ki_0 ?_
      refine V.istore [(6, .int (0 : Int32)), (4, .int v22), (0, .ref (G.1 + l0)), (2, .int l2), (3, .int l3), (5, .int l5)] dX9_plan_43 rfl (Nat.le_of_ble_eq_true rfl) rfl ?_
      refine V.pick [2, 3, 4, 1, 5, 0] rfl ?_
      refine vX9_plan_45 hE (fun w27 w28 w29 w30 w31 h32 t33 hx => ?_) FU l0 l2 l3 v22 l5 (0 : Int32) h t0 hx
      · refine U.iinc hx (fun v34 => [(5, .int v34), (0, .ref (G.1 + w27)), (2, .int w28), (3, .int w29), (4, .int w30)]) (j := 4) rfl (by decide) (Nat.le_of_ble_eq_true rfl) (fun _ => rfl) dX9_plan_84 rfl (fun v34 hx => ?_)
        refine V.goto (q := 29) dX9_plan_87 (by decide) ?_
        refine V.pick [1, 2, 3, 4, 0] rfl ?_
        exact ih w27 w28 w29 w30 v34 h32 t33 hx
set_option maxRecDepth 100000 in
set_option maxHeartbeats 4000000 in
theorem mX9_plan {l : Launch} {G : GG} {EX : State → Prop} (hE : EXB G EX) {th : Nat} {a1 : Int32} {a2 : Int32} {h : AH} (t0 : KD th = 8) {r : Int32 × AH} (hx : fX9_plan th a1 a2 h = some r) : MetU l G EX mi_X9_plan 8 190 [.ref (G.1 + th), .int a1, .int a2] h (some (.int r.1)) r.2 := by
  refine MetU.of mic_X9_plan.1 (Nat.le_of_ble_eq_true rfl) ?_
  refine show U l G EX mi_X9_plan 8 190 (some (.int r.1)) r.2 0 [(0, .ref (G.1 + th)), (1, .int a1), (2, .int a2)] [] h from ?_
  unfold fX9_plan at hx
  refine V.aload_n (j := 0) dX9_plan_0 rfl rfl rfl ?_
  refine V.iload_n (j := 1) dX9_plan_1 rfl rfl rfl ?_
  obtain ⟨v3, h2, q1, hx⟩ := ob2_some hx
  refine U.callV (As := [.int a1]) (rest := []) (st' := [.int v3]) hE.1 (mX9_layGoals hE t0 q1) mic_X9_layGoals rfl t0 (by decide) rfl rfl wq_m_X9_192 wq_i_yX9_layGoals wq_s_yX9_layGoals ⟨Nat.le_of_ble_eq_true rfl, Nat.le_of_ble_eq_true rfl⟩ (Nat.le_of_ble_eq_true rfl) dX9_plan_2 rfl rfl rfl ?_
  refine V.istore_n [(3, .int v3), (0, .ref (G.1 + th)), (1, .int a1), (2, .int a2)] dX9_plan_5 rfl rfl (Nat.le_of_ble_eq_true rfl) rfl ?_
  refine V.iload_n (j := 0) dX9_plan_6 rfl rfl rfl ?_
  refine V.iconst dX9_plan_7 rfl ki_m1 ?_
  refine V.icmp_eq (tgt := 16) hx dX9_plan_8 (by decide) rfl (fun hx => ?_) (fun hx => ?_)
  · refine V.pick [1] rfl ?_
    exact vX9_plan_16 hE th h2 t0 hx
  · refine V.iload_n (j := 3) dX9_plan_11 rfl rfl rfl ?_
    refine V.iconst dX9_plan_12 rfl ki_m1 ?_
    refine V.icmp_ge (tgt := 23) hx dX9_plan_13 (by decide) rfl (fun hx => ?_) (fun hx => ?_)
    · refine V.iconst dX9_plan_23 rfl ki_1 ?_
      refine V.istore [(4, .int (1 : Int32)), (3, .int v3), (0, .ref (G.1 + th)), (1, .int a1), (2, .int a2)] dX9_plan_24 rfl (Nat.le_of_ble_eq_true rfl) rfl ?_
      refine V.iconst dX9_plan_26 rfl ki_0 ?_
      refine V.istore [(5, .int (0 : Int32)), (4, .int (1 : Int32)), (3, .int v3), (0, .ref (G.1 + th)), (1, .int a1), (2, .int a2)] dX9_plan_27 rfl (Nat.le_of_ble_eq_true rfl) rfl ?_
      refine V.pick [3, 5, 2, 1, 0] rfl ?_
      exact vX9_plan_29 hE FU th a2 v3 (1 : Int32) (0 : Int32) h2 t0 hx
    · refine V.pick [1] rfl ?_
      exact vX9_plan_16 hE th h2 t0 hx
set_option maxRecDepth 100000 in
set_option maxHeartbeats 4000000 in
theorem vX9_guard_18 {l : Launch} {G : GG} {EX : State → Prop} (hE : EXB G EX) {r : Int32 × AH} : ∀ (l0 : Nat) (h : AH) (t0 : KD l0 = 8), fX9_guard_18 l0 h = some r → U l G EX mi_X9_guard 6 143 (some (.int r.1)) r.2 18 [(0, .ref (G.1 + l0))] [] h := by
  intro l0 h t0 hx
  unfold fX9_guard_18 at hx
  refine V.aload_n (j := 0) dX9_guard_18 rfl rfl rfl ?_
  refine V.bipush dX9_guard_19 rfl kb_m2 ?_
  obtain ⟨v5, h4, q3, hx⟩ := ob2_some hx
  refine U.callV (As := [.int (-2 : Int32)]) (rest := []) (st' := [.int v5]) hE.1 (mX9_bad hE t0 q3) mic_X9_bad rfl t0 (by decide) rfl rfl wq_m_X9_78 wq_i_yX9_bad wq_s_yX9_bad ⟨Nat.le_of_ble_eq_true rfl, Nat.le_of_ble_eq_true rfl⟩ (Nat.le_of_ble_eq_true rfl) dX9_guard_21 rfl rfl rfl ?_
  obtain rfl := Option.some.inj hx
  exact U.retI rfl rfl rfl rfl dX9_guard_24
set_option maxRecDepth 100000 in
set_option maxHeartbeats 4000000 in
theorem vX9_guard_139 {l : Launch} {G : GG} {EX : State → Prop} (hE : EXB G EX) {r : Int32 × AH} : ∀ (l2 : Int32) (l3 : Int32) (l4 : Int32) (h : AH), fX9_guard_139 l2 l3 l4 h = some r → U l G EX mi_X9_guard 6 143 (some (.int r.1)) r.2 139 [(2, .int l2), (3, .int l3), (4, .int l4)] [] h := by
  intro l2 l3 l4 h hx
  unfold fX9_guard_139 at hx
  refine V.iload_n (j := 0) dX9_guard_139 rfl rfl rfl ?_
  refine V.if_ne (tgt := 147) hx dX9_guard_140 (by decide) rfl (fun hx => ?_) (fun hx => ?_)
  · refine V.iload (j := 2) dX9_guard_147 rfl rfl ?_
    obtain rfl := Option.some.inj hx
    exact U.retI rfl rfl rfl rfl dX9_guard_149
  · refine V.iload_n (j := 1) dX9_guard_143 rfl rfl rfl ?_
    refine V.goto (q := 149) dX9_guard_144 (by decide) ?_
    obtain rfl := Option.some.inj hx
    exact U.retI rfl rfl rfl rfl dX9_guard_149
set_option maxRecDepth 100000 in
set_option maxHeartbeats 4000000 in
theorem vX9_guard_94 {l : Launch} {G : GG} {EX : State → Prop} (hE : EXB G EX) {r : Int32 × AH} {k46 : Nat → Int32 → Int32 → Int32 → Int32 → Int32 → Int32 → Int32 → AH → Option (Int32 × AH)} {k103 : Nat → Int32 → Int32 → Int32 → Int32 → Int32 → Int32 → AH → Option (Int32 × AH)} (hk46 : ∀ (l0 : Nat) (l1 : Int32) (l2 : Int32) (l3 : Int32) (l4 : Int32) (l5 : Int32) (l6 : Int32) (l7 : Int32) (h : AH) (t0 : KD l0 = 8), k46 l0 l1 l2 l3 l4 l5 l6 l7 h = some r → U l G EX mi_X9_guard 6 143 (some (.int r.1)) r.2 46 [(0, .ref (G.1 + l0)), (1, .int l1), (2, .int l2), (3, .int l3), (4, .int l4), (5, .int l5), (6, .int l6), (7, .int l7)] [] h) (hk103 : ∀ (l0 : Nat) (l1 : Int32) (l2 : Int32) (l3 : Int32) (l4 : Int32) (l5 : Int32) (l6 : Int32) (h : AH) (t0 : KD l0 = 8), k103 l0 l1 l2 l3 l4 l5 l6 h = some r → U l G EX mi_X9_guard 6 143 (some (.int r.1)) r.2 103 [(0, .ref (G.1 + l0)), (1, .int l1), (2, .int l2), (3, .int l3), (4, .int l4), (5, .int l5), (6, .int l6)] [] h) : ∀ (l0 : Nat) (l1 : Int32) (l2 : Int32) (l3 : Int32) (l4 : Int32) (l5 : Int32) (l7 : Int32) (s0 : Int32) (s1 : Int32) (h : AH) (t0 : KD l0 = 8), fX9_guard_94 k46 k103 l0 l1 l2 l3 l4 l5 l7 s0 s1 h = some r → U l G EX mi_X9_guard 6 143 (some (.int r.1)) r.2 94 [(0, .ref (G.1 + l0)), (1, .int l1), (2, .int l2), (3, .int l3), (4, .int l4), (5, .int l5), (7, .int l7)] [.int s1, .int s0] h := by
  intro l0 l1 l2 l3 l4 l5 l7 s0 s1 h t0 hx
  unfold fX9_guard_94 at hx
  refine V.iadd dX9_guard_94 rfl ?_
  refine U.letI hx (fun v14 hx => ?_)
  refine V.istore [(6, .int v14), (0, .ref (G.1 + l0)), (1, .int l1), (2, .int l2), (3, .int l3), (4, .int l4), (5, .int l5), (7, .int l7)] dX9_guard_95 rfl (Nat.le_of_ble_eq_true rfl) rfl ?_
  refine U.iinc hx (fun v15 => [(7, .int v15), (6, .int v14), (0, .ref (G.1 + l0)), (1, .int l1), (2, .int l2), (3, .int l3), (4, .int l4), (5, .int l5)]) (j := 7) rfl (by decide) (Nat.le_of_ble_eq_true rfl) (fun _ => rfl) dX9_guard_97 rfl (fun v15 hx => ?_)
  refine V.goto (q := 46) dX9_guard_100 (by decide) ?_
  refine V.pick [2, 3, 4, 5, 6, 7, 1, 0] rfl ?_
  exact hk46 l0 l1 l2 l3 l4 l5 v14 v15 h t0 hx
set_option maxRecDepth 100000 in
set_option maxHeartbeats 4000000 in
theorem vX9_guard_46 {l : Launch} {G : GG} {EX : State → Prop} (hE : EXB G EX) {r : Int32 × AH} {k103 : Nat → Int32 → Int32 → Int32 → Int32 → Int32 → Int32 → AH → Option (Int32 × AH)} (hk103 : ∀ (l0 : Nat) (l1 : Int32) (l2 : Int32) (l3 : Int32) (l4 : Int32) (l5 : Int32) (l6 : Int32) (h : AH) (t0 : KD l0 = 8), k103 l0 l1 l2 l3 l4 l5 l6 h = some r → U l G EX mi_X9_guard 6 143 (some (.int r.1)) r.2 103 [(0, .ref (G.1 + l0)), (1, .int l1), (2, .int l2), (3, .int l3), (4, .int l4), (5, .int l5), (6, .int l6)] [] h) : ∀ (n : Nat) (l0 : Nat) (l1 : Int32) (l2 : Int32) (l3 : Int32) (l4 : Int32) (l5 : Int32) (l6 : Int32) (l7 : Int32) (h : AH) (t0 : KD l0 = 8), fX9_guard_46 k103 n l0 l1 l2 l3 l4 l5 l6 l7 h = some r → U l G EX mi_X9_guard 6 143 (some (.int r.1)) r.2 46 [(0, .ref (G.1 + l0)), (1, .int l1), (2, .int l2), (3, .int l3), (4, .int l4), (5, .int l5), (6, .int l6), (7, .int l7)] [] h := by
  intro n
  induction n with
  | zero =>
    intro l0 l1 l2 l3 l4 l5 l6 l7 h t0 hx
    have hx : none = some r := hx
    cases hx
  | succ n ih =>
    intro l0 l1 l2 l3 l4 l5 l6 l7 h t0 hx
    rw [fX9_guard_46] at hx
    refine V.iload (j := 7) dX9_guard_46 rfl rfl ?_
    refine V.bipush dX9_guard_48 rfl kb_30 ?_
    refine V.icmp_ge (tgt := 103) hx dX9_guard_50 (by decide) rfl (fun hx => ?_) (fun hx => ?_)
    · refine V.pick [0, 1, 2, 3, 4, 5, 6] rfl ?_
      exact hk103 l0 l1 l2 l3 l4 l5 l6 h t0 hx
    · refine V.iload (j := 6) dX9_guard_53 rfl rfl ?_
      refine V.aload_n (j := 0) dX9_guard_55 rfl rfl rfl ?_
      refine U.getP fl_X9_7 t0 dX9_guard_56 rfl ?_
      refine V.aload_n (j := 0) dX9_guard_59 rfl rfl rfl ?_
      refine U.getP fl_X9_7 t0 dX9_guard_60 rfl ?_
      refine V.bipush dX9_guard_63 rfl kb_40 ?_
      refine V.iload_n (j := 1) dX9_guard_65 rfl rfl rfl ?_
      refine V.iadd dX9_guard_66 rfl ?_
      refine U.iald hx (ty_X9_0 t0) dX9_guard_67 rfl (fun hx => ?_)
      refine V.iload (j := 5) dX9_guard_68 rfl rfl ?_
      refine V.iload (j := 7) dX9_guard_70 rfl rfl ?_
      refine V.aload_n (j := 0) dX9_guard_72 rfl rfl rfl ?_
      refine U.getP fl_X9_7 t0 dX9_guard_73 rfl ?_
      obtain ⟨v9, q8, hx⟩ := ob_some hx
      refine U.callS (As := [.ref (G.1 + (PC l0 0))]) (rest := [.int l7, .int l5, .int (hI h (PC l0 0) (ix ((40 : Int32) + l1))), .ref (G.1 + (PC l0 0)), .int l6]) (st' := [.int v9, .int l7, .int l5, .int (hI h (PC l0 0) (ix ((40 : Int32) + l1))), .ref (G.1 + (PC l0 0)), .int l6]) hE.1 (mX9_isOn hE (ty_X9_0 t0) q8) mic_X9_isOn rfl wq_m_X9_133 wq_t_yX9_isOn ⟨Nat.le_of_ble_eq_true rfl, Nat.le_of_ble_eq_true rfl⟩ (Nat.le_of_ble_eq_true rfl) dX9_guard_76 rfl rfl rfl ?_
      refine V.aload_n (j := 0) dX9_guard_79 rfl rfl rfl ?_
      obtain ⟨v11, q10, hx⟩ := ob_some hx
      refine U.callV (As := []) (rest := [.int v9, .int l7, .int l5, .int (hI h (PC l0 0) (ix ((40 : Int32) + l1))), .ref (G.1 + (PC l0 0)), .int l6]) (st' := [.int v11, .int v9, .int l7, .int l5, .int (hI h (PC l0 0) (ix ((40 : Int32) + l1))), .ref (G.1 + (PC l0 0)), .int l6]) hE.1 (mX9_stepNow hE t0 q10) mic_X9_stepNow rfl t0 (by decide) rfl rfl wq_m_X9_169 wq_i_yX9_stepNow wq_s_yX9_stepNow ⟨Nat.le_of_ble_eq_true rfl, Nat.le_of_ble_eq_true rfl⟩ (Nat.le_of_ble_eq_true rfl) dX9_guard_80 rfl rfl rfl ?_
      obtain ⟨v13, q12, hx⟩ := ob_some hx
      refine U.callS (As := [.ref (G.1 + (PC l0 0)), .int (hI h (PC l0 0) (ix ((40 : Int32) + l1))), .int l5, .int l7, .int v9, .int v11]) (rest := [.int l6]) (st' := [.int v13, .int l6]) hE.1 (mX9_seesFrom hE (ty_X9_0 t0) q12) mic_X9_seesFrom rfl wq_m_X9_129 wq_t_yX9_seesFrom ⟨Nat.le_of_ble_eq_true rfl, Nat.le_of_ble_eq_true rfl⟩ (Nat.le_of_ble_eq_true rfl) dX9_guard_83 rfl rfl rfl ?_
      refine V.if_eq (tgt := 93) hx dX9_guard_86 (by decide) rfl (fun hx => ?_) (fun hx => ?_)
      · refine V.iconst dX9_guard_93 rfl ki_0 ?_
        refine V.pick [0, 1, 2, 3, 4, 5, 7] rfl ?_
        exact vX9_guard_94 hE (ih) hk103 l0 l1 l2 l3 l4 l5 l7 l6 (0 : Int32) h t0 hx
      · refine V.iconst dX9_guard_89 rfl ki_1 ?_
        refine V.goto (q := 94) dX9_guard_90 (by decide) ?_
        refine V.pick [0, 1, 2, 3, 4, 5, 7] rfl ?_
        exact vX9_guard_94 hE (ih) hk103 l0 l1 l2 l3 l4 l5 l7 l6 (1 : Int32) h t0 hx
set_option maxRecDepth 100000 in
set_option maxHeartbeats 4000000 in
theorem vX9_guard_131 {l : Launch} {G : GG} {EX : State → Prop} (hE : EXB G EX) {r : Int32 × AH} {k33 : Nat → Int32 → Int32 → Int32 → Int32 → Int32 → AH → Option (Int32 × AH)} (hk33 : ∀ (l0 : Nat) (l1 : Int32) (l2 : Int32) (l3 : Int32) (l4 : Int32) (l5 : Int32) (h : AH) (t0 : KD l0 = 8), k33 l0 l1 l2 l3 l4 l5 h = some r → U l G EX mi_X9_guard 6 143 (some (.int r.1)) r.2 33 [(0, .ref (G.1 + l0)), (1, .int l1), (2, .int l2), (3, .int l3), (4, .int l4), (5, .int l5)] [] h) : ∀ (l0 : Nat) (l1 : Int32) (l2 : Int32) (l3 : Int32) (l5 : Int32) (s0 : Int32) (h : AH) (t0 : KD l0 = 8), fX9_guard_131 k33 l0 l1 l2 l3 l5 s0 h = some r → U l G EX mi_X9_guard 6 143 (some (.int r.1)) r.2 131 [(0, .ref (G.1 + l0)), (1, .int l1), (2, .int l2), (3, .int l3), (5, .int l5)] [.int s0] h := by
  intro l0 l1 l2 l3 l5 s0 h t0 hx
  unfold fX9_guard_131 at hx
  refine V.istore [(4, .int s0), (0, .ref (G.1 + l0)), (1, .int l1), (2, .int l2), (3, .int l3), (5, .int l5)] dX9_guard_131 rfl (Nat.le_of_ble_eq_true rfl) rfl ?_
  refine U.iinc hx (fun v25 => [(5, .int v25), (4, .int s0), (0, .ref (G.1 + l0)), (1, .int l1), (2, .int l2), (3, .int l3)]) (j := 5) rfl (by decide) (Nat.le_of_ble_eq_true rfl) (fun _ => rfl) dX9_guard_133 rfl (fun v25 hx => ?_)
  refine V.goto (q := 33) dX9_guard_136 (by decide) ?_
  refine V.pick [2, 3, 4, 5, 1, 0] rfl ?_
  exact hk33 l0 l1 l2 l3 s0 v25 h t0 hx
set_option maxRecDepth 100000 in
set_option maxHeartbeats 4000000 in
theorem vX9_guard_116 {l : Launch} {G : GG} {EX : State → Prop} (hE : EXB G EX) {r : Int32 × AH} {k33 : Nat → Int32 → Int32 → Int32 → Int32 → Int32 → AH → Option (Int32 × AH)} (hk33 : ∀ (l0 : Nat) (l1 : Int32) (l2 : Int32) (l3 : Int32) (l4 : Int32) (l5 : Int32) (h : AH) (t0 : KD l0 = 8), k33 l0 l1 l2 l3 l4 l5 h = some r → U l G EX mi_X9_guard 6 143 (some (.int r.1)) r.2 33 [(0, .ref (G.1 + l0)), (1, .int l1), (2, .int l2), (3, .int l3), (4, .int l4), (5, .int l5)] [] h) : ∀ (l0 : Nat) (l1 : Int32) (l2 : Int32) (l4 : Int32) (l5 : Int32) (l6 : Int32) (s0 : Int32) (h : AH) (t0 : KD l0 = 8), fX9_guard_116 k33 l0 l1 l2 l4 l5 l6 s0 h = some r → U l G EX mi_X9_guard 6 143 (some (.int r.1)) r.2 116 [(0, .ref (G.1 + l0)), (1, .int l1), (2, .int l2), (4, .int l4), (5, .int l5), (6, .int l6)] [.int s0] h := by
  intro l0 l1 l2 l4 l5 l6 s0 h t0 hx
  unfold fX9_guard_116 at hx
  refine V.istore_n [(3, .int s0), (0, .ref (G.1 + l0)), (1, .int l1), (2, .int l2), (4, .int l4), (5, .int l5), (6, .int l6)] dX9_guard_116 rfl rfl (Nat.le_of_ble_eq_true rfl) rfl ?_
  refine V.iload (j := 6) dX9_guard_117 rfl rfl ?_
  refine V.iload (j := 4) dX9_guard_119 rfl rfl ?_
  refine V.icmp_le (tgt := 129) hx dX9_guard_121 (by decide) rfl (fun hx => ?_) (fun hx => ?_)
  · refine V.iload (j := 4) dX9_guard_129 rfl rfl ?_
    refine V.pick [1, 2, 3, 0, 5] rfl ?_
    exact vX9_guard_131 hE hk33 l0 l1 l2 s0 l5 l4 h t0 hx
  · refine V.iload (j := 6) dX9_guard_124 rfl rfl ?_
    refine V.goto (q := 131) dX9_guard_126 (by decide) ?_
    refine V.pick [1, 2, 3, 0, 5] rfl ?_
    exact vX9_guard_131 hE hk33 l0 l1 l2 s0 l5 l6 h t0 hx
set_option maxRecDepth 100000 in
set_option maxHeartbeats 4000000 in
theorem vX9_guard_33 {l : Launch} {G : GG} {EX : State → Prop} (hE : EXB G EX) {r : Int32 × AH} : ∀ (n : Nat) (l0 : Nat) (l1 : Int32) (l2 : Int32) (l3 : Int32) (l4 : Int32) (l5 : Int32) (h : AH) (t0 : KD l0 = 8), fX9_guard_33 n l0 l1 l2 l3 l4 l5 h = some r → U l G EX mi_X9_guard 6 143 (some (.int r.1)) r.2 33 [(0, .ref (G.1 + l0)), (1, .int l1), (2, .int l2), (3, .int l3), (4, .int l4), (5, .int l5)] [] h := by
  intro n
  induction n with
  | zero =>
    intro l0 l1 l2 l3 l4 l5 h t0 hx
    have hx : none = some r := hx
    cases hx
  | succ n ih =>
    intro l0 l1 l2 l3 l4 l5 h t0 hx
    rw [fX9_guard_33] at hx
    refine V.iload (j := 5) dX9_guard_33 rfl rfl ?_
    refine V.bipush dX9_guard_35 rfl kb_30 ?_
    refine V.icmp_ge (tgt := 139) hx dX9_guard_37 (by decide) rfl (fun hx => ?_) (fun hx => ?_)
    · refine V.pick [2, 3, 4] rfl ?_
      exact vX9_guard_139 hE l2 l3 l4 h hx
    · refine V.iconst dX9_guard_40 rfl ki_0 ?_
      refine V.istore [(6, .int (0 : Int32)), (0, .ref (G.1 + l0)), (1, .int l1), (2, .int l2), (3, .int l3), (4, .int l4), (5, .int l5)] dX9_guard_41 rfl (Nat.le_of_ble_eq_true rfl) rfl ?_
      refine V.iconst dX9_guard_43 rfl ki_0 ?_
      refine V.istore [(7, .int (0 : Int32)), (6, .int (0 : Int32)), (0, .ref (G.1 + l0)), (1, .int l1), (2, .int l2), (3, .int l3), (4, .int l4), (5, .int l5)] dX9_guard_44 rfl (Nat.le_of_ble_eq_true rfl) rfl ?_
      refine V.pick [2, 3, 4, 5, 6, 7, 1, 0] rfl ?_
      refine vX9_guard_46 hE (fun w16 w17 w18 w19 w20 w21 w22 h23 t24 hx => ?_) FU l0 l1 l2 l3 l4 l5 (0 : Int32) (0 : Int32) h t0 hx
      · refine V.iload (j := 6) dX9_guard_103 rfl rfl ?_
        refine V.iload (j := 4) dX9_guard_105 rfl rfl ?_
        refine V.icmp_le (tgt := 115) hx dX9_guard_107 (by decide) rfl (fun hx => ?_) (fun hx => ?_)
        · refine V.iload_n (j := 3) dX9_guard_115 rfl rfl rfl ?_
          refine V.pick [0, 1, 2, 4, 5, 6] rfl ?_
          exact vX9_guard_116 hE (ih) w16 w17 w18 w20 w21 w22 w19 h23 t24 hx
        · refine V.iload (j := 5) dX9_guard_110 rfl rfl ?_
          refine V.goto (q := 116) dX9_guard_112 (by decide) ?_
          refine V.pick [0, 1, 2, 4, 5, 6] rfl ?_
          exact vX9_guard_116 hE (ih) w16 w17 w18 w20 w21 w22 w21 h23 t24 hx
set_option maxRecDepth 100000 in
set_option maxHeartbeats 4000000 in
theorem mX9_guard {l : Launch} {G : GG} {EX : State → Prop} (hE : EXB G EX) {th : Nat} {a1 : Int32} {a2 : Int32} {h : AH} (t0 : KD th = 8) {r : Int32 × AH} (hx : fX9_guard th a1 a2 h = some r) : MetU l G EX mi_X9_guard 6 143 [.ref (G.1 + th), .int a1, .int a2] h (some (.int r.1)) r.2 := by
  refine MetU.of mic_X9_guard.1 (Nat.le_of_ble_eq_true rfl) ?_
  refine show U l G EX mi_X9_guard 6 143 (some (.int r.1)) r.2 0 [(0, .ref (G.1 + th)), (1, .int a1), (2, .int a2)] [] h from ?_
  unfold fX9_guard at hx
  refine V.aload_n (j := 0) dX9_guard_0 rfl rfl rfl ?_
  refine V.iload_n (j := 1) dX9_guard_1 rfl rfl rfl ?_
  obtain ⟨v2, q1, hx⟩ := ob_some hx
  refine U.callV (As := [.int a1]) (rest := []) (st' := [.int v2]) hE.1 (mX9_isWatcher hE t0 q1) mic_X9_isWatcher rfl t0 (by decide) rfl rfl wq_m_X9_159 wq_i_yX9_isWatcher wq_s_yX9_isWatcher ⟨Nat.le_of_ble_eq_true rfl, Nat.le_of_ble_eq_true rfl⟩ (Nat.le_of_ble_eq_true rfl) dX9_guard_2 rfl rfl rfl ?_
  refine V.if_eq (tgt := 18) hx dX9_guard_5 (by decide) rfl (fun hx => ?_) (fun hx => ?_)
  · refine V.pick [0] rfl ?_
    exact vX9_guard_18 hE th h t0 hx
  · refine V.iload_n (j := 2) dX9_guard_8 rfl rfl rfl ?_
    refine V.i2l dX9_guard_9 rfl ?_
    refine V.lconst dX9_guard_10 rfl kl_0 ?_
    refine V.lconst dX9_guard_11 rfl kl_1 ?_
    obtain ⟨v7, q6, hx⟩ := ob_some hx
    refine U.callS (As := [.long a2.toInt64, .long (0 : Int64), .long (1 : Int64)]) (rest := []) (st' := [.int v7]) hE.1 (mX9_in hE q6) mic_X9_in rfl wq_m_X9_59 wq_t_yX9_in ⟨Nat.le_of_ble_eq_true rfl, Nat.le_of_ble_eq_true rfl⟩ (Nat.le_of_ble_eq_true rfl) dX9_guard_12 rfl rfl rfl ?_
    refine V.if_ne (tgt := 25) hx dX9_guard_15 (by decide) rfl (fun hx => ?_) (fun hx => ?_)
    · refine V.iconst dX9_guard_25 rfl ki_m1 ?_
      refine V.istore_n [(3, .int (-1 : Int32)), (0, .ref (G.1 + th)), (1, .int a1), (2, .int a2)] dX9_guard_26 rfl rfl (Nat.le_of_ble_eq_true rfl) rfl ?_
      refine V.iconst dX9_guard_27 rfl ki_m1 ?_
      refine V.istore [(4, .int (-1 : Int32)), (3, .int (-1 : Int32)), (0, .ref (G.1 + th)), (1, .int a1), (2, .int a2)] dX9_guard_28 rfl (Nat.le_of_ble_eq_true rfl) rfl ?_
      refine V.iconst dX9_guard_30 rfl ki_0 ?_
      refine V.istore [(5, .int (0 : Int32)), (4, .int (-1 : Int32)), (3, .int (-1 : Int32)), (0, .ref (G.1 + th)), (1, .int a1), (2, .int a2)] dX9_guard_31 rfl (Nat.le_of_ble_eq_true rfl) rfl ?_
      refine V.pick [3, 4, 5, 2, 1, 0] rfl ?_
      exact vX9_guard_33 hE FU th a1 a2 (-1 : Int32) (-1 : Int32) (0 : Int32) h t0 hx
    · refine V.pick [0] rfl ?_
      exact vX9_guard_18 hE th h t0 hx
set_option maxRecDepth 100000 in
set_option maxHeartbeats 4000000 in
theorem vX9_saw_25 {l : Launch} {G : GG} {EX : State → Prop} (hE : EXB G EX) {r : Int32 × AH} : ∀ (l0 : Nat) (h : AH) (t0 : KD l0 = 8), fX9_saw_25 l0 h = some r → U l G EX mi_X9_saw 2 45 (some (.int r.1)) r.2 25 [(0, .ref (G.1 + l0))] [] h := by
  intro l0 h t0 hx
  unfold fX9_saw_25 at hx
  refine V.aload_n (j := 0) dX9_saw_25 rfl rfl rfl ?_
  refine V.bipush dX9_saw_26 rfl kb_m2 ?_
  obtain ⟨v5, h4, q3, hx⟩ := ob2_some hx
  refine U.callV (As := [.int (-2 : Int32)]) (rest := []) (st' := [.int v5]) hE.1 (mX9_bad hE t0 q3) mic_X9_bad rfl t0 (by decide) rfl rfl wq_m_X9_78 wq_i_yX9_bad wq_s_yX9_bad ⟨Nat.le_of_ble_eq_true rfl, Nat.le_of_ble_eq_true rfl⟩ (Nat.le_of_ble_eq_true rfl) dX9_saw_28 rfl rfl rfl ?_
  obtain rfl := Option.some.inj hx
  exact U.retI rfl rfl rfl rfl dX9_saw_31
set_option maxRecDepth 100000 in
set_option maxHeartbeats 4000000 in
theorem mX9_saw {l : Launch} {G : GG} {EX : State → Prop} (hE : EXB G EX) {th : Nat} {a1 : Int32} {a2 : Int32} {h : AH} (t0 : KD th = 8) {r : Int32 × AH} (hx : fX9_saw th a1 a2 h = some r) : MetU l G EX mi_X9_saw 2 45 [.ref (G.1 + th), .int a1, .int a2] h (some (.int r.1)) r.2 := by
  refine MetU.of mic_X9_saw.1 (Nat.le_of_ble_eq_true rfl) ?_
  refine show U l G EX mi_X9_saw 2 45 (some (.int r.1)) r.2 0 [(0, .ref (G.1 + th)), (1, .int a1), (2, .int a2)] [] h from ?_
  unfold fX9_saw at hx
  refine V.iload_n (j := 1) dX9_saw_0 rfl rfl rfl ?_
  obtain ⟨v2, q1, hx⟩ := ob_some hx
  refine U.callS (As := [.int a1]) (rest := []) (st' := [.int v2]) hE.1 (mX9_isStep hE q1) mic_X9_isStep rfl wq_m_X9_177 wq_t_yX9_isStep ⟨Nat.le_of_ble_eq_true rfl, Nat.le_of_ble_eq_true rfl⟩ (Nat.le_of_ble_eq_true rfl) dX9_saw_1 rfl rfl rfl ?_
  refine V.if_eq (tgt := 25) hx dX9_saw_4 (by decide) rfl (fun hx => ?_) (fun hx => ?_)
  · refine V.pick [0] rfl ?_
    exact vX9_saw_25 hE th h t0 hx
  · refine V.iload_n (j := 2) dX9_saw_7 rfl rfl rfl ?_
    refine V.i2l dX9_saw_8 rfl ?_
    refine V.lconst dX9_saw_9 rfl kl_0 ?_
    refine V.iconst dX9_saw_10 rfl ki_1 ?_
    refine V.aload_n (j := 0) dX9_saw_11 rfl rfl rfl ?_
    obtain ⟨v7, q6, hx⟩ := ob_some hx
    refine U.callV (As := []) (rest := [.int (1 : Int32), .long (0 : Int64), .long a2.toInt64]) (st' := [.int v7, .int (1 : Int32), .long (0 : Int64), .long a2.toInt64]) hE.1 (mX9_manyWatchers hE t0 q6) mic_X9_manyWatchers rfl t0 (by decide) rfl rfl wq_m_X9_63 wq_i_yX9_manyWatchers wq_s_yX9_manyWatchers ⟨Nat.le_of_ble_eq_true rfl, Nat.le_of_ble_eq_true rfl⟩ (Nat.le_of_ble_eq_true rfl) dX9_saw_12 rfl rfl rfl ?_
    refine V.ishl dX9_saw_15 rfl ?_
    refine V.iconst dX9_saw_16 rfl ki_1 ?_
    refine V.isub dX9_saw_17 rfl ?_
    refine V.i2l dX9_saw_18 rfl ?_
    obtain ⟨v9, q8, hx⟩ := ob_some hx
    refine U.callS (As := [.long a2.toInt64, .long (0 : Int64), .long (((jshl (1 : Int32) v7) - (1 : Int32)).toInt64)]) (rest := []) (st' := [.int v9]) hE.1 (mX9_in hE q8) mic_X9_in rfl wq_m_X9_59 wq_t_yX9_in ⟨Nat.le_of_ble_eq_true rfl, Nat.le_of_ble_eq_true rfl⟩ (Nat.le_of_ble_eq_true rfl) dX9_saw_19 rfl rfl rfl ?_
    refine V.if_ne (tgt := 32) hx dX9_saw_22 (by decide) rfl (fun hx => ?_) (fun hx => ?_)
    · refine V.aload_n (j := 0) dX9_saw_32 rfl rfl rfl ?_
      refine U.getP fl_X9_7 t0 dX9_saw_33 rfl ?_
      refine V.iconst dX9_saw_36 rfl ki_2 ?_
      refine U.iald hx (ty_X9_0 t0) dX9_saw_37 rfl (fun hx => ?_)
      refine V.bipush dX9_saw_38 rfl kb_6 ?_
      refine V.icmp_ne (tgt := 48) hx dX9_saw_40 (by decide) rfl (fun hx => ?_) (fun hx => ?_)
      · refine V.aload_n (j := 0) dX9_saw_48 rfl rfl rfl ?_
        refine U.getP fl_X9_7 t0 dX9_saw_49 rfl ?_
        refine V.bipush dX9_saw_52 rfl kb_46 ?_
        refine V.iconst dX9_saw_54 rfl ki_2 ?_
        refine V.aload_n (j := 0) dX9_saw_55 rfl rfl rfl ?_
        refine U.getP fl_X9_7 t0 dX9_saw_56 rfl ?_
        refine V.iconst dX9_saw_59 rfl ki_2 ?_
        refine U.iald hx (ty_X9_0 t0) dX9_saw_60 rfl (fun hx => ?_)
        refine V.imul dX9_saw_61 rfl ?_
        refine V.iadd dX9_saw_62 rfl ?_
        refine V.iload_n (j := 1) dX9_saw_63 rfl rfl rfl ?_
        refine U.iast hx (ty_X9_0 t0) dX9_saw_64 rfl (fun h10 hx => ?_)
        refine V.aload_n (j := 0) dX9_saw_65 rfl rfl rfl ?_
        refine U.getP fl_X9_7 t0 dX9_saw_66 rfl ?_
        refine V.bipush dX9_saw_69 rfl kb_46 ?_
        refine V.iconst dX9_saw_71 rfl ki_2 ?_
        refine V.aload_n (j := 0) dX9_saw_72 rfl rfl rfl ?_
        refine U.getP fl_X9_7 t0 dX9_saw_73 rfl ?_
        refine V.iconst dX9_saw_76 rfl ki_2 ?_
        refine U.iald hx (ty_X9_0 t0) dX9_saw_77 rfl (fun hx => ?_)
        refine V.imul dX9_saw_78 rfl ?_
        refine V.iadd dX9_saw_79 rfl ?_
        refine V.iconst dX9_saw_80 rfl ki_1 ?_
        refine V.iadd dX9_saw_81 rfl ?_
        refine V.iload_n (j := 2) dX9_saw_82 rfl rfl rfl ?_
        refine U.iast hx (ty_X9_0 t0) dX9_saw_83 rfl (fun h11 hx => ?_)
        refine V.aload_n (j := 0) dX9_saw_84 rfl rfl rfl ?_
        refine U.getP fl_X9_7 t0 dX9_saw_85 rfl ?_
        refine V.iconst dX9_saw_88 rfl ki_2 ?_
        refine V.dup2 dX9_saw_89 rfl rfl rfl ?_
        refine U.iald hx (ty_X9_0 t0) dX9_saw_90 rfl (fun hx => ?_)
        refine V.iconst dX9_saw_91 rfl ki_1 ?_
        refine V.iadd dX9_saw_92 rfl ?_
        refine U.iast hx (ty_X9_0 t0) dX9_saw_93 rfl (fun h12 hx => ?_)
        refine V.aload_n (j := 0) dX9_saw_94 rfl rfl rfl ?_
        refine U.getP fl_X9_7 t0 dX9_saw_95 rfl ?_
        refine V.iconst dX9_saw_98 rfl ki_2 ?_
        refine U.iald hx (ty_X9_0 t0) dX9_saw_99 rfl (fun hx => ?_)
        obtain rfl := Option.some.inj hx
        exact U.retI rfl rfl rfl rfl dX9_saw_100
      · refine V.aload_n (j := 0) dX9_saw_43 rfl rfl rfl ?_
        obtain ⟨v15, h14, q13, hx⟩ := ob2_some hx
        refine U.callV (As := []) (rest := []) (st' := [.int v15]) hE.1 (mX9_full hE t0 q13) mic_X9_full rfl t0 (by decide) rfl rfl wq_m_X9_82 wq_i_yX9_full wq_s_yX9_full ⟨Nat.le_of_ble_eq_true rfl, Nat.le_of_ble_eq_true rfl⟩ (Nat.le_of_ble_eq_true rfl) dX9_saw_44 rfl rfl rfl ?_
        obtain rfl := Option.some.inj hx
        exact U.retI rfl rfl rfl rfl dX9_saw_47
    · refine V.pick [0] rfl ?_
      exact vX9_saw_25 hE th h t0 hx
set_option maxRecDepth 100000 in
set_option maxHeartbeats 4000000 in
theorem vX9_where_79 {l : Launch} {G : GG} {EX : State → Prop} (hE : EXB G EX) {h : AH} {r : Int32} {k15 : Nat → Int32 → Int32 → Int32 → Int32 → Option (Int32)} {k86 : Nat → Int32 → Int32 → Int32 → Option (Int32)} (hk15 : ∀ (l0 : Nat) (l1 : Int32) (l2 : Int32) (l3 : Int32) (l4 : Int32) (t0 : KD l0 = 8), k15 l0 l1 l2 l3 l4 = some r → U l G EX mi_X9_where 7 168 (some (.int r)) h 15 [(0, .ref (G.1 + l0)), (1, .int l1), (2, .int l2), (3, .int l3), (4, .int l4)] [] h) (hk86 : ∀ (l0 : Nat) (l1 : Int32) (l2 : Int32) (l3 : Int32) (t0 : KD l0 = 8), k86 l0 l1 l2 l3 = some r → U l G EX mi_X9_where 7 168 (some (.int r)) h 86 [(0, .ref (G.1 + l0)), (1, .int l1), (2, .int l2), (3, .int l3)] [] h) : ∀ (l0 : Nat) (l1 : Int32) (l2 : Int32) (l4 : Int32) (s0 : Int32) (t0 : KD l0 = 8), fX9_where_79 h k15 k86 l0 l1 l2 l4 s0 = some r → U l G EX mi_X9_where 7 168 (some (.int r)) h 79 [(0, .ref (G.1 + l0)), (1, .int l1), (2, .int l2), (4, .int l4)] [.int s0] h := by
  intro l0 l1 l2 l4 s0 t0 hx
  unfold fX9_where_79 at hx
  refine V.istore_n [(3, .int s0), (0, .ref (G.1 + l0)), (1, .int l1), (2, .int l2), (4, .int l4)] dX9_where_79 rfl rfl (Nat.le_of_ble_eq_true rfl) rfl ?_
  refine U.iinc hx (fun v1 => [(4, .int v1), (3, .int s0), (0, .ref (G.1 + l0)), (1, .int l1), (2, .int l2)]) (j := 4) rfl (by decide) (Nat.le_of_ble_eq_true rfl) (fun _ => rfl) dX9_where_80 rfl (fun v1 hx => ?_)
  refine V.goto (q := 15) dX9_where_83 (by decide) ?_
  refine V.pick [2, 3, 4, 1, 0] rfl ?_
  exact hk15 l0 l1 l2 s0 v1 t0 hx
set_option maxRecDepth 100000 in
set_option maxHeartbeats 4000000 in
theorem vX9_where_78 {l : Launch} {G : GG} {EX : State → Prop} (hE : EXB G EX) {h : AH} {r : Int32} {k15 : Nat → Int32 → Int32 → Int32 → Int32 → Option (Int32)} {k86 : Nat → Int32 → Int32 → Int32 → Option (Int32)} (hk15 : ∀ (l0 : Nat) (l1 : Int32) (l2 : Int32) (l3 : Int32) (l4 : Int32) (t0 : KD l0 = 8), k15 l0 l1 l2 l3 l4 = some r → U l G EX mi_X9_where 7 168 (some (.int r)) h 15 [(0, .ref (G.1 + l0)), (1, .int l1), (2, .int l2), (3, .int l3), (4, .int l4)] [] h) (hk86 : ∀ (l0 : Nat) (l1 : Int32) (l2 : Int32) (l3 : Int32) (t0 : KD l0 = 8), k86 l0 l1 l2 l3 = some r → U l G EX mi_X9_where 7 168 (some (.int r)) h 86 [(0, .ref (G.1 + l0)), (1, .int l1), (2, .int l2), (3, .int l3)] [] h) : ∀ (l0 : Nat) (l1 : Int32) (l2 : Int32) (l4 : Int32) (t0 : KD l0 = 8), fX9_where_78 h k15 k86 l0 l1 l2 l4 = some r → U l G EX mi_X9_where 7 168 (some (.int r)) h 78 [(0, .ref (G.1 + l0)), (1, .int l1), (2, .int l2), (4, .int l4)] [] h := by
  intro l0 l1 l2 l4 t0 hx
  unfold fX9_where_78 at hx
  refine V.iconst dX9_where_78 rfl ki_0 ?_
  exact vX9_where_79 hE hk15 hk86 l0 l1 l2 l4 (0 : Int32) t0 hx
set_option maxRecDepth 100000 in
set_option maxHeartbeats 4000000 in
theorem vX9_where_15 {l : Launch} {G : GG} {EX : State → Prop} (hE : EXB G EX) {h : AH} {r : Int32} {k86 : Nat → Int32 → Int32 → Int32 → Option (Int32)} (hk86 : ∀ (l0 : Nat) (l1 : Int32) (l2 : Int32) (l3 : Int32) (t0 : KD l0 = 8), k86 l0 l1 l2 l3 = some r → U l G EX mi_X9_where 7 168 (some (.int r)) h 86 [(0, .ref (G.1 + l0)), (1, .int l1), (2, .int l2), (3, .int l3)] [] h) : ∀ (n : Nat) (l0 : Nat) (l1 : Int32) (l2 : Int32) (l3 : Int32) (l4 : Int32) (t0 : KD l0 = 8), fX9_where_15 h k86 n l0 l1 l2 l3 l4 = some r → U l G EX mi_X9_where 7 168 (some (.int r)) h 15 [(0, .ref (G.1 + l0)), (1, .int l1), (2, .int l2), (3, .int l3), (4, .int l4)] [] h := by
  intro n
  induction n with
  | zero =>
    intro l0 l1 l2 l3 l4 t0 hx
    have hx : none = some r := hx
    cases hx
  | succ n ih =>
    intro l0 l1 l2 l3 l4 t0 hx
    rw [fX9_where_15] at hx
    refine V.iload (j := 4) dX9_where_15 rfl rfl ?_
    refine V.aload_n (j := 0) dX9_where_17 rfl rfl rfl ?_
    refine U.getP fl_X9_7 t0 dX9_where_18 rfl ?_
    refine V.iconst dX9_where_21 rfl ki_2 ?_
    refine U.iald hx (ty_X9_0 t0) dX9_where_22 rfl (fun hx => ?_)
    refine V.icmp_ge (tgt := 86) hx dX9_where_23 (by decide) rfl (fun hx => ?_) (fun hx => ?_)
    · refine V.pick [0, 1, 2, 3] rfl ?_
      exact hk86 l0 l1 l2 l3 t0 hx
    · refine V.iload_n (j := 3) dX9_where_26 rfl rfl rfl ?_
      refine V.if_eq (tgt := 78) hx dX9_where_27 (by decide) rfl (fun hx => ?_) (fun hx => ?_)
      · refine V.pick [0, 1, 2, 4] rfl ?_
        exact vX9_where_78 hE (ih) hk86 l0 l1 l2 l4 t0 hx
      · refine V.aload_n (j := 0) dX9_where_30 rfl rfl rfl ?_
        refine U.getP fl_X9_7 t0 dX9_where_31 rfl ?_
        refine V.iload_n (j := 2) dX9_where_34 rfl rfl rfl ?_
        refine V.aload_n (j := 0) dX9_where_35 rfl rfl rfl ?_
        refine U.getP fl_X9_7 t0 dX9_where_36 rfl ?_
        obtain ⟨v3, q2, hx⟩ := ob_some hx
        refine U.callS (As := [.ref (G.1 + (PC l0 0))]) (rest := [.int l2, .ref (G.1 + (PC l0 0))]) (st' := [.int v3, .int l2, .ref (G.1 + (PC l0 0))]) hE.1 (mX9_isOn hE (ty_X9_0 t0) q2) mic_X9_isOn rfl wq_m_X9_133 wq_t_yX9_isOn ⟨Nat.le_of_ble_eq_true rfl, Nat.le_of_ble_eq_true rfl⟩ (Nat.le_of_ble_eq_true rfl) dX9_where_39 rfl rfl rfl ?_
        refine V.aload_n (j := 0) dX9_where_42 rfl rfl rfl ?_
        refine U.getP fl_X9_7 t0 dX9_where_43 rfl ?_
        refine V.bipush dX9_where_46 rfl kb_46 ?_
        refine V.iconst dX9_where_48 rfl ki_2 ?_
        refine V.iload (j := 4) dX9_where_49 rfl rfl ?_
        refine V.imul dX9_where_51 rfl ?_
        refine V.iadd dX9_where_52 rfl ?_
        refine U.iald hx (ty_X9_0 t0) dX9_where_53 rfl (fun hx => ?_)
        obtain ⟨v5, q4, hx⟩ := ob_some hx
        refine U.callS (As := [.ref (G.1 + (PC l0 0)), .int l2, .int v3, .int (hI h (PC l0 0) (ix ((46 : Int32) + ((2 : Int32) * l4))))]) (rest := []) (st' := [.int v5]) hE.1 (mX9_whoSees hE (ty_X9_0 t0) q4) mic_X9_whoSees rfl wq_m_X9_137 wq_t_yX9_whoSees ⟨Nat.le_of_ble_eq_true rfl, Nat.le_of_ble_eq_true rfl⟩ (Nat.le_of_ble_eq_true rfl) dX9_where_54 rfl rfl rfl ?_
        refine V.aload_n (j := 0) dX9_where_57 rfl rfl rfl ?_
        refine U.getP fl_X9_7 t0 dX9_where_58 rfl ?_
        refine V.bipush dX9_where_61 rfl kb_46 ?_
        refine V.iconst dX9_where_63 rfl ki_2 ?_
        refine V.iload (j := 4) dX9_where_64 rfl rfl ?_
        refine V.imul dX9_where_66 rfl ?_
        refine V.iadd dX9_where_67 rfl ?_
        refine V.iconst dX9_where_68 rfl ki_1 ?_
        refine V.iadd dX9_where_69 rfl ?_
        refine U.iald hx (ty_X9_0 t0) dX9_where_70 rfl (fun hx => ?_)
        refine V.icmp_ne (tgt := 78) hx dX9_where_71 (by decide) rfl (fun hx => ?_) (fun hx => ?_)
        · refine V.pick [0, 1, 2, 4] rfl ?_
          exact vX9_where_78 hE (ih) hk86 l0 l1 l2 l4 t0 hx
        · refine V.iconst dX9_where_74 rfl ki_1 ?_
          refine V.goto (q := 79) dX9_where_75 (by decide) ?_
          refine V.pick [0, 1, 2, 4] rfl ?_
          exact vX9_where_79 hE (ih) hk86 l0 l1 l2 l4 (1 : Int32) t0 hx
set_option maxRecDepth 100000 in
set_option maxHeartbeats 4000000 in
theorem vX9_where_98 {l : Launch} {G : GG} {EX : State → Prop} (hE : EXB G EX) {h : AH} {r : Int32} {k4 : Nat → Int32 → Int32 → Option (Int32)} (hk4 : ∀ (l0 : Nat) (l1 : Int32) (l2 : Int32) (t0 : KD l0 = 8), k4 l0 l1 l2 = some r → U l G EX mi_X9_where 7 168 (some (.int r)) h 4 [(0, .ref (G.1 + l0)), (1, .int l1), (2, .int l2)] [] h) : ∀ (l0 : Nat) (l2 : Int32) (s0 : Int32) (s1 : Int32) (t0 : KD l0 = 8), fX9_where_98 h k4 l0 l2 s0 s1 = some r → U l G EX mi_X9_where 7 168 (some (.int r)) h 98 [(0, .ref (G.1 + l0)), (2, .int l2)] [.int s1, .int s0] h := by
  intro l0 l2 s0 s1 t0 hx
  unfold fX9_where_98 at hx
  refine V.ior dX9_where_98 rfl ?_
  refine U.letI hx (fun v11 hx => ?_)
  refine V.istore_n [(1, .int v11), (0, .ref (G.1 + l0)), (2, .int l2)] dX9_where_99 rfl rfl (Nat.le_of_ble_eq_true rfl) rfl ?_
  refine U.iinc hx (fun v12 => [(2, .int v12), (1, .int v11), (0, .ref (G.1 + l0))]) (j := 2) rfl (by decide) (Nat.le_of_ble_eq_true rfl) (fun _ => rfl) dX9_where_100 rfl (fun v12 hx => ?_)
  refine V.goto (q := 4) dX9_where_103 (by decide) ?_
  refine V.pick [2, 1, 0] rfl ?_
  exact hk4 l0 v11 v12 t0 hx
set_option maxRecDepth 100000 in
set_option maxHeartbeats 4000000 in
theorem vX9_where_4 {l : Launch} {G : GG} {EX : State → Prop} (hE : EXB G EX) {h : AH} {r : Int32} : ∀ (n : Nat) (l0 : Nat) (l1 : Int32) (l2 : Int32) (t0 : KD l0 = 8), fX9_where_4 h n l0 l1 l2 = some r → U l G EX mi_X9_where 7 168 (some (.int r)) h 4 [(0, .ref (G.1 + l0)), (1, .int l1), (2, .int l2)] [] h := by
  intro n
  induction n with
  | zero =>
    intro l0 l1 l2 t0 hx
    have hx : none = some r := hx
    cases hx
  | succ n ih =>
    intro l0 l1 l2 t0 hx
    rw [fX9_where_4] at hx
    refine V.iload_n (j := 2) dX9_where_4 rfl rfl rfl ?_
    refine V.bipush dX9_where_5 rfl kb_30 ?_
    refine V.icmp_ge (tgt := 106) hx dX9_where_7 (by decide) rfl (fun hx => ?_) (fun hx => ?_)
    · refine V.iload_n (j := 1) dX9_where_106 rfl rfl rfl ?_
      obtain rfl := Option.some.inj hx
      exact U.retI rfl rfl rfl rfl dX9_where_107
    · refine V.iconst dX9_where_10 rfl ki_1 ?_
      refine V.istore_n [(3, .int (1 : Int32)), (0, .ref (G.1 + l0)), (1, .int l1), (2, .int l2)] dX9_where_11 rfl rfl (Nat.le_of_ble_eq_true rfl) rfl ?_
      refine V.iconst dX9_where_12 rfl ki_0 ?_
      refine V.istore [(4, .int (0 : Int32)), (3, .int (1 : Int32)), (0, .ref (G.1 + l0)), (1, .int l1), (2, .int l2)] dX9_where_13 rfl (Nat.le_of_ble_eq_true rfl) rfl ?_
      refine V.pick [2, 3, 4, 1, 0] rfl ?_
      refine vX9_where_15 hE (fun w6 w7 w8 w9 t10 hx => ?_) FU l0 l1 l2 (1 : Int32) (0 : Int32) t0 hx
      · refine V.iload_n (j := 1) dX9_where_86 rfl rfl rfl ?_
        refine V.iload_n (j := 3) dX9_where_87 rfl rfl rfl ?_
        refine V.if_eq (tgt := 97) hx dX9_where_88 (by decide) rfl (fun hx => ?_) (fun hx => ?_)
        · refine V.iconst dX9_where_97 rfl ki_0 ?_
          refine V.pick [0, 2] rfl ?_
          exact vX9_where_98 hE (ih) w6 w8 w7 (0 : Int32) t10 hx
        · refine V.iconst dX9_where_91 rfl ki_1 ?_
          refine V.iload_n (j := 2) dX9_where_92 rfl rfl rfl ?_
          refine V.ishl dX9_where_93 rfl ?_
          refine V.goto (q := 98) dX9_where_94 (by decide) ?_
          refine V.pick [0, 2] rfl ?_
          exact vX9_where_98 hE (ih) w6 w8 w7 (jshl (1 : Int32) w8) t10 hx
set_option maxRecDepth 100000 in
set_option maxHeartbeats 4000000 in
theorem mX9_where {l : Launch} {G : GG} {EX : State → Prop} (hE : EXB G EX) {th : Nat} {h : AH} (t0 : KD th = 8) {r : Int32} (hx : fX9_where th h = some r) : MetU l G EX mi_X9_where 7 168 [.ref (G.1 + th)] h (some (.int r)) h := by
  refine MetU.of mic_X9_where.1 (Nat.le_of_ble_eq_true rfl) ?_
  refine show U l G EX mi_X9_where 7 168 (some (.int r)) h 0 [(0, .ref (G.1 + th))] [] h from ?_
  unfold fX9_where at hx
  refine V.iconst dX9_where_0 rfl ki_0 ?_
  refine V.istore_n [(1, .int (0 : Int32)), (0, .ref (G.1 + th))] dX9_where_1 rfl rfl (Nat.le_of_ble_eq_true rfl) rfl ?_
  refine V.iconst dX9_where_2 rfl ki_0 ?_
  refine V.istore_n [(2, .int (0 : Int32)), (1, .int (0 : Int32)), (0, .ref (G.1 + th))] dX9_where_3 rfl rfl (Nat.le_of_ble_eq_true rfl) rfl ?_
  refine V.pick [2, 1, 0] rfl ?_
  exact vX9_where_4 hE FU th (0 : Int32) (0 : Int32) t0 hx
