set_option maxRecDepth 100000 in
set_option maxHeartbeats 4000000 in
theorem mX5_carryOut {l : Launch} {G : GG} {EX : State → Prop} (hE : EXB G EX) {th : Nat} {a1 : Nat} {a2 : Nat} {h : AH} (t0 : KD th = 4) (t1 : KD a1 = 1) (t2 : KD a2 = 6) {r : AH} (hx : fX5_carryOut th a1 a2 h = some r) : MetU l G EX mi_X5_carryOut 5 122 [.ref (G.1 + th), .ref (G.1 + a1), .ref (G.1 + a2)] h none r := by
  refine MetU.of mic_X5_carryOut.1 (Nat.le_of_ble_eq_true rfl) ?_
  refine show U l G EX mi_X5_carryOut 5 122 none r 0 [(0, .ref (G.1 + th)), (1, .ref (G.1 + a1)), (2, .ref (G.1 + a2))] [] h from ?_
  unfold fX5_carryOut at hx
  refine V.aload_n (j := 0) dX5_carryOut_0 rfl rfl rfl ?_
  refine U.getI fl_X5_54 t0 dX5_carryOut_1 rfl ?_
  refine U.letI hx (fun v1 hx => ?_)
  refine sw_case (ci := 1) hx (by decide) (fun c4 hx => ?_) (fun c4 hx => ?_)
  · refine V.tableIn (tgt := 40) dX5_carryOut_4 (by rw [c4]; decide) (by rw [c4]; decide) (by rw [c4]; rfl) (by decide) ?_
    refine V.aload_n (j := 1) dX5_carryOut_40 rfl rfl rfl ?_
    refine V.aload_n (j := 0) dX5_carryOut_41 rfl rfl rfl ?_
    refine U.getP fl_X5_15 t0 dX5_carryOut_42 rfl ?_
    refine V.iconst dX5_carryOut_45 rfl ki_0 ?_
    refine U.iald hx (ty_X5_2 t0) dX5_carryOut_46 rfl (fun hx => ?_)
    refine V.aload_n (j := 0) dX5_carryOut_47 rfl rfl rfl ?_
    refine U.getP fl_X5_15 t0 dX5_carryOut_48 rfl ?_
    refine V.iconst dX5_carryOut_51 rfl ki_1 ?_
    refine U.iald hx (ty_X5_2 t0) dX5_carryOut_52 rfl (fun hx => ?_)
    refine V.aload_n (j := 0) dX5_carryOut_53 rfl rfl rfl ?_
    refine U.getP fl_X5_15 t0 dX5_carryOut_54 rfl ?_
    refine V.iconst dX5_carryOut_57 rfl ki_2 ?_
    refine U.iald hx (ty_X5_2 t0) dX5_carryOut_58 rfl (fun hx => ?_)
    obtain ⟨v4, h3, q2, hx⟩ := ob2_some hx
    refine U.callV (As := [.int (hI h (PC th 2) (ix (0 : Int32))), .int (hI h (PC th 2) (ix (1 : Int32))), .int (hI h (PC th 2) (ix (2 : Int32)))]) (rest := []) (st' := [.int v4]) hE.1 (mX2_addShow hE t1 q2) mic_X2_addShow rfl t1 (by decide) rfl rfl wq_m_X5_75 wq_i_yX2_addShow wq_s_yX2_addShow ⟨Nat.le_of_ble_eq_true rfl, Nat.le_of_ble_eq_true rfl⟩ (Nat.le_of_ble_eq_true rfl) dX5_carryOut_59 rfl rfl rfl ?_
    refine V.pop dX5_carryOut_62 rfl rfl ?_
    refine V.goto (q := 142) dX5_carryOut_63 (by decide) ?_
    obtain rfl := Option.some.inj hx
    exact U.ret0 rfl rfl rfl dX5_carryOut_142
  refine sw_case (ci := 2) hx (by decide) (fun c8 hx => ?_) (fun c8 hx => ?_)
  · refine V.tableIn (tgt := 86) dX5_carryOut_4 (by rw [c8]; decide) (by rw [c8]; decide) (by rw [c8]; rfl) (by decide) ?_
    refine V.aload_n (j := 1) dX5_carryOut_86 rfl rfl rfl ?_
    refine V.aload_n (j := 0) dX5_carryOut_87 rfl rfl rfl ?_
    refine U.getP fl_X5_15 t0 dX5_carryOut_88 rfl ?_
    refine V.iconst dX5_carryOut_91 rfl ki_0 ?_
    refine U.iald hx (ty_X5_2 t0) dX5_carryOut_92 rfl (fun hx => ?_)
    obtain ⟨v7, q6, hx⟩ := ob_some hx
    refine U.callV (As := [.int (hI h (PC th 2) (ix (0 : Int32)))]) (rest := []) (st' := [.int v7]) hE.1 (mX2_hasShow hE t1 q6) mic_X2_hasShow rfl t1 (by decide) rfl rfl wq_m_X5_81 wq_i_yX2_hasShow wq_s_yX2_hasShow ⟨Nat.le_of_ble_eq_true rfl, Nat.le_of_ble_eq_true rfl⟩ (Nat.le_of_ble_eq_true rfl) dX5_carryOut_93 rfl rfl rfl ?_
    refine V.if_eq (tgt := 142) hx dX5_carryOut_96 (by decide) rfl (fun hx => ?_) (fun hx => ?_)
    · obtain rfl := Option.some.inj hx
      exact U.ret0 rfl rfl rfl dX5_carryOut_142
    · refine V.aload_n (j := 1) dX5_carryOut_99 rfl rfl rfl ?_
      refine U.getP fl_X5_85 t1 dX5_carryOut_100 rfl ?_
      refine V.aload_n (j := 0) dX5_carryOut_103 rfl rfl rfl ?_
      refine U.getP fl_X5_15 t0 dX5_carryOut_104 rfl ?_
      refine V.iconst dX5_carryOut_107 rfl ki_0 ?_
      refine U.iald hx (ty_X5_2 t0) dX5_carryOut_108 rfl (fun hx => ?_)
      refine V.iconst dX5_carryOut_109 rfl ki_0 ?_
      refine U.iast hx (ty_X2_7 t1) dX5_carryOut_110 rfl (fun h8 hx => ?_)
      refine V.goto (q := 142) dX5_carryOut_111 (by decide) ?_
      obtain rfl := Option.some.inj hx
      exact U.ret0 rfl rfl rfl dX5_carryOut_142
  refine sw_case (ci := 3) hx (by decide) (fun c12 hx => ?_) (fun c12 hx => ?_)
  · refine V.tableIn (tgt := 66) dX5_carryOut_4 (by rw [c12]; decide) (by rw [c12]; decide) (by rw [c12]; rfl) (by decide) ?_
    refine V.aload_n (j := 1) dX5_carryOut_66 rfl rfl rfl ?_
    refine V.aload_n (j := 0) dX5_carryOut_67 rfl rfl rfl ?_
    refine U.getP fl_X5_15 t0 dX5_carryOut_68 rfl ?_
    refine V.iconst dX5_carryOut_71 rfl ki_0 ?_
    refine U.iald hx (ty_X5_2 t0) dX5_carryOut_72 rfl (fun hx => ?_)
    refine V.aload_n (j := 0) dX5_carryOut_73 rfl rfl rfl ?_
    refine U.getP fl_X5_15 t0 dX5_carryOut_74 rfl ?_
    refine V.iconst dX5_carryOut_77 rfl ki_1 ?_
    refine U.iald hx (ty_X5_2 t0) dX5_carryOut_78 rfl (fun hx => ?_)
    obtain ⟨v12, h11, q10, hx⟩ := ob2_some hx
    refine U.callV (As := [.int (hI h (PC th 2) (ix (0 : Int32))), .int (hI h (PC th 2) (ix (1 : Int32)))]) (rest := []) (st' := [.int v12]) hE.1 (mX2_addWatcher hE t1 q10) mic_X2_addWatcher rfl t1 (by decide) rfl rfl wq_m_X5_78 wq_i_yX2_addWatcher wq_s_yX2_addWatcher ⟨Nat.le_of_ble_eq_true rfl, Nat.le_of_ble_eq_true rfl⟩ (Nat.le_of_ble_eq_true rfl) dX5_carryOut_79 rfl rfl rfl ?_
    refine V.pop dX5_carryOut_82 rfl rfl ?_
    refine V.goto (q := 142) dX5_carryOut_83 (by decide) ?_
    obtain rfl := Option.some.inj hx
    exact U.ret0 rfl rfl rfl dX5_carryOut_142
  refine sw_case (ci := 4) hx (by decide) (fun c16 hx => ?_) (fun c16 hx => ?_)
  · refine V.tableIn (tgt := 114) dX5_carryOut_4 (by rw [c16]; decide) (by rw [c16]; decide) (by rw [c16]; rfl) (by decide) ?_
    refine V.aload_n (j := 2) dX5_carryOut_114 rfl rfl rfl ?_
    refine V.aload_n (j := 1) dX5_carryOut_115 rfl rfl rfl ?_
    refine V.aload_n (j := 0) dX5_carryOut_116 rfl rfl rfl ?_
    refine U.getP fl_X5_15 t0 dX5_carryOut_117 rfl ?_
    refine V.iconst dX5_carryOut_120 rfl ki_0 ?_
    refine U.iald hx (ty_X5_2 t0) dX5_carryOut_121 rfl (fun hx => ?_)
    obtain ⟨v16, h15, q14, hx⟩ := ob2_some hx
    refine U.callV (As := [.ref (G.1 + a1), .int (hI h (PC th 2) (ix (0 : Int32)))]) (rest := []) (st' := [.int v16]) hE.1 (mX7_doingIn hE t2 t1 q14) mic_X7_doingIn rfl t2 (by decide) rfl rfl wq_m_X5_88 wq_i_yX7_doingIn wq_s_yX7_doingIn ⟨Nat.le_of_ble_eq_true rfl, Nat.le_of_ble_eq_true rfl⟩ (Nat.le_of_ble_eq_true rfl) dX5_carryOut_122 rfl rfl rfl ?_
    refine V.pop dX5_carryOut_125 rfl rfl ?_
    refine V.goto (q := 142) dX5_carryOut_126 (by decide) ?_
    obtain rfl := Option.some.inj hx
    exact U.ret0 rfl rfl rfl dX5_carryOut_142
  refine sw_case (ci := 5) hx (by decide) (fun c19 hx => ?_) (fun c19 hx => ?_)
  · refine V.tableIn (tgt := 129) dX5_carryOut_4 (by rw [c19]; decide) (by rw [c19]; decide) (by rw [c19]; rfl) (by decide) ?_
    refine V.aload_n (j := 1) dX5_carryOut_129 rfl rfl rfl ?_
    refine V.aload_n (j := 0) dX5_carryOut_130 rfl rfl rfl ?_
    refine U.getP fl_X5_15 t0 dX5_carryOut_131 rfl ?_
    refine V.iconst dX5_carryOut_134 rfl ki_0 ?_
    refine U.iald hx (ty_X5_2 t0) dX5_carryOut_135 rfl (fun hx => ?_)
    obtain ⟨h19, q18, hx⟩ := ob_some hx
    refine U.callV (As := [.int (hI h (PC th 2) (ix (0 : Int32)))]) (rest := []) (st' := []) hE.1 (mX2_pass hE t1 q18) mic_X2_pass rfl t1 (by decide) rfl rfl wq_m_X5_94 wq_i_yX2_pass wq_s_yX2_pass ⟨Nat.le_of_ble_eq_true rfl, Nat.le_of_ble_eq_true rfl⟩ (Nat.le_of_ble_eq_true rfl) dX5_carryOut_136 rfl rfl rfl ?_
    refine V.goto (q := 142) dX5_carryOut_139 (by decide) ?_
    obtain rfl := Option.some.inj hx
    exact U.ret0 rfl rfl rfl dX5_carryOut_142
  refine V.tableOut (tgt := 142) dX5_carryOut_4 (by omega) (by decide) ?_
  obtain rfl := Option.some.inj hx
  exact U.ret0 rfl rfl rfl dX5_carryOut_142
set_option maxRecDepth 100000 in
set_option maxHeartbeats 4000000 in
theorem vX5_readInto_68 {l : Launch} {G : GG} {EX : State → Prop} (hE : EXB G EX) {r : Int32 × AH} : ∀ (l0 : Nat) (h : AH) (t0 : KD l0 = 4), fX5_readInto_68 l0 h = some r → U l G EX mi_X5_readInto 8 170 (some (.int r.1)) r.2 68 [(0, .ref (G.1 + l0))] [] h := by
  intro l0 h t0 hx
  unfold fX5_readInto_68 at hx
  refine V.bipush dX5_readInto_68 rfl kb_m10 ?_
  refine V.aload_n (j := 0) dX5_readInto_70 rfl rfl rfl ?_
  refine U.getI fl_X5_44 t0 dX5_readInto_71 rfl ?_
  refine V.isub dX5_readInto_74 rfl ?_
  obtain rfl := Option.some.inj hx
  exact U.retI rfl rfl rfl rfl dX5_readInto_75
set_option maxRecDepth 100000 in
set_option maxHeartbeats 4000000 in
theorem vX5_readInto_53 {l : Launch} {G : GG} {EX : State → Prop} (hE : EXB G EX) {r : Int32 × AH} : ∀ (l0 : Nat) (h : AH) (t0 : KD l0 = 4), fX5_readInto_53 l0 h = some r → U l G EX mi_X5_readInto 8 170 (some (.int r.1)) r.2 53 [(0, .ref (G.1 + l0))] [] h := by
  intro l0 h t0 hx
  unfold fX5_readInto_53 at hx
  refine V.goto (q := 68) dX5_readInto_53 (by decide) ?_
  exact vX5_readInto_68 hE l0 h t0 hx
set_option maxRecDepth 100000 in
set_option maxHeartbeats 4000000 in
theorem vX5_readInto_46 {l : Launch} {G : GG} {EX : State → Prop} (hE : EXB G EX) {r : Int32 × AH} {k11 : Nat → Nat → Nat → Int32 → AH → Option (Int32 × AH)} (hk11 : ∀ (l0 : Nat) (l1 : Nat) (l2 : Nat) (l3 : Int32) (h : AH) (t0 : KD l0 = 4) (t1 : KD l1 = 1) (t2 : KD l2 = 6), k11 l0 l1 l2 l3 h = some r → U l G EX mi_X5_readInto 8 170 (some (.int r.1)) r.2 11 [(0, .ref (G.1 + l0)), (1, .ref (G.1 + l1)), (2, .ref (G.1 + l2)), (3, .int l3)] [] h) : ∀ (l0 : Nat) (l1 : Nat) (l2 : Nat) (l3 : Int32) (s0 : Nat) (s1 : Int32) (h : AH) (t0 : KD l0 = 4) (t1 : KD l1 = 1) (t2 : KD l2 = 6) (ts0 : KD s0 = 4), fX5_readInto_46 k11 l0 l1 l2 l3 s0 s1 h = some r → U l G EX mi_X5_readInto 8 170 (some (.int r.1)) r.2 46 [(0, .ref (G.1 + l0)), (1, .ref (G.1 + l1)), (2, .ref (G.1 + l2)), (3, .int l3)] [.int s1, .ref (G.1 + s0)] h := by
  intro l0 l1 l2 l3 s0 s1 h t0 t1 t2 ts0 hx
  unfold fX5_readInto_46 at hx
  refine V.aload_n (j := 1) dX5_readInto_46 rfl rfl rfl ?_
  obtain ⟨v8, h7, q6, hx⟩ := ob2_some hx
  refine U.callV (As := [.int s1, .ref (G.1 + l1)]) (rest := []) (st' := [.int v8]) hE.1 (mX5_takeItem hE ts0 t1 q6) mic_X5_takeItem rfl ts0 (by decide) rfl rfl wq_m_X5_36 wq_i_yX5_takeItem wq_s_yX5_takeItem ⟨Nat.le_of_ble_eq_true rfl, Nat.le_of_ble_eq_true rfl⟩ (Nat.le_of_ble_eq_true rfl) dX5_readInto_47 rfl rfl rfl ?_
  refine V.if_ne (tgt := 56) hx dX5_readInto_50 (by decide) rfl (fun hx => ?_) (fun hx => ?_)
  · refine V.aload_n (j := 0) dX5_readInto_56 rfl rfl rfl ?_
    refine V.aload_n (j := 1) dX5_readInto_57 rfl rfl rfl ?_
    refine V.aload_n (j := 2) dX5_readInto_58 rfl rfl rfl ?_
    obtain ⟨h10, q9, hx⟩ := ob_some hx
    refine U.callV (As := [.ref (G.1 + l1), .ref (G.1 + l2)]) (rest := []) (st' := []) hE.1 (mX5_carryOut hE t0 t1 t2 q9) mic_X5_carryOut rfl t0 (by decide) rfl rfl wq_m_X5_40 wq_i_yX5_carryOut wq_s_yX5_carryOut ⟨Nat.le_of_ble_eq_true rfl, Nat.le_of_ble_eq_true rfl⟩ (Nat.le_of_ble_eq_true rfl) dX5_readInto_59 rfl rfl rfl ?_
    refine U.iinc hx (fun v11 => [(3, .int v11), (0, .ref (G.1 + l0)), (1, .ref (G.1 + l1)), (2, .ref (G.1 + l2))]) (j := 3) rfl (by decide) (Nat.le_of_ble_eq_true rfl) (fun _ => rfl) dX5_readInto_62 rfl (fun v11 hx => ?_)
    refine V.goto (q := 11) dX5_readInto_65 (by decide) ?_
    refine V.pick [1, 2, 3, 0] rfl ?_
    exact hk11 l0 l1 l2 v11 h10 t0 t1 t2 hx
  · refine V.pick [0] rfl ?_
    exact vX5_readInto_53 hE l0 h7 t0 hx
set_option maxRecDepth 100000 in
set_option maxHeartbeats 4000000 in
theorem vX5_readInto_36 {l : Launch} {G : GG} {EX : State → Prop} (hE : EXB G EX) {r : Int32 × AH} {k11 : Nat → Nat → Nat → Int32 → AH → Option (Int32 × AH)} (hk11 : ∀ (l0 : Nat) (l1 : Nat) (l2 : Nat) (l3 : Int32) (h : AH) (t0 : KD l0 = 4) (t1 : KD l1 = 1) (t2 : KD l2 = 6), k11 l0 l1 l2 l3 h = some r → U l G EX mi_X5_readInto 8 170 (some (.int r.1)) r.2 11 [(0, .ref (G.1 + l0)), (1, .ref (G.1 + l1)), (2, .ref (G.1 + l2)), (3, .int l3)] [] h) : ∀ (l0 : Nat) (l1 : Nat) (l2 : Nat) (l3 : Int32) (h : AH) (t0 : KD l0 = 4) (t1 : KD l1 = 1) (t2 : KD l2 = 6), fX5_readInto_36 k11 l0 l1 l2 l3 h = some r → U l G EX mi_X5_readInto 8 170 (some (.int r.1)) r.2 36 [(0, .ref (G.1 + l0)), (1, .ref (G.1 + l1)), (2, .ref (G.1 + l2)), (3, .int l3)] [] h := by
  intro l0 l1 l2 l3 h t0 t1 t2 hx
  unfold fX5_readInto_36 at hx
  refine V.aload_n (j := 0) dX5_readInto_36 rfl rfl rfl ?_
  refine V.iload_n (j := 3) dX5_readInto_37 rfl rfl rfl ?_
  refine V.if_ne (tgt := 45) hx dX5_readInto_38 (by decide) rfl (fun hx => ?_) (fun hx => ?_)
  · refine V.iconst dX5_readInto_45 rfl ki_0 ?_
    exact vX5_readInto_46 hE hk11 l0 l1 l2 l3 l0 (0 : Int32) h t0 t1 t2 t0 hx
  · refine V.iconst dX5_readInto_41 rfl ki_1 ?_
    refine V.goto (q := 46) dX5_readInto_42 (by decide) ?_
    exact vX5_readInto_46 hE hk11 l0 l1 l2 l3 l0 (1 : Int32) h t0 t1 t2 t0 hx
set_option maxRecDepth 100000 in
set_option maxHeartbeats 4000000 in
theorem vX5_readInto_11 {l : Launch} {G : GG} {EX : State → Prop} (hE : EXB G EX) {r : Int32 × AH} : ∀ (n : Nat) (l0 : Nat) (l1 : Nat) (l2 : Nat) (l3 : Int32) (h : AH) (t0 : KD l0 = 4) (t1 : KD l1 = 1) (t2 : KD l2 = 6), fX5_readInto_11 n l0 l1 l2 l3 h = some r → U l G EX mi_X5_readInto 8 170 (some (.int r.1)) r.2 11 [(0, .ref (G.1 + l0)), (1, .ref (G.1 + l1)), (2, .ref (G.1 + l2)), (3, .int l3)] [] h := by
  intro n
  induction n with
  | zero =>
    intro l0 l1 l2 l3 h t0 t1 t2 hx
    have hx : none = some r := hx
    cases hx
  | succ n ih =>
    intro l0 l1 l2 l3 h t0 t1 t2 hx
    rw [fX5_readInto_11] at hx
    refine V.iload_n (j := 3) dX5_readInto_11 rfl rfl rfl ?_
    refine V.aload_n (j := 0) dX5_readInto_12 rfl rfl rfl ?_
    refine U.getI fl_X5_18 t0 dX5_readInto_13 rfl ?_
    refine V.icmp_gt (tgt := 68) hx dX5_readInto_16 (by decide) rfl (fun hx => ?_) (fun hx => ?_)
    · refine V.pick [0] rfl ?_
      exact vX5_readInto_68 hE l0 h t0 hx
    · refine V.aload_n (j := 0) dX5_readInto_19 rfl rfl rfl ?_
      obtain ⟨h5, q4, hx⟩ := ob_some hx
      refine U.callV (As := []) (rest := []) (st' := []) hE.1 (mX5_advance hE t0 q4) mic_X5_advance rfl t0 (by decide) rfl rfl wq_m_X5_30 wq_i_yX5_advance wq_s_yX5_advance ⟨Nat.le_of_ble_eq_true rfl, Nat.le_of_ble_eq_true rfl⟩ (Nat.le_of_ble_eq_true rfl) dX5_readInto_20 rfl rfl rfl ?_
      refine V.aload_n (j := 0) dX5_readInto_23 rfl rfl rfl ?_
      refine U.getI fl_X5_33 t0 dX5_readInto_24 rfl ?_
      refine V.if_ne (tgt := 36) hx dX5_readInto_27 (by decide) rfl (fun hx => ?_) (fun hx => ?_)
      · exact vX5_readInto_36 hE (ih) l0 l1 l2 l3 h5 t0 t1 t2 hx
      · refine V.iload_n (j := 3) dX5_readInto_30 rfl rfl rfl ?_
        refine V.if_le (tgt := 36) hx dX5_readInto_31 (by decide) rfl (fun hx => ?_) (fun hx => ?_)
        · exact vX5_readInto_36 hE (ih) l0 l1 l2 l3 h5 t0 t1 t2 hx
        · refine V.iload_n (j := 3) dX5_readInto_34 rfl rfl rfl ?_
          obtain rfl := Option.some.inj hx
          exact U.retI rfl rfl rfl rfl dX5_readInto_35
set_option maxRecDepth 100000 in
set_option maxHeartbeats 4000000 in
theorem mX5_readInto {l : Launch} {G : GG} {EX : State → Prop} (hE : EXB G EX) {th : Nat} {a1 : Nat} {a2 : Nat} {h : AH} (t0 : KD th = 4) (t1 : KD a1 = 1) (t2 : KD a2 = 6) {r : Int32 × AH} (hx : fX5_readInto th a1 a2 h = some r) : MetU l G EX mi_X5_readInto 8 170 [.ref (G.1 + th), .ref (G.1 + a1), .ref (G.1 + a2)] h (some (.int r.1)) r.2 := by
  refine MetU.of mic_X5_readInto.1 (Nat.le_of_ble_eq_true rfl) ?_
  refine show U l G EX mi_X5_readInto 8 170 (some (.int r.1)) r.2 0 [(0, .ref (G.1 + th)), (1, .ref (G.1 + a1)), (2, .ref (G.1 + a2))] [] h from ?_
  unfold fX5_readInto at hx
  refine V.aload_n (j := 0) dX5_readInto_0 rfl rfl rfl ?_
  refine V.iconst dX5_readInto_1 rfl ki_0 ?_
  refine U.putI hx fl_X5_22 t0 rfl rfl dX5_readInto_2 rfl (fun h1 hx => ?_)
  refine V.aload_n (j := 1) dX5_readInto_5 rfl rfl rfl ?_
  obtain ⟨h3, q2, hx⟩ := ob_some hx
  refine U.callV (As := []) (rest := []) (st' := []) hE.1 (mX2_makeEmpty hE t1 q2) mic_X2_makeEmpty rfl t1 (by decide) rfl rfl wq_m_X5_25 wq_i_yX2_makeEmpty wq_s_yX2_makeEmpty ⟨Nat.le_of_ble_eq_true rfl, Nat.le_of_ble_eq_true rfl⟩ (Nat.le_of_ble_eq_true rfl) dX5_readInto_6 rfl rfl rfl ?_
  refine V.iconst dX5_readInto_9 rfl ki_0 ?_
  refine V.istore_n [(3, .int (0 : Int32)), (0, .ref (G.1 + th)), (1, .ref (G.1 + a1)), (2, .ref (G.1 + a2))] dX5_readInto_10 rfl rfl (Nat.le_of_ble_eq_true rfl) rfl ?_
  refine V.pick [1, 2, 3, 0] rfl ?_
  exact vX5_readInto_11 hE FU th a1 a2 (0 : Int32) h3 t0 t1 t2 hx
set_option maxRecDepth 100000 in
set_option maxHeartbeats 4000000 in
theorem vX2_copyOf_98 {l : Launch} {G : GG} {EX : State → Prop} (hE : EXB G EX) {r : AH} : ∀ (n : Nat) (l0 : Nat) (l1 : Nat) (l2 : Int32) (h : AH) (t0 : KD l0 = 1) (t1 : KD l1 = 1), fX2_copyOf_98 n l0 l1 l2 h = some r → U l G EX mi_X2_copyOf 0 0 none r 98 [(0, .ref (G.1 + l0)), (1, .ref (G.1 + l1)), (2, .int l2)] [] h := by
  intro n
  induction n with
  | zero =>
    intro l0 l1 l2 h t0 t1 hx
    have hx : none = some r := hx
    cases hx
  | succ n ih =>
    intro l0 l1 l2 h t0 t1 hx
    rw [fX2_copyOf_98] at hx
    refine V.iload_n (j := 2) dX2_copyOf_98 rfl rfl rfl ?_
    refine V.aload_n (j := 0) dX2_copyOf_99 rfl rfl rfl ?_
    refine U.getI fl_X2_43 t0 dX2_copyOf_100 rfl ?_
    refine V.icmp_ge (tgt := 148) hx dX2_copyOf_103 (by decide) rfl (fun hx => ?_) (fun hx => ?_)
    · obtain rfl := Option.some.inj hx
      exact U.ret0 rfl rfl rfl dX2_copyOf_148
    · refine V.aload_n (j := 0) dX2_copyOf_106 rfl rfl rfl ?_
      refine U.getP fl_X2_24 t0 dX2_copyOf_107 rfl ?_
      refine V.iload_n (j := 2) dX2_copyOf_110 rfl rfl rfl ?_
      refine V.aload_n (j := 1) dX2_copyOf_111 rfl rfl rfl ?_
      refine U.getP fl_X2_24 t1 dX2_copyOf_112 rfl ?_
      refine V.iload_n (j := 2) dX2_copyOf_115 rfl rfl rfl ?_
      refine U.iald hx (ty_X2_8 t1) dX2_copyOf_116 rfl (fun hx => ?_)
      refine U.iast hx (ty_X2_8 t0) dX2_copyOf_117 rfl (fun h5 hx => ?_)
      refine V.aload_n (j := 0) dX2_copyOf_118 rfl rfl rfl ?_
      refine U.getP fl_X2_27 t0 dX2_copyOf_119 rfl ?_
      refine V.iload_n (j := 2) dX2_copyOf_122 rfl rfl rfl ?_
      refine V.aload_n (j := 1) dX2_copyOf_123 rfl rfl rfl ?_
      refine U.getP fl_X2_27 t1 dX2_copyOf_124 rfl ?_
      refine V.iload_n (j := 2) dX2_copyOf_127 rfl rfl rfl ?_
      refine U.iald hx (ty_X2_9 t1) dX2_copyOf_128 rfl (fun hx => ?_)
      refine U.iast hx (ty_X2_9 t0) dX2_copyOf_129 rfl (fun h6 hx => ?_)
      refine V.aload_n (j := 0) dX2_copyOf_130 rfl rfl rfl ?_
      refine U.getP fl_X2_30 t0 dX2_copyOf_131 rfl ?_
      refine V.iload_n (j := 2) dX2_copyOf_134 rfl rfl rfl ?_
      refine V.aload_n (j := 1) dX2_copyOf_135 rfl rfl rfl ?_
      refine U.getP fl_X2_30 t1 dX2_copyOf_136 rfl ?_
      refine V.iload_n (j := 2) dX2_copyOf_139 rfl rfl rfl ?_
      refine U.iald hx (ty_X2_10 t1) dX2_copyOf_140 rfl (fun hx => ?_)
      refine U.iast hx (ty_X2_10 t0) dX2_copyOf_141 rfl (fun h7 hx => ?_)
      refine U.iinc hx (fun v8 => [(2, .int v8), (0, .ref (G.1 + l0)), (1, .ref (G.1 + l1))]) (j := 2) rfl (by decide) (Nat.le_of_ble_eq_true rfl) (fun _ => rfl) dX2_copyOf_142 rfl (fun v8 hx => ?_)
      refine V.goto (q := 98) dX2_copyOf_145 (by decide) ?_
      refine V.pick [1, 2, 0] rfl ?_
      exact ih l0 l1 v8 h7 t0 t1 hx
set_option maxRecDepth 100000 in
set_option maxHeartbeats 4000000 in
theorem vX2_copyOf_96 {l : Launch} {G : GG} {EX : State → Prop} (hE : EXB G EX) {r : AH} : ∀ (l0 : Nat) (l1 : Nat) (h : AH) (t0 : KD l0 = 1) (t1 : KD l1 = 1), fX2_copyOf_96 l0 l1 h = some r → U l G EX mi_X2_copyOf 0 0 none r 96 [(0, .ref (G.1 + l0)), (1, .ref (G.1 + l1))] [] h := by
  intro l0 l1 h t0 t1 hx
  unfold fX2_copyOf_96 at hx
  refine V.iconst dX2_copyOf_96 rfl ki_0 ?_
  refine V.istore_n [(2, .int (0 : Int32)), (0, .ref (G.1 + l0)), (1, .ref (G.1 + l1))] dX2_copyOf_97 rfl rfl (Nat.le_of_ble_eq_true rfl) rfl ?_
  refine V.pick [1, 2, 0] rfl ?_
  exact vX2_copyOf_98 hE FU l0 l1 (0 : Int32) h t0 t1 hx
set_option maxRecDepth 100000 in
set_option maxHeartbeats 4000000 in
theorem vX2_copyOf_34 {l : Launch} {G : GG} {EX : State → Prop} (hE : EXB G EX) {r : AH} : ∀ (n : Nat) (l0 : Nat) (l1 : Nat) (l2 : Int32) (h : AH) (t0 : KD l0 = 1) (t1 : KD l1 = 1), fX2_copyOf_34 n l0 l1 l2 h = some r → U l G EX mi_X2_copyOf 0 0 none r 34 [(0, .ref (G.1 + l0)), (1, .ref (G.1 + l1)), (2, .int l2)] [] h := by
  intro n
  induction n with
  | zero =>
    intro l0 l1 l2 h t0 t1 hx
    have hx : none = some r := hx
    cases hx
  | succ n ih =>
    intro l0 l1 l2 h t0 t1 hx
    rw [fX2_copyOf_34] at hx
    refine V.iload_n (j := 2) dX2_copyOf_34 rfl rfl rfl ?_
    refine V.aload_n (j := 0) dX2_copyOf_35 rfl rfl rfl ?_
    refine U.getI fl_X2_40 t0 dX2_copyOf_36 rfl ?_
    refine V.icmp_ge (tgt := 96) hx dX2_copyOf_39 (by decide) rfl (fun hx => ?_) (fun hx => ?_)
    · refine V.pick [0, 1] rfl ?_
      exact vX2_copyOf_96 hE l0 l1 h t0 t1 hx
    · refine V.aload_n (j := 0) dX2_copyOf_42 rfl rfl rfl ?_
      refine U.getP fl_X2_9 t0 dX2_copyOf_43 rfl ?_
      refine V.iload_n (j := 2) dX2_copyOf_46 rfl rfl rfl ?_
      refine V.aload_n (j := 1) dX2_copyOf_47 rfl rfl rfl ?_
      refine U.getP fl_X2_9 t1 dX2_copyOf_48 rfl ?_
      refine V.iload_n (j := 2) dX2_copyOf_51 rfl rfl rfl ?_
      refine U.iald hx (ty_X2_4 t1) dX2_copyOf_52 rfl (fun hx => ?_)
      refine U.iast hx (ty_X2_4 t0) dX2_copyOf_53 rfl (fun h9 hx => ?_)
      refine V.aload_n (j := 0) dX2_copyOf_54 rfl rfl rfl ?_
      refine U.getP fl_X2_15 t0 dX2_copyOf_55 rfl ?_
      refine V.iload_n (j := 2) dX2_copyOf_58 rfl rfl rfl ?_
      refine V.aload_n (j := 1) dX2_copyOf_59 rfl rfl rfl ?_
      refine U.getP fl_X2_15 t1 dX2_copyOf_60 rfl ?_
      refine V.iload_n (j := 2) dX2_copyOf_63 rfl rfl rfl ?_
      refine U.iald hx (ty_X2_5 t1) dX2_copyOf_64 rfl (fun hx => ?_)
      refine U.iast hx (ty_X2_5 t0) dX2_copyOf_65 rfl (fun h10 hx => ?_)
      refine V.aload_n (j := 0) dX2_copyOf_66 rfl rfl rfl ?_
      refine U.getP fl_X2_18 t0 dX2_copyOf_67 rfl ?_
      refine V.iload_n (j := 2) dX2_copyOf_70 rfl rfl rfl ?_
      refine V.aload_n (j := 1) dX2_copyOf_71 rfl rfl rfl ?_
      refine U.getP fl_X2_18 t1 dX2_copyOf_72 rfl ?_
      refine V.iload_n (j := 2) dX2_copyOf_75 rfl rfl rfl ?_
      refine U.iald hx (ty_X2_6 t1) dX2_copyOf_76 rfl (fun hx => ?_)
      refine U.iast hx (ty_X2_6 t0) dX2_copyOf_77 rfl (fun h11 hx => ?_)
      refine V.aload_n (j := 0) dX2_copyOf_78 rfl rfl rfl ?_
      refine U.getP fl_X2_21 t0 dX2_copyOf_79 rfl ?_
      refine V.iload_n (j := 2) dX2_copyOf_82 rfl rfl rfl ?_
      refine V.aload_n (j := 1) dX2_copyOf_83 rfl rfl rfl ?_
      refine U.getP fl_X2_21 t1 dX2_copyOf_84 rfl ?_
      refine V.iload_n (j := 2) dX2_copyOf_87 rfl rfl rfl ?_
      refine U.iald hx (ty_X2_7 t1) dX2_copyOf_88 rfl (fun hx => ?_)
      refine U.iast hx (ty_X2_7 t0) dX2_copyOf_89 rfl (fun h12 hx => ?_)
      refine U.iinc hx (fun v13 => [(2, .int v13), (0, .ref (G.1 + l0)), (1, .ref (G.1 + l1))]) (j := 2) rfl (by decide) (Nat.le_of_ble_eq_true rfl) (fun _ => rfl) dX2_copyOf_90 rfl (fun v13 hx => ?_)
      refine V.goto (q := 34) dX2_copyOf_93 (by decide) ?_
      refine V.pick [1, 2, 0] rfl ?_
      exact ih l0 l1 v13 h12 t0 t1 hx
set_option maxRecDepth 100000 in
set_option maxHeartbeats 4000000 in
theorem mX2_copyOf {l : Launch} {G : GG} {EX : State → Prop} (hE : EXB G EX) {th : Nat} {a1 : Nat} {h : AH} (t0 : KD th = 1) (t1 : KD a1 = 1) {r : AH} (hx : fX2_copyOf th a1 h = some r) : MetU l G EX mi_X2_copyOf 0 0 [.ref (G.1 + th), .ref (G.1 + a1)] h none r := by
  refine MetU.of mic_X2_copyOf.1 (Nat.le_of_ble_eq_true rfl) ?_
  refine show U l G EX mi_X2_copyOf 0 0 none r 0 [(0, .ref (G.1 + th)), (1, .ref (G.1 + a1))] [] h from ?_
  unfold fX2_copyOf at hx
  refine V.aload_n (j := 0) dX2_copyOf_0 rfl rfl rfl ?_
  refine V.aload_n (j := 1) dX2_copyOf_1 rfl rfl rfl ?_
  refine U.getI fl_X2_33 t1 dX2_copyOf_2 rfl ?_
  refine U.putI hx fl_X2_33 t0 rfl rfl dX2_copyOf_5 rfl (fun h1 hx => ?_)
  refine V.aload_n (j := 0) dX2_copyOf_8 rfl rfl rfl ?_
  refine V.aload_n (j := 1) dX2_copyOf_9 rfl rfl rfl ?_
  refine U.getI fl_X2_37 t1 dX2_copyOf_10 rfl ?_
  refine U.putI hx fl_X2_37 t0 rfl rfl dX2_copyOf_13 rfl (fun h2 hx => ?_)
  refine V.aload_n (j := 0) dX2_copyOf_16 rfl rfl rfl ?_
  refine V.aload_n (j := 1) dX2_copyOf_17 rfl rfl rfl ?_
  refine U.getI fl_X2_40 t1 dX2_copyOf_18 rfl ?_
  refine U.putI hx fl_X2_40 t0 rfl rfl dX2_copyOf_21 rfl (fun h3 hx => ?_)
  refine V.aload_n (j := 0) dX2_copyOf_24 rfl rfl rfl ?_
  refine V.aload_n (j := 1) dX2_copyOf_25 rfl rfl rfl ?_
  refine U.getI fl_X2_43 t1 dX2_copyOf_26 rfl ?_
  refine U.putI hx fl_X2_43 t0 rfl rfl dX2_copyOf_29 rfl (fun h4 hx => ?_)
  refine V.iconst dX2_copyOf_32 rfl ki_0 ?_
  refine V.istore_n [(2, .int (0 : Int32)), (0, .ref (G.1 + th)), (1, .ref (G.1 + a1))] dX2_copyOf_33 rfl rfl (Nat.le_of_ble_eq_true rfl) rfl ?_
  refine V.pick [1, 2, 0] rfl ?_
  exact vX2_copyOf_34 hE FU th a1 (0 : Int32) h4 t0 t1 hx
set_option maxRecDepth 100000 in
set_option maxHeartbeats 4000000 in
theorem mX8_read {l : Launch} {G : GG} {EX : State → Prop} (hE : EXB G EX) {th : Nat} {h : AH} (t0 : KD th = 7) {r : Int32 × AH} (hx : fX8_read th h = some r) : MetU l G EX mi_X8_read 9 193 [.ref (G.1 + th)] h (some (.int r.1)) r.2 := by
  refine MetU.of mic_X8_read.1 (Nat.le_of_ble_eq_true rfl) ?_
  refine show U l G EX mi_X8_read 9 193 (some (.int r.1)) r.2 0 [(0, .ref (G.1 + th))] [] h from ?_
  unfold fX8_read at hx
  refine V.aload_n (j := 0) dX8_read_0 rfl rfl rfl ?_
  refine U.getP fl_X8_41 t0 dX8_read_1 rfl ?_
  refine V.aload_n (j := 0) dX8_read_4 rfl rfl rfl ?_
  refine U.getP fl_X8_27 t0 dX8_read_5 rfl ?_
  refine V.aload_n (j := 0) dX8_read_8 rfl rfl rfl ?_
  refine U.getP fl_X8_34 t0 dX8_read_9 rfl ?_
  obtain ⟨v3, h2, q1, hx⟩ := ob2_some hx
  refine U.callV (As := [.ref (G.1 + (PC th 3)), .ref (G.1 + (PC th 4))]) (rest := []) (st' := [.int v3]) hE.1 (mX5_readInto hE (ty_X8_5 t0) (ty_X8_3 t0) (ty_X8_4 t0) q1) mic_X5_readInto rfl (ty_X8_5 t0) (by decide) rfl rfl wq_m_X8_115 wq_i_yX5_readInto wq_s_yX5_readInto ⟨Nat.le_of_ble_eq_true rfl, Nat.le_of_ble_eq_true rfl⟩ (Nat.le_of_ble_eq_true rfl) dX8_read_12 rfl rfl rfl ?_
  refine V.istore_n [(1, .int v3), (0, .ref (G.1 + th))] dX8_read_15 rfl rfl (Nat.le_of_ble_eq_true rfl) rfl ?_
  refine V.iload_n (j := 0) dX8_read_16 rfl rfl rfl ?_
  refine V.if_ge (tgt := 22) hx dX8_read_17 (by decide) rfl (fun hx => ?_) (fun hx => ?_)
  · refine V.aload_n (j := 1) dX8_read_22 rfl rfl rfl ?_
    refine U.getP fl_X8_10 t0 dX8_read_23 rfl ?_
    obtain ⟨h5, q4, hx⟩ := ob_some hx
    refine U.callV (As := []) (rest := []) (st' := []) hE.1 (mX0_makeEmpty hE (ty_X8_0 t0) q4) mic_X0_makeEmpty rfl (ty_X8_0 t0) (by decide) rfl rfl wq_m_X8_67 wq_i_yX0_makeEmpty wq_s_yX0_makeEmpty ⟨Nat.le_of_ble_eq_true rfl, Nat.le_of_ble_eq_true rfl⟩ (Nat.le_of_ble_eq_true rfl) dX8_read_26 rfl rfl rfl ?_
    refine V.aload_n (j := 1) dX8_read_29 rfl rfl rfl ?_
    refine U.getP fl_X8_10 t0 dX8_read_30 rfl ?_
    refine U.getP fl_X8_60 (ty_X8_0 t0) dX8_read_33 rfl ?_
    refine V.aload_n (j := 1) dX8_read_36 rfl rfl rfl ?_
    refine U.getP fl_X8_27 t0 dX8_read_37 rfl ?_
    obtain ⟨h7, q6, hx⟩ := ob_some hx
    refine U.callV (As := [.ref (G.1 + (PC th 3))]) (rest := []) (st' := []) hE.1 (mX2_copyOf hE (ty_X0_0 (ty_X8_0 t0)) (ty_X8_3 t0) q6) mic_X2_copyOf rfl (ty_X0_0 (ty_X8_0 t0)) (by decide) rfl rfl wq_m_X8_119 wq_i_yX2_copyOf wq_s_yX2_copyOf ⟨Nat.le_of_ble_eq_true rfl, Nat.le_of_ble_eq_true rfl⟩ (Nat.le_of_ble_eq_true rfl) dX8_read_40 rfl rfl rfl ?_
    refine V.iload_n (j := 0) dX8_read_43 rfl rfl rfl ?_
    obtain rfl := Option.some.inj hx
    exact U.retI rfl rfl rfl rfl dX8_read_44
  · refine V.iload_n (j := 0) dX8_read_20 rfl rfl rfl ?_
    obtain rfl := Option.some.inj hx
    exact U.retI rfl rfl rfl rfl dX8_read_21
set_option maxRecDepth 100000 in
set_option maxHeartbeats 4000000 in
theorem vX3_dropOldest_38 {l : Launch} {G : GG} {EX : State → Prop} (hE : EXB G EX) {r : AH} : ∀ (l0 : Nat) (l1 : Nat) (h : AH) (t0 : KD l0 = 2) (t1 : KD l1 = 1), fX3_dropOldest_38 l0 l1 h = some r → U l G EX mi_X3_dropOldest 0 0 none r 38 [(0, .ref (G.1 + l0)), (1, .ref (G.1 + l1))] [] h := by
  intro l0 l1 h t0 t1 hx
  unfold fX3_dropOldest_38 at hx
  refine V.aload_n (j := 0) dX3_dropOldest_38 rfl rfl rfl ?_
  refine U.getP fl_X3_11 t0 dX3_dropOldest_39 rfl ?_
  refine V.aload_n (j := 0) dX3_dropOldest_42 rfl rfl rfl ?_
  refine U.getP fl_X3_11 t0 dX3_dropOldest_43 rfl ?_
  refine U.alen (ty_X3_0 t0) (by decide) dX3_dropOldest_46 rfl ?_
  refine V.iconst dX3_dropOldest_47 rfl ki_1 ?_
  refine V.isub dX3_dropOldest_48 rfl ?_
  refine V.aload_n (j := 1) dX3_dropOldest_49 rfl rfl rfl ?_
  refine U.aast (kx := 1) hx (ty_X3_0 t0) (by decide) t1 dX3_dropOldest_50 rfl (fun h2 hx => ?_)
  refine V.aload_n (j := 0) dX3_dropOldest_51 rfl rfl rfl ?_
  refine V.aload_n (j := 0) dX3_dropOldest_52 rfl rfl rfl ?_
  refine U.getP fl_X3_11 t0 dX3_dropOldest_53 rfl ?_
  refine U.alen (ty_X3_0 t0) (by decide) dX3_dropOldest_56 rfl ?_
  refine V.iconst dX3_dropOldest_57 rfl ki_1 ?_
  refine V.isub dX3_dropOldest_58 rfl ?_
  refine U.putI hx fl_X3_18 t0 rfl rfl dX3_dropOldest_59 rfl (fun h3 hx => ?_)
  obtain rfl := Option.some.inj hx
  exact U.ret0 rfl rfl rfl dX3_dropOldest_62
set_option maxRecDepth 100000 in
set_option maxHeartbeats 4000000 in
theorem vX3_dropOldest_9 {l : Launch} {G : GG} {EX : State → Prop} (hE : EXB G EX) {r : AH} : ∀ (n : Nat) (l0 : Nat) (l1 : Nat) (l2 : Int32) (h : AH) (t0 : KD l0 = 2) (t1 : KD l1 = 1), fX3_dropOldest_9 n l0 l1 l2 h = some r → U l G EX mi_X3_dropOldest 0 0 none r 9 [(0, .ref (G.1 + l0)), (1, .ref (G.1 + l1)), (2, .int l2)] [] h := by
  intro n
  induction n with
  | zero =>
    intro l0 l1 l2 h t0 t1 hx
    have hx : none = some r := hx
    cases hx
  | succ n ih =>
    intro l0 l1 l2 h t0 t1 hx
    rw [fX3_dropOldest_9] at hx
    refine V.iload_n (j := 2) dX3_dropOldest_9 rfl rfl rfl ?_
    refine V.aload_n (j := 0) dX3_dropOldest_10 rfl rfl rfl ?_
    refine U.getP fl_X3_11 t0 dX3_dropOldest_11 rfl ?_
    refine U.alen (ty_X3_0 t0) (by decide) dX3_dropOldest_14 rfl ?_
    refine V.icmp_ge (tgt := 38) hx dX3_dropOldest_15 (by decide) rfl (fun hx => ?_) (fun hx => ?_)
    · refine V.pick [0, 1] rfl ?_
      exact vX3_dropOldest_38 hE l0 l1 h t0 t1 hx
    · refine V.aload_n (j := 0) dX3_dropOldest_18 rfl rfl rfl ?_
      refine U.getP fl_X3_11 t0 dX3_dropOldest_19 rfl ?_
      refine V.iload_n (j := 2) dX3_dropOldest_22 rfl rfl rfl ?_
      refine V.iconst dX3_dropOldest_23 rfl ki_1 ?_
      refine V.isub dX3_dropOldest_24 rfl ?_
      refine V.aload_n (j := 0) dX3_dropOldest_25 rfl rfl rfl ?_
      refine U.getP fl_X3_11 t0 dX3_dropOldest_26 rfl ?_
      refine V.iload_n (j := 2) dX3_dropOldest_29 rfl rfl rfl ?_
      refine U.aald hx (ty_X3_0 t0) (by decide) dX3_dropOldest_30 rfl (fun g4 hx => ?_)
      refine U.aast (kx := 1) hx (ty_X3_0 t0) (by decide) g4 dX3_dropOldest_31 rfl (fun h5 hx => ?_)
      refine U.iinc hx (fun v6 => [(2, .int v6), (0, .ref (G.1 + l0)), (1, .ref (G.1 + l1))]) (j := 2) rfl (by decide) (Nat.le_of_ble_eq_true rfl) (fun _ => rfl) dX3_dropOldest_32 rfl (fun v6 hx => ?_)
      refine V.goto (q := 9) dX3_dropOldest_35 (by decide) ?_
      refine V.pick [1, 2, 0] rfl ?_
      exact ih l0 l1 v6 h5 t0 t1 hx
set_option maxRecDepth 100000 in
set_option maxHeartbeats 4000000 in
theorem mX3_dropOldest {l : Launch} {G : GG} {EX : State → Prop} (hE : EXB G EX) {th : Nat} {h : AH} (t0 : KD th = 2) {r : AH} (hx : fX3_dropOldest th h = some r) : MetU l G EX mi_X3_dropOldest 0 0 [.ref (G.1 + th)] h none r := by
  refine MetU.of mic_X3_dropOldest.1 (Nat.le_of_ble_eq_true rfl) ?_
  refine show U l G EX mi_X3_dropOldest 0 0 none r 0 [(0, .ref (G.1 + th))] [] h from ?_
  unfold fX3_dropOldest at hx
  refine V.aload_n (j := 0) dX3_dropOldest_0 rfl rfl rfl ?_
  refine U.getP fl_X3_11 t0 dX3_dropOldest_1 rfl ?_
  refine V.iconst dX3_dropOldest_4 rfl ki_0 ?_
  refine U.aald hx (ty_X3_0 t0) (by decide) dX3_dropOldest_5 rfl (fun g1 hx => ?_)
  refine V.astore_n [(1, .ref (G.1 + (hQ h (PC th 0) (ix (0 : Int32))))), (0, .ref (G.1 + th))] dX3_dropOldest_6 rfl rfl (Nat.le_of_ble_eq_true rfl) rfl ?_
  refine V.iconst dX3_dropOldest_7 rfl ki_1 ?_
  refine V.istore_n [(2, .int (1 : Int32)), (1, .ref (G.1 + (hQ h (PC th 0) (ix (0 : Int32))))), (0, .ref (G.1 + th))] dX3_dropOldest_8 rfl rfl (Nat.le_of_ble_eq_true rfl) rfl ?_
  refine V.pick [2, 1, 0] rfl ?_
  exact vX3_dropOldest_9 hE FU th (hQ h (PC th 0) (ix (0 : Int32))) (1 : Int32) h t0 g1 hx
set_option maxRecDepth 100000 in
set_option maxHeartbeats 4000000 in
theorem mX3_keepAt {l : Launch} {G : GG} {EX : State → Prop} (hE : EXB G EX) {th : Nat} {a1 : Int32} {a2 : Nat} {h : AH} (t0 : KD th = 2) (t2 : KD a2 = 1) {r : AH} (hx : fX3_keepAt th a1 a2 h = some r) : MetU l G EX mi_X3_keepAt 1 22 [.ref (G.1 + th), .int a1, .ref (G.1 + a2)] h none r := by
  refine MetU.of mic_X3_keepAt.1 (Nat.le_of_ble_eq_true rfl) ?_
  refine show U l G EX mi_X3_keepAt 1 22 none r 0 [(0, .ref (G.1 + th)), (1, .int a1), (2, .ref (G.1 + a2))] [] h from ?_
  unfold fX3_keepAt at hx
  refine V.iload_n (j := 1) dX3_keepAt_0 rfl rfl rfl ?_
  refine V.if_lt (tgt := 32) hx dX3_keepAt_1 (by decide) rfl (fun hx => ?_) (fun hx => ?_)
  · obtain rfl := Option.some.inj hx
    exact U.ret0 rfl rfl rfl dX3_keepAt_32
  · refine V.iload_n (j := 1) dX3_keepAt_4 rfl rfl rfl ?_
    refine V.aload_n (j := 0) dX3_keepAt_5 rfl rfl rfl ?_
    refine U.getP fl_X3_11 t0 dX3_keepAt_6 rfl ?_
    refine U.alen (ty_X3_0 t0) (by decide) dX3_keepAt_9 rfl ?_
    refine V.icmp_ge (tgt := 32) hx dX3_keepAt_10 (by decide) rfl (fun hx => ?_) (fun hx => ?_)
    · obtain rfl := Option.some.inj hx
      exact U.ret0 rfl rfl rfl dX3_keepAt_32
    · refine V.aload_n (j := 0) dX3_keepAt_13 rfl rfl rfl ?_
      refine U.getP fl_X3_11 t0 dX3_keepAt_14 rfl ?_
      refine V.iload_n (j := 1) dX3_keepAt_17 rfl rfl rfl ?_
      refine U.aald hx (ty_X3_0 t0) (by decide) dX3_keepAt_18 rfl (fun g1 hx => ?_)
      refine V.ifnull dX3_keepAt_19 rfl ?_
      refine V.aload_n (j := 0) dX3_keepAt_22 rfl rfl rfl ?_
      refine U.getP fl_X3_11 t0 dX3_keepAt_23 rfl ?_
      refine V.iload_n (j := 1) dX3_keepAt_26 rfl rfl rfl ?_
      refine U.aald hx (ty_X3_0 t0) (by decide) dX3_keepAt_27 rfl (fun g2 hx => ?_)
      refine V.aload_n (j := 2) dX3_keepAt_28 rfl rfl rfl ?_
      obtain ⟨h4, q3, hx⟩ := ob_some hx
      refine U.callV (As := [.ref (G.1 + a2)]) (rest := []) (st' := []) hE.1 (mX2_copyOf hE g2 t2 q3) mic_X2_copyOf rfl g2 (by decide) rfl rfl wq_m_X3_29 wq_i_yX2_copyOf wq_s_yX2_copyOf ⟨Nat.le_of_ble_eq_true rfl, Nat.le_of_ble_eq_true rfl⟩ (Nat.le_of_ble_eq_true rfl) dX3_keepAt_29 rfl rfl rfl ?_
      obtain rfl := Option.some.inj hx
      exact U.ret0 rfl rfl rfl dX3_keepAt_32
set_option maxRecDepth 100000 in
set_option maxHeartbeats 4000000 in
theorem vX3_push_16 {l : Launch} {G : GG} {EX : State → Prop} (hE : EXB G EX) {r : AH} : ∀ (l0 : Nat) (l1 : Nat) (h : AH) (t0 : KD l0 = 2) (t1 : KD l1 = 1), fX3_push_16 l0 l1 h = some r → U l G EX mi_X3_push 2 44 none r 16 [(0, .ref (G.1 + l0)), (1, .ref (G.1 + l1))] [] h := by
  intro l0 l1 h t0 t1 hx
  unfold fX3_push_16 at hx
  refine V.aload_n (j := 0) dX3_push_16 rfl rfl rfl ?_
  refine V.aload_n (j := 0) dX3_push_17 rfl rfl rfl ?_
  refine U.getI fl_X3_18 t0 dX3_push_18 rfl ?_
  refine V.aload_n (j := 1) dX3_push_21 rfl rfl rfl ?_
  obtain ⟨h2, q1, hx⟩ := ob_some hx
  refine U.callV (As := [.int (hI h l0 1), .ref (G.1 + l1)]) (rest := []) (st' := []) hE.1 (mX3_keepAt hE t0 t1 q1) mic_X3_keepAt rfl t0 (by decide) rfl rfl wq_m_X3_25 wq_i_yX3_keepAt wq_s_yX3_keepAt ⟨Nat.le_of_ble_eq_true rfl, Nat.le_of_ble_eq_true rfl⟩ (Nat.le_of_ble_eq_true rfl) dX3_push_22 rfl rfl rfl ?_
  refine V.aload_n (j := 0) dX3_push_25 rfl rfl rfl ?_
  refine V.dup dX3_push_26 rfl rfl ?_
  refine U.getI fl_X3_18 t0 dX3_push_27 rfl ?_
  refine V.iconst dX3_push_30 rfl ki_1 ?_
  refine V.iadd dX3_push_31 rfl ?_
  refine U.putI hx fl_X3_18 t0 rfl rfl dX3_push_32 rfl (fun h3 hx => ?_)
  obtain rfl := Option.some.inj hx
  exact U.ret0 rfl rfl rfl dX3_push_35
set_option maxRecDepth 100000 in
set_option maxHeartbeats 4000000 in
theorem mX3_push {l : Launch} {G : GG} {EX : State → Prop} (hE : EXB G EX) {th : Nat} {a1 : Nat} {h : AH} (t0 : KD th = 2) (t1 : KD a1 = 1) {r : AH} (hx : fX3_push th a1 h = some r) : MetU l G EX mi_X3_push 2 44 [.ref (G.1 + th), .ref (G.1 + a1)] h none r := by
  refine MetU.of mic_X3_push.1 (Nat.le_of_ble_eq_true rfl) ?_
  refine show U l G EX mi_X3_push 2 44 none r 0 [(0, .ref (G.1 + th)), (1, .ref (G.1 + a1))] [] h from ?_
  unfold fX3_push at hx
  refine V.aload_n (j := 0) dX3_push_0 rfl rfl rfl ?_
  refine U.getI fl_X3_18 t0 dX3_push_1 rfl ?_
  refine V.aload_n (j := 0) dX3_push_4 rfl rfl rfl ?_
  refine U.getP fl_X3_11 t0 dX3_push_5 rfl ?_
  refine U.alen (ty_X3_0 t0) (by decide) dX3_push_8 rfl ?_
  refine V.icmp_lt (tgt := 16) hx dX3_push_9 (by decide) rfl (fun hx => ?_) (fun hx => ?_)
  · exact vX3_push_16 hE th a1 h t0 t1 hx
  · refine V.aload_n (j := 0) dX3_push_12 rfl rfl rfl ?_
    obtain ⟨h5, q4, hx⟩ := ob_some hx
    refine U.callV (As := []) (rest := []) (st' := []) hE.1 (mX3_dropOldest hE t0 q4) mic_X3_dropOldest rfl t0 (by decide) rfl rfl wq_m_X3_22 wq_i_yX3_dropOldest wq_s_yX3_dropOldest ⟨Nat.le_of_ble_eq_true rfl, Nat.le_of_ble_eq_true rfl⟩ (Nat.le_of_ble_eq_true rfl) dX3_push_13 rfl rfl rfl ?_
    exact vX3_push_16 hE th a1 h5 t0 t1 hx
set_option maxRecDepth 100000 in
set_option maxHeartbeats 4000000 in
theorem mX8_does {l : Launch} {G : GG} {EX : State → Prop} (hE : EXB G EX) {th : Nat} {a1 : Int32} {h : AH} (t0 : KD th = 7) {r : Int32 × AH} (hx : fX8_does th a1 h = some r) : MetU l G EX mi_X8_does 5 122 [.ref (G.1 + th), .int a1] h (some (.int r.1)) r.2 := by
  refine MetU.of mic_X8_does.1 (Nat.le_of_ble_eq_true rfl) ?_
  refine show U l G EX mi_X8_does 5 122 (some (.int r.1)) r.2 0 [(0, .ref (G.1 + th)), (1, .int a1)] [] h from ?_
  unfold fX8_does at hx
  refine V.iload_n (j := 1) dX8_does_0 rfl rfl rfl ?_
  obtain ⟨v2, q1, hx⟩ := ob_some hx
  refine U.callS (As := [.int a1]) (rest := []) (st' := [.int v2]) hE.1 (mX8_isCell hE q1) mic_X8_isCell rfl wq_m_X8_74 wq_t_yX8_isCell ⟨Nat.le_of_ble_eq_true rfl, Nat.le_of_ble_eq_true rfl⟩ (Nat.le_of_ble_eq_true rfl) dX8_does_1 rfl rfl rfl ?_
  refine V.if_ne (tgt := 14) hx dX8_does_4 (by decide) rfl (fun hx => ?_) (fun hx => ?_)
  · refine V.aload_n (j := 0) dX8_does_14 rfl rfl rfl ?_
    refine U.getP fl_X8_10 t0 dX8_does_15 rfl ?_
    refine U.getP fl_X8_87 (ty_X8_0 t0) dX8_does_18 rfl ?_
    refine V.aload_n (j := 0) dX8_does_21 rfl rfl rfl ?_
    refine U.getP fl_X8_10 t0 dX8_does_22 rfl ?_
    refine U.getP fl_X8_60 (ty_X8_0 t0) dX8_does_25 rfl ?_
    obtain ⟨h4, q3, hx⟩ := ob_some hx
    refine U.callV (As := [.ref (G.1 + (PC (PC th 0) 0))]) (rest := []) (st' := []) hE.1 (mX3_push hE (ty_X0_1 (ty_X8_0 t0)) (ty_X0_0 (ty_X8_0 t0)) q3) mic_X3_push rfl (ty_X0_1 (ty_X8_0 t0)) (by decide) rfl rfl wq_m_X8_123 wq_i_yX3_push wq_s_yX3_push ⟨Nat.le_of_ble_eq_true rfl, Nat.le_of_ble_eq_true rfl⟩ (Nat.le_of_ble_eq_true rfl) dX8_does_28 rfl rfl rfl ?_
    refine V.aload_n (j := 0) dX8_does_31 rfl rfl rfl ?_
    refine U.getP fl_X8_34 t0 dX8_does_32 rfl ?_
    refine V.aload_n (j := 0) dX8_does_35 rfl rfl rfl ?_
    refine U.getP fl_X8_10 t0 dX8_does_36 rfl ?_
    refine U.getP fl_X8_60 (ty_X8_0 t0) dX8_does_39 rfl ?_
    refine V.iload_n (j := 1) dX8_does_42 rfl rfl rfl ?_
    obtain ⟨v7, h6, q5, hx⟩ := ob2_some hx
    refine U.callV (As := [.ref (G.1 + (PC (PC th 0) 0)), .int a1]) (rest := []) (st' := [.int v7]) hE.1 (mX7_doingIn hE (ty_X8_4 t0) (ty_X0_0 (ty_X8_0 t0)) q5) mic_X7_doingIn rfl (ty_X8_4 t0) (by decide) rfl rfl wq_m_X8_126 wq_i_yX7_doingIn wq_s_yX7_doingIn ⟨Nat.le_of_ble_eq_true rfl, Nat.le_of_ble_eq_true rfl⟩ (Nat.le_of_ble_eq_true rfl) dX8_does_43 rfl rfl rfl ?_
    obtain rfl := Option.some.inj hx
    exact U.retI rfl rfl rfl rfl dX8_does_46
  · refine V.aload_n (j := 0) dX8_does_7 rfl rfl rfl ?_
    refine V.bipush dX8_does_8 rfl kb_m2 ?_
    obtain ⟨v10, h9, q8, hx⟩ := ob2_some hx
    refine U.callV (As := [.int (-2 : Int32)]) (rest := []) (st' := [.int v10]) hE.1 (mX8_refuse hE t0 q8) mic_X8_refuse rfl t0 (by decide) rfl rfl wq_m_X8_80 wq_i_yX8_refuse wq_s_yX8_refuse ⟨Nat.le_of_ble_eq_true rfl, Nat.le_of_ble_eq_true rfl⟩ (Nat.le_of_ble_eq_true rfl) dX8_does_10 rfl rfl rfl ?_
    obtain rfl := Option.some.inj hx
    exact U.retI rfl rfl rfl rfl dX8_does_13
set_option maxRecDepth 100000 in
set_option maxHeartbeats 4000000 in
theorem mX8_rest {l : Launch} {G : GG} {EX : State → Prop} (hE : EXB G EX) {th : Nat} {a1 : Int32} {h : AH} (t0 : KD th = 7) {r : Int32 × AH} (hx : fX8_rest th a1 h = some r) : MetU l G EX mi_X8_rest 3 65 [.ref (G.1 + th), .int a1] h (some (.int r.1)) r.2 := by
  refine MetU.of mic_X8_rest.1 (Nat.le_of_ble_eq_true rfl) ?_
  refine show U l G EX mi_X8_rest 3 65 (some (.int r.1)) r.2 0 [(0, .ref (G.1 + th)), (1, .int a1)] [] h from ?_
  unfold fX8_rest at hx
  refine V.iload_n (j := 1) dX8_rest_0 rfl rfl rfl ?_
  refine V.iconst dX8_rest_1 rfl ki_1 ?_
  refine V.bipush dX8_rest_2 rfl kb_99 ?_
  obtain ⟨v2, q1, hx⟩ := ob_some hx
  refine U.callS (As := [.int a1, .int (1 : Int32), .int (99 : Int32)]) (rest := []) (st' := [.int v2]) hE.1 (mX8_within hE q1) mic_X8_within rfl wq_m_X8_104 wq_t_yX8_within ⟨Nat.le_of_ble_eq_true rfl, Nat.le_of_ble_eq_true rfl⟩ (Nat.le_of_ble_eq_true rfl) dX8_rest_4 rfl rfl rfl ?_
  refine V.if_ne (tgt := 17) hx dX8_rest_7 (by decide) rfl (fun hx => ?_) (fun hx => ?_)
  · refine V.aload_n (j := 0) dX8_rest_17 rfl rfl rfl ?_
    refine U.getP fl_X8_10 t0 dX8_rest_18 rfl ?_
    refine U.getP fl_X8_87 (ty_X8_0 t0) dX8_rest_21 rfl ?_
    refine V.aload_n (j := 0) dX8_rest_24 rfl rfl rfl ?_
    refine U.getP fl_X8_10 t0 dX8_rest_25 rfl ?_
    refine U.getP fl_X8_60 (ty_X8_0 t0) dX8_rest_28 rfl ?_
    obtain ⟨h4, q3, hx⟩ := ob_some hx
    refine U.callV (As := [.ref (G.1 + (PC (PC th 0) 0))]) (rest := []) (st' := []) hE.1 (mX3_push hE (ty_X0_1 (ty_X8_0 t0)) (ty_X0_0 (ty_X8_0 t0)) q3) mic_X3_push rfl (ty_X0_1 (ty_X8_0 t0)) (by decide) rfl rfl wq_m_X8_123 wq_i_yX3_push wq_s_yX3_push ⟨Nat.le_of_ble_eq_true rfl, Nat.le_of_ble_eq_true rfl⟩ (Nat.le_of_ble_eq_true rfl) dX8_rest_31 rfl rfl rfl ?_
    refine V.aload_n (j := 0) dX8_rest_34 rfl rfl rfl ?_
    refine U.getP fl_X8_10 t0 dX8_rest_35 rfl ?_
    refine U.getP fl_X8_60 (ty_X8_0 t0) dX8_rest_38 rfl ?_
    refine V.iload_n (j := 1) dX8_rest_41 rfl rfl rfl ?_
    obtain ⟨h6, q5, hx⟩ := ob_some hx
    refine U.callV (As := [.int a1]) (rest := []) (st' := []) hE.1 (mX2_pass hE (ty_X0_0 (ty_X8_0 t0)) q5) mic_X2_pass rfl (ty_X0_0 (ty_X8_0 t0)) (by decide) rfl rfl wq_m_X8_130 wq_i_yX2_pass wq_s_yX2_pass ⟨Nat.le_of_ble_eq_true rfl, Nat.le_of_ble_eq_true rfl⟩ (Nat.le_of_ble_eq_true rfl) dX8_rest_42 rfl rfl rfl ?_
    refine V.aload_n (j := 0) dX8_rest_45 rfl rfl rfl ?_
    refine U.getP fl_X8_10 t0 dX8_rest_46 rfl ?_
    refine U.getP fl_X8_60 (ty_X8_0 t0) dX8_rest_49 rfl ?_
    refine U.getI fl_X8_133 (ty_X0_0 (ty_X8_0 t0)) dX8_rest_52 rfl ?_
    obtain rfl := Option.some.inj hx
    exact U.retI rfl rfl rfl rfl dX8_rest_55
  · refine V.aload_n (j := 0) dX8_rest_10 rfl rfl rfl ?_
    refine V.bipush dX8_rest_11 rfl kb_m2 ?_
    obtain ⟨v9, h8, q7, hx⟩ := ob2_some hx
    refine U.callV (As := [.int (-2 : Int32)]) (rest := []) (st' := [.int v9]) hE.1 (mX8_refuse hE t0 q7) mic_X8_refuse rfl t0 (by decide) rfl rfl wq_m_X8_80 wq_i_yX8_refuse wq_s_yX8_refuse ⟨Nat.le_of_ble_eq_true rfl, Nat.le_of_ble_eq_true rfl⟩ (Nat.le_of_ble_eq_true rfl) dX8_rest_13 rfl rfl rfl ?_
    obtain rfl := Option.some.inj hx
    exact U.retI rfl rfl rfl rfl dX8_rest_16
set_option maxRecDepth 100000 in
set_option maxHeartbeats 4000000 in
theorem vX8_moves_21 {l : Launch} {G : GG} {EX : State → Prop} (hE : EXB G EX) {r : Int32 × AH} : ∀ (l0 : Nat) (h : AH) (t0 : KD l0 = 7), fX8_moves_21 l0 h = some r → U l G EX mi_X8_moves 3 65 (some (.int r.1)) r.2 21 [(0, .ref (G.1 + l0))] [] h := by
  intro l0 h t0 hx
  unfold fX8_moves_21 at hx
  refine V.aload_n (j := 0) dX8_moves_21 rfl rfl rfl ?_
  refine V.bipush dX8_moves_22 rfl kb_m2 ?_
  obtain ⟨v5, h4, q3, hx⟩ := ob2_some hx
  refine U.callV (As := [.int (-2 : Int32)]) (rest := []) (st' := [.int v5]) hE.1 (mX8_refuse hE t0 q3) mic_X8_refuse rfl t0 (by decide) rfl rfl wq_m_X8_80 wq_i_yX8_refuse wq_s_yX8_refuse ⟨Nat.le_of_ble_eq_true rfl, Nat.le_of_ble_eq_true rfl⟩ (Nat.le_of_ble_eq_true rfl) dX8_moves_24 rfl rfl rfl ?_
  obtain rfl := Option.some.inj hx
  exact U.retI rfl rfl rfl rfl dX8_moves_27
set_option maxRecDepth 100000 in
set_option maxHeartbeats 4000000 in
theorem mX8_moves {l : Launch} {G : GG} {EX : State → Prop} (hE : EXB G EX) {th : Nat} {a1 : Int32} {a2 : Int32} {h : AH} (t0 : KD th = 7) {r : Int32 × AH} (hx : fX8_moves th a1 a2 h = some r) : MetU l G EX mi_X8_moves 3 65 [.ref (G.1 + th), .int a1, .int a2] h (some (.int r.1)) r.2 := by
  refine MetU.of mic_X8_moves.1 (Nat.le_of_ble_eq_true rfl) ?_
  refine show U l G EX mi_X8_moves 3 65 (some (.int r.1)) r.2 0 [(0, .ref (G.1 + th)), (1, .int a1), (2, .int a2)] [] h from ?_
  unfold fX8_moves at hx
  refine V.aload_n (j := 0) dX8_moves_0 rfl rfl rfl ?_
  refine U.getP fl_X8_10 t0 dX8_moves_1 rfl ?_
  refine U.getP fl_X8_60 (ty_X8_0 t0) dX8_moves_4 rfl ?_
  refine V.iload_n (j := 1) dX8_moves_7 rfl rfl rfl ?_
  obtain ⟨v2, q1, hx⟩ := ob_some hx
  refine U.callV (As := [.int a1]) (rest := []) (st' := [.int v2]) hE.1 (mX2_hasShow hE (ty_X0_0 (ty_X8_0 t0)) q1) mic_X2_hasShow rfl (ty_X0_0 (ty_X8_0 t0)) (by decide) rfl rfl wq_m_X8_136 wq_i_yX2_hasShow wq_s_yX2_hasShow ⟨Nat.le_of_ble_eq_true rfl, Nat.le_of_ble_eq_true rfl⟩ (Nat.le_of_ble_eq_true rfl) dX8_moves_8 rfl rfl rfl ?_
  refine V.if_eq (tgt := 21) hx dX8_moves_11 (by decide) rfl (fun hx => ?_) (fun hx => ?_)
  · refine V.pick [0] rfl ?_
    exact vX8_moves_21 hE th h t0 hx
  · refine V.iload_n (j := 2) dX8_moves_14 rfl rfl rfl ?_
    obtain ⟨v7, q6, hx⟩ := ob_some hx
    refine U.callS (As := [.int a2]) (rest := []) (st' := [.int v7]) hE.1 (mX8_isCell hE q6) mic_X8_isCell rfl wq_m_X8_74 wq_t_yX8_isCell ⟨Nat.le_of_ble_eq_true rfl, Nat.le_of_ble_eq_true rfl⟩ (Nat.le_of_ble_eq_true rfl) dX8_moves_15 rfl rfl rfl ?_
    refine V.if_ne (tgt := 28) hx dX8_moves_18 (by decide) rfl (fun hx => ?_) (fun hx => ?_)
    · refine V.aload_n (j := 0) dX8_moves_28 rfl rfl rfl ?_
      refine U.getP fl_X8_10 t0 dX8_moves_29 rfl ?_
      refine U.getP fl_X8_87 (ty_X8_0 t0) dX8_moves_32 rfl ?_
      refine V.aload_n (j := 0) dX8_moves_35 rfl rfl rfl ?_
      refine U.getP fl_X8_10 t0 dX8_moves_36 rfl ?_
      refine U.getP fl_X8_60 (ty_X8_0 t0) dX8_moves_39 rfl ?_
      obtain ⟨h9, q8, hx⟩ := ob_some hx
      refine U.callV (As := [.ref (G.1 + (PC (PC th 0) 0))]) (rest := []) (st' := []) hE.1 (mX3_push hE (ty_X0_1 (ty_X8_0 t0)) (ty_X0_0 (ty_X8_0 t0)) q8) mic_X3_push rfl (ty_X0_1 (ty_X8_0 t0)) (by decide) rfl rfl wq_m_X8_123 wq_i_yX3_push wq_s_yX3_push ⟨Nat.le_of_ble_eq_true rfl, Nat.le_of_ble_eq_true rfl⟩ (Nat.le_of_ble_eq_true rfl) dX8_moves_42 rfl rfl rfl ?_
      refine V.aload_n (j := 0) dX8_moves_45 rfl rfl rfl ?_
      refine U.getP fl_X8_10 t0 dX8_moves_46 rfl ?_
      refine U.getP fl_X8_60 (ty_X8_0 t0) dX8_moves_49 rfl ?_
      refine U.getP fl_X8_139 (ty_X0_0 (ty_X8_0 t0)) dX8_moves_52 rfl ?_
      refine V.iload_n (j := 1) dX8_moves_55 rfl rfl rfl ?_
      refine U.iald hx (ty_X2_5 (ty_X0_0 (ty_X8_0 t0))) dX8_moves_56 rfl (fun hx => ?_)
      refine U.letI hx (fun v10 hx => ?_)
      refine V.istore_n [(3, .int v10), (0, .ref (G.1 + th)), (1, .int a1), (2, .int a2)] dX8_moves_57 rfl rfl (Nat.le_of_ble_eq_true rfl) rfl ?_
      refine V.aload_n (j := 1) dX8_moves_58 rfl rfl rfl ?_
      refine U.getP fl_X8_10 t0 dX8_moves_59 rfl ?_
      refine U.getP fl_X8_60 (ty_X8_0 t0) dX8_moves_62 rfl ?_
      refine U.getP fl_X8_139 (ty_X0_0 (ty_X8_0 t0)) dX8_moves_65 rfl ?_
      refine V.iload_n (j := 2) dX8_moves_68 rfl rfl rfl ?_
      refine V.iload_n (j := 3) dX8_moves_69 rfl rfl rfl ?_
      refine U.iast hx (ty_X2_5 (ty_X0_0 (ty_X8_0 t0))) dX8_moves_70 rfl (fun h11 hx => ?_)
      refine V.iload_n (j := 0) dX8_moves_71 rfl rfl rfl ?_
      obtain rfl := Option.some.inj hx
      exact U.retI rfl rfl rfl rfl dX8_moves_72
    · refine V.pick [0] rfl ?_
      exact vX8_moves_21 hE th h t0 hx
set_option maxRecDepth 100000 in
set_option maxHeartbeats 4000000 in
theorem vX8_turns_23 {l : Launch} {G : GG} {EX : State → Prop} (hE : EXB G EX) {r : Int32 × AH} : ∀ (l0 : Nat) (h : AH) (t0 : KD l0 = 7), fX8_turns_23 l0 h = some r → U l G EX mi_X8_turns 3 65 (some (.int r.1)) r.2 23 [(0, .ref (G.1 + l0))] [] h := by
  intro l0 h t0 hx
  unfold fX8_turns_23 at hx
  refine V.aload_n (j := 0) dX8_turns_23 rfl rfl rfl ?_
  refine V.bipush dX8_turns_24 rfl kb_m2 ?_
  obtain ⟨v5, h4, q3, hx⟩ := ob2_some hx
  refine U.callV (As := [.int (-2 : Int32)]) (rest := []) (st' := [.int v5]) hE.1 (mX8_refuse hE t0 q3) mic_X8_refuse rfl t0 (by decide) rfl rfl wq_m_X8_80 wq_i_yX8_refuse wq_s_yX8_refuse ⟨Nat.le_of_ble_eq_true rfl, Nat.le_of_ble_eq_true rfl⟩ (Nat.le_of_ble_eq_true rfl) dX8_turns_26 rfl rfl rfl ?_
  obtain rfl := Option.some.inj hx
  exact U.retI rfl rfl rfl rfl dX8_turns_29
set_option maxRecDepth 100000 in
set_option maxHeartbeats 4000000 in
theorem mX8_turns {l : Launch} {G : GG} {EX : State → Prop} (hE : EXB G EX) {th : Nat} {a1 : Int32} {a2 : Int32} {h : AH} (t0 : KD th = 7) {r : Int32 × AH} (hx : fX8_turns th a1 a2 h = some r) : MetU l G EX mi_X8_turns 3 65 [.ref (G.1 + th), .int a1, .int a2] h (some (.int r.1)) r.2 := by
  refine MetU.of mic_X8_turns.1 (Nat.le_of_ble_eq_true rfl) ?_
  refine show U l G EX mi_X8_turns 3 65 (some (.int r.1)) r.2 0 [(0, .ref (G.1 + th)), (1, .int a1), (2, .int a2)] [] h from ?_
  unfold fX8_turns at hx
  refine V.aload_n (j := 0) dX8_turns_0 rfl rfl rfl ?_
  refine U.getP fl_X8_10 t0 dX8_turns_1 rfl ?_
  refine U.getP fl_X8_60 (ty_X8_0 t0) dX8_turns_4 rfl ?_
  refine V.iload_n (j := 1) dX8_turns_7 rfl rfl rfl ?_
  obtain ⟨v2, q1, hx⟩ := ob_some hx
  refine U.callV (As := [.int a1]) (rest := []) (st' := [.int v2]) hE.1 (mX2_hasShow hE (ty_X0_0 (ty_X8_0 t0)) q1) mic_X2_hasShow rfl (ty_X0_0 (ty_X8_0 t0)) (by decide) rfl rfl wq_m_X8_136 wq_i_yX2_hasShow wq_s_yX2_hasShow ⟨Nat.le_of_ble_eq_true rfl, Nat.le_of_ble_eq_true rfl⟩ (Nat.le_of_ble_eq_true rfl) dX8_turns_8 rfl rfl rfl ?_
  refine V.if_eq (tgt := 23) hx dX8_turns_11 (by decide) rfl (fun hx => ?_) (fun hx => ?_)
  · refine V.pick [0] rfl ?_
    exact vX8_turns_23 hE th h t0 hx
  · refine V.iload_n (j := 2) dX8_turns_14 rfl rfl rfl ?_
    refine V.iconst dX8_turns_15 rfl ki_0 ?_
    refine V.iconst dX8_turns_16 rfl ki_1 ?_
    obtain ⟨v7, q6, hx⟩ := ob_some hx
    refine U.callS (As := [.int a2, .int (0 : Int32), .int (1 : Int32)]) (rest := []) (st' := [.int v7]) hE.1 (mX8_within hE q6) mic_X8_within rfl wq_m_X8_104 wq_t_yX8_within ⟨Nat.le_of_ble_eq_true rfl, Nat.le_of_ble_eq_true rfl⟩ (Nat.le_of_ble_eq_true rfl) dX8_turns_17 rfl rfl rfl ?_
    refine V.if_ne (tgt := 30) hx dX8_turns_20 (by decide) rfl (fun hx => ?_) (fun hx => ?_)
    · refine V.aload_n (j := 0) dX8_turns_30 rfl rfl rfl ?_
      refine U.getP fl_X8_10 t0 dX8_turns_31 rfl ?_
      refine U.getP fl_X8_87 (ty_X8_0 t0) dX8_turns_34 rfl ?_
      refine V.aload_n (j := 0) dX8_turns_37 rfl rfl rfl ?_
      refine U.getP fl_X8_10 t0 dX8_turns_38 rfl ?_
      refine U.getP fl_X8_60 (ty_X8_0 t0) dX8_turns_41 rfl ?_
      obtain ⟨h9, q8, hx⟩ := ob_some hx
      refine U.callV (As := [.ref (G.1 + (PC (PC th 0) 0))]) (rest := []) (st' := []) hE.1 (mX3_push hE (ty_X0_1 (ty_X8_0 t0)) (ty_X0_0 (ty_X8_0 t0)) q8) mic_X3_push rfl (ty_X0_1 (ty_X8_0 t0)) (by decide) rfl rfl wq_m_X8_123 wq_i_yX3_push wq_s_yX3_push ⟨Nat.le_of_ble_eq_true rfl, Nat.le_of_ble_eq_true rfl⟩ (Nat.le_of_ble_eq_true rfl) dX8_turns_44 rfl rfl rfl ?_
      refine V.aload_n (j := 0) dX8_turns_47 rfl rfl rfl ?_
      refine U.getP fl_X8_10 t0 dX8_turns_48 rfl ?_
      refine U.getP fl_X8_60 (ty_X8_0 t0) dX8_turns_51 rfl ?_
      refine U.getP fl_X8_142 (ty_X0_0 (ty_X8_0 t0)) dX8_turns_54 rfl ?_
      refine V.iload_n (j := 1) dX8_turns_57 rfl rfl rfl ?_
      refine U.iald hx (ty_X2_7 (ty_X0_0 (ty_X8_0 t0))) dX8_turns_58 rfl (fun hx => ?_)
      refine U.letI hx (fun v10 hx => ?_)
      refine V.istore_n [(3, .int v10), (0, .ref (G.1 + th)), (1, .int a1), (2, .int a2)] dX8_turns_59 rfl rfl (Nat.le_of_ble_eq_true rfl) rfl ?_
      refine V.aload_n (j := 1) dX8_turns_60 rfl rfl rfl ?_
      refine U.getP fl_X8_10 t0 dX8_turns_61 rfl ?_
      refine U.getP fl_X8_60 (ty_X8_0 t0) dX8_turns_64 rfl ?_
      refine U.getP fl_X8_142 (ty_X0_0 (ty_X8_0 t0)) dX8_turns_67 rfl ?_
      refine V.iload_n (j := 2) dX8_turns_70 rfl rfl rfl ?_
      refine V.iload_n (j := 3) dX8_turns_71 rfl rfl rfl ?_
      refine U.iast hx (ty_X2_7 (ty_X0_0 (ty_X8_0 t0))) dX8_turns_72 rfl (fun h11 hx => ?_)
      refine V.iload_n (j := 0) dX8_turns_73 rfl rfl rfl ?_
      obtain rfl := Option.some.inj hx
      exact U.retI rfl rfl rfl rfl dX8_turns_74
    · refine V.pick [0] rfl ?_
      exact vX8_turns_23 hE th h t0 hx
set_option maxRecDepth 100000 in
set_option maxHeartbeats 4000000 in
theorem mX2_hasWatcher {l : Launch} {G : GG} {EX : State → Prop} (hE : EXB G EX) {th : Nat} {a1 : Int32} {h : AH} (t0 : KD th = 1) {r : Int32} (hx : fX2_hasWatcher th a1 h = some r) : MetU l G EX mi_X2_hasWatcher 0 0 [.ref (G.1 + th), .int a1] h (some (.int r)) h := by
  refine MetU.of mic_X2_hasWatcher.1 (Nat.le_of_ble_eq_true rfl) ?_
  refine show U l G EX mi_X2_hasWatcher 0 0 (some (.int r)) h 0 [(0, .ref (G.1 + th)), (1, .int a1)] [] h from ?_
  unfold fX2_hasWatcher at hx
  refine V.iload_n (j := 1) dX2_hasWatcher_0 rfl rfl rfl ?_
  refine V.if_lt (tgt := 16) hx dX2_hasWatcher_1 (by decide) rfl (fun hx => ?_) (fun hx => ?_)
  · refine V.iconst dX2_hasWatcher_16 rfl ki_0 ?_
    obtain rfl := Option.some.inj hx
    exact U.retI rfl rfl rfl rfl dX2_hasWatcher_17
  · refine V.iload_n (j := 1) dX2_hasWatcher_4 rfl rfl rfl ?_
    refine V.aload_n (j := 0) dX2_hasWatcher_5 rfl rfl rfl ?_
    refine U.getI fl_X2_43 t0 dX2_hasWatcher_6 rfl ?_
    refine V.icmp_ge (tgt := 16) hx dX2_hasWatcher_9 (by decide) rfl (fun hx => ?_) (fun hx => ?_)
    · refine V.iconst dX2_hasWatcher_16 rfl ki_0 ?_
      obtain rfl := Option.some.inj hx
      exact U.retI rfl rfl rfl rfl dX2_hasWatcher_17
    · refine V.iconst dX2_hasWatcher_12 rfl ki_1 ?_
      refine V.goto (q := 17) dX2_hasWatcher_13 (by decide) ?_
      obtain rfl := Option.some.inj hx
      exact U.retI rfl rfl rfl rfl dX2_hasWatcher_17
set_option maxRecDepth 100000 in
set_option maxHeartbeats 4000000 in
theorem vX8_sends_21 {l : Launch} {G : GG} {EX : State → Prop} (hE : EXB G EX) {r : Int32 × AH} : ∀ (l0 : Nat) (h : AH) (t0 : KD l0 = 7), fX8_sends_21 l0 h = some r → U l G EX mi_X8_sends 3 65 (some (.int r.1)) r.2 21 [(0, .ref (G.1 + l0))] [] h := by
  intro l0 h t0 hx
  unfold fX8_sends_21 at hx
  refine V.aload_n (j := 0) dX8_sends_21 rfl rfl rfl ?_
  refine V.bipush dX8_sends_22 rfl kb_m2 ?_
  obtain ⟨v5, h4, q3, hx⟩ := ob2_some hx
  refine U.callV (As := [.int (-2 : Int32)]) (rest := []) (st' := [.int v5]) hE.1 (mX8_refuse hE t0 q3) mic_X8_refuse rfl t0 (by decide) rfl rfl wq_m_X8_80 wq_i_yX8_refuse wq_s_yX8_refuse ⟨Nat.le_of_ble_eq_true rfl, Nat.le_of_ble_eq_true rfl⟩ (Nat.le_of_ble_eq_true rfl) dX8_sends_24 rfl rfl rfl ?_
  obtain rfl := Option.some.inj hx
  exact U.retI rfl rfl rfl rfl dX8_sends_27
set_option maxRecDepth 100000 in
set_option maxHeartbeats 4000000 in
theorem mX8_sends {l : Launch} {G : GG} {EX : State → Prop} (hE : EXB G EX) {th : Nat} {a1 : Int32} {a2 : Int32} {h : AH} (t0 : KD th = 7) {r : Int32 × AH} (hx : fX8_sends th a1 a2 h = some r) : MetU l G EX mi_X8_sends 3 65 [.ref (G.1 + th), .int a1, .int a2] h (some (.int r.1)) r.2 := by
  refine MetU.of mic_X8_sends.1 (Nat.le_of_ble_eq_true rfl) ?_
  refine show U l G EX mi_X8_sends 3 65 (some (.int r.1)) r.2 0 [(0, .ref (G.1 + th)), (1, .int a1), (2, .int a2)] [] h from ?_
  unfold fX8_sends at hx
  refine V.aload_n (j := 0) dX8_sends_0 rfl rfl rfl ?_
  refine U.getP fl_X8_10 t0 dX8_sends_1 rfl ?_
  refine U.getP fl_X8_60 (ty_X8_0 t0) dX8_sends_4 rfl ?_
  refine V.iload_n (j := 1) dX8_sends_7 rfl rfl rfl ?_
  obtain ⟨v2, q1, hx⟩ := ob_some hx
  refine U.callV (As := [.int a1]) (rest := []) (st' := [.int v2]) hE.1 (mX2_hasWatcher hE (ty_X0_0 (ty_X8_0 t0)) q1) mic_X2_hasWatcher rfl (ty_X0_0 (ty_X8_0 t0)) (by decide) rfl rfl wq_m_X8_145 wq_i_yX2_hasWatcher wq_s_yX2_hasWatcher ⟨Nat.le_of_ble_eq_true rfl, Nat.le_of_ble_eq_true rfl⟩ (Nat.le_of_ble_eq_true rfl) dX8_sends_8 rfl rfl rfl ?_
  refine V.if_eq (tgt := 21) hx dX8_sends_11 (by decide) rfl (fun hx => ?_) (fun hx => ?_)
  · refine V.pick [0] rfl ?_
    exact vX8_sends_21 hE th h t0 hx
  · refine V.iload_n (j := 2) dX8_sends_14 rfl rfl rfl ?_
    obtain ⟨v7, q6, hx⟩ := ob_some hx
    refine U.callS (As := [.int a2]) (rest := []) (st' := [.int v7]) hE.1 (mX8_isCell hE q6) mic_X8_isCell rfl wq_m_X8_74 wq_t_yX8_isCell ⟨Nat.le_of_ble_eq_true rfl, Nat.le_of_ble_eq_true rfl⟩ (Nat.le_of_ble_eq_true rfl) dX8_sends_15 rfl rfl rfl ?_
    refine V.if_ne (tgt := 28) hx dX8_sends_18 (by decide) rfl (fun hx => ?_) (fun hx => ?_)
    · refine V.aload_n (j := 0) dX8_sends_28 rfl rfl rfl ?_
      refine U.getP fl_X8_10 t0 dX8_sends_29 rfl ?_
      refine U.getP fl_X8_87 (ty_X8_0 t0) dX8_sends_32 rfl ?_
      refine V.aload_n (j := 0) dX8_sends_35 rfl rfl rfl ?_
      refine U.getP fl_X8_10 t0 dX8_sends_36 rfl ?_
      refine U.getP fl_X8_60 (ty_X8_0 t0) dX8_sends_39 rfl ?_
      obtain ⟨h9, q8, hx⟩ := ob_some hx
      refine U.callV (As := [.ref (G.1 + (PC (PC th 0) 0))]) (rest := []) (st' := []) hE.1 (mX3_push hE (ty_X0_1 (ty_X8_0 t0)) (ty_X0_0 (ty_X8_0 t0)) q8) mic_X3_push rfl (ty_X0_1 (ty_X8_0 t0)) (by decide) rfl rfl wq_m_X8_123 wq_i_yX3_push wq_s_yX3_push ⟨Nat.le_of_ble_eq_true rfl, Nat.le_of_ble_eq_true rfl⟩ (Nat.le_of_ble_eq_true rfl) dX8_sends_42 rfl rfl rfl ?_
      refine V.aload_n (j := 0) dX8_sends_45 rfl rfl rfl ?_
      refine U.getP fl_X8_10 t0 dX8_sends_46 rfl ?_
      refine U.getP fl_X8_60 (ty_X8_0 t0) dX8_sends_49 rfl ?_
      refine U.getP fl_X8_148 (ty_X0_0 (ty_X8_0 t0)) dX8_sends_52 rfl ?_
      refine V.iload_n (j := 1) dX8_sends_55 rfl rfl rfl ?_
      refine U.iald hx (ty_X2_9 (ty_X0_0 (ty_X8_0 t0))) dX8_sends_56 rfl (fun hx => ?_)
      refine U.letI hx (fun v10 hx => ?_)
      refine V.istore_n [(3, .int v10), (0, .ref (G.1 + th)), (1, .int a1), (2, .int a2)] dX8_sends_57 rfl rfl (Nat.le_of_ble_eq_true rfl) rfl ?_
      refine V.aload_n (j := 1) dX8_sends_58 rfl rfl rfl ?_
      refine U.getP fl_X8_10 t0 dX8_sends_59 rfl ?_
      refine U.getP fl_X8_60 (ty_X8_0 t0) dX8_sends_62 rfl ?_
      refine U.getP fl_X8_148 (ty_X0_0 (ty_X8_0 t0)) dX8_sends_65 rfl ?_
      refine V.iload_n (j := 2) dX8_sends_68 rfl rfl rfl ?_
      refine V.iload_n (j := 3) dX8_sends_69 rfl rfl rfl ?_
      refine U.iast hx (ty_X2_9 (ty_X0_0 (ty_X8_0 t0))) dX8_sends_70 rfl (fun h11 hx => ?_)
      refine V.iload_n (j := 0) dX8_sends_71 rfl rfl rfl ?_
      obtain rfl := Option.some.inj hx
      exact U.retI rfl rfl rfl rfl dX8_sends_72
    · refine V.pick [0] rfl ?_
      exact vX8_sends_21 hE th h t0 hx
set_option maxRecDepth 100000 in
set_option maxHeartbeats 4000000 in
theorem mX3_popInto {l : Launch} {G : GG} {EX : State → Prop} (hE : EXB G EX) {th : Nat} {a1 : Nat} {h : AH} (t0 : KD th = 2) (t1 : KD a1 = 1) {r : AH} (hx : fX3_popInto th a1 h = some r) : MetU l G EX mi_X3_popInto 1 22 [.ref (G.1 + th), .ref (G.1 + a1)] h none r := by
  refine MetU.of mic_X3_popInto.1 (Nat.le_of_ble_eq_true rfl) ?_
  refine show U l G EX mi_X3_popInto 1 22 none r 0 [(0, .ref (G.1 + th)), (1, .ref (G.1 + a1))] [] h from ?_
  unfold fX3_popInto at hx
  refine V.aload_n (j := 0) dX3_popInto_0 rfl rfl rfl ?_
  refine U.getI fl_X3_18 t0 dX3_popInto_1 rfl ?_
  refine V.if_le (tgt := 56) hx dX3_popInto_4 (by decide) rfl (fun hx => ?_) (fun hx => ?_)
  · obtain rfl := Option.some.inj hx
    exact U.ret0 rfl rfl rfl dX3_popInto_56
  · refine V.aload_n (j := 0) dX3_popInto_7 rfl rfl rfl ?_
    refine U.getI fl_X3_18 t0 dX3_popInto_8 rfl ?_
    refine V.aload_n (j := 0) dX3_popInto_11 rfl rfl rfl ?_
    refine U.getP fl_X3_11 t0 dX3_popInto_12 rfl ?_
    refine U.alen (ty_X3_0 t0) (by decide) dX3_popInto_15 rfl ?_
    refine V.icmp_gt (tgt := 56) hx dX3_popInto_16 (by decide) rfl (fun hx => ?_) (fun hx => ?_)
    · obtain rfl := Option.some.inj hx
      exact U.ret0 rfl rfl rfl dX3_popInto_56
    · refine V.aload_n (j := 0) dX3_popInto_19 rfl rfl rfl ?_
      refine U.getP fl_X3_11 t0 dX3_popInto_20 rfl ?_
      refine V.aload_n (j := 0) dX3_popInto_23 rfl rfl rfl ?_
      refine U.getI fl_X3_18 t0 dX3_popInto_24 rfl ?_
      refine V.iconst dX3_popInto_27 rfl ki_1 ?_
      refine V.isub dX3_popInto_28 rfl ?_
      refine U.aald hx (ty_X3_0 t0) (by decide) dX3_popInto_29 rfl (fun g1 hx => ?_)
      refine V.ifnull dX3_popInto_30 rfl ?_
      refine V.aload_n (j := 0) dX3_popInto_33 rfl rfl rfl ?_
      refine V.dup dX3_popInto_34 rfl rfl ?_
      refine U.getI fl_X3_18 t0 dX3_popInto_35 rfl ?_
      refine V.iconst dX3_popInto_38 rfl ki_1 ?_
      refine V.isub dX3_popInto_39 rfl ?_
      refine U.putI hx fl_X3_18 t0 rfl rfl dX3_popInto_40 rfl (fun h2 hx => ?_)
      refine V.aload_n (j := 1) dX3_popInto_43 rfl rfl rfl ?_
      refine V.aload_n (j := 0) dX3_popInto_44 rfl rfl rfl ?_
      refine U.getP fl_X3_11 t0 dX3_popInto_45 rfl ?_
      refine V.aload_n (j := 0) dX3_popInto_48 rfl rfl rfl ?_
      refine U.getI fl_X3_18 t0 dX3_popInto_49 rfl ?_
      refine U.aald hx (ty_X3_0 t0) (by decide) dX3_popInto_52 rfl (fun g3 hx => ?_)
      obtain ⟨h5, q4, hx⟩ := ob_some hx
      refine U.callV (As := [.ref (G.1 + (hQ h2 (PC th 0) (ix (hI h2 th 1))))]) (rest := []) (st' := []) hE.1 (mX2_copyOf hE t1 g3 q4) mic_X2_copyOf rfl t1 (by decide) rfl rfl wq_m_X3_29 wq_i_yX2_copyOf wq_s_yX2_copyOf ⟨Nat.le_of_ble_eq_true rfl, Nat.le_of_ble_eq_true rfl⟩ (Nat.le_of_ble_eq_true rfl) dX3_popInto_53 rfl rfl rfl ?_
      obtain rfl := Option.some.inj hx
      exact U.ret0 rfl rfl rfl dX3_popInto_56
set_option maxRecDepth 100000 in
set_option maxHeartbeats 4000000 in
theorem mX8_undo {l : Launch} {G : GG} {EX : State → Prop} (hE : EXB G EX) {th : Nat} {h : AH} (t0 : KD th = 7) {r : Int32 × AH} (hx : fX8_undo th h = some r) : MetU l G EX mi_X8_undo 2 43 [.ref (G.1 + th)] h (some (.int r.1)) r.2 := by
  refine MetU.of mic_X8_undo.1 (Nat.le_of_ble_eq_true rfl) ?_
  refine show U l G EX mi_X8_undo 2 43 (some (.int r.1)) r.2 0 [(0, .ref (G.1 + th))] [] h from ?_
  unfold fX8_undo at hx
  refine V.aload_n (j := 0) dX8_undo_0 rfl rfl rfl ?_
  refine U.getP fl_X8_10 t0 dX8_undo_1 rfl ?_
  refine U.getP fl_X8_87 (ty_X8_0 t0) dX8_undo_4 rfl ?_
  refine U.getI fl_X8_91 (ty_X0_1 (ty_X8_0 t0)) dX8_undo_7 rfl ?_
  refine V.if_ne (tgt := 20) hx dX8_undo_10 (by decide) rfl (fun hx => ?_) (fun hx => ?_)
  · refine V.aload_n (j := 0) dX8_undo_20 rfl rfl rfl ?_
    refine U.getP fl_X8_10 t0 dX8_undo_21 rfl ?_
    refine U.getP fl_X8_87 (ty_X8_0 t0) dX8_undo_24 rfl ?_
    refine V.aload_n (j := 0) dX8_undo_27 rfl rfl rfl ?_
    refine U.getP fl_X8_10 t0 dX8_undo_28 rfl ?_
    refine U.getP fl_X8_60 (ty_X8_0 t0) dX8_undo_31 rfl ?_
    obtain ⟨h2, q1, hx⟩ := ob_some hx
    refine U.callV (As := [.ref (G.1 + (PC (PC th 0) 0))]) (rest := []) (st' := []) hE.1 (mX3_popInto hE (ty_X0_1 (ty_X8_0 t0)) (ty_X0_0 (ty_X8_0 t0)) q1) mic_X3_popInto rfl (ty_X0_1 (ty_X8_0 t0)) (by decide) rfl rfl wq_m_X8_151 wq_i_yX3_popInto wq_s_yX3_popInto ⟨Nat.le_of_ble_eq_true rfl, Nat.le_of_ble_eq_true rfl⟩ (Nat.le_of_ble_eq_true rfl) dX8_undo_34 rfl rfl rfl ?_
    refine V.aload_n (j := 0) dX8_undo_37 rfl rfl rfl ?_
    refine U.getP fl_X8_10 t0 dX8_undo_38 rfl ?_
    refine U.getP fl_X8_60 (ty_X8_0 t0) dX8_undo_41 rfl ?_
    refine U.getI fl_X8_133 (ty_X0_0 (ty_X8_0 t0)) dX8_undo_44 rfl ?_
    obtain rfl := Option.some.inj hx
    exact U.retI rfl rfl rfl rfl dX8_undo_47
  · refine V.aload_n (j := 0) dX8_undo_13 rfl rfl rfl ?_
    refine V.bipush dX8_undo_14 rfl kb_m3 ?_
    obtain ⟨v5, h4, q3, hx⟩ := ob2_some hx
    refine U.callV (As := [.int (-3 : Int32)]) (rest := []) (st' := [.int v5]) hE.1 (mX8_refuse hE t0 q3) mic_X8_refuse rfl t0 (by decide) rfl rfl wq_m_X8_80 wq_i_yX8_refuse wq_s_yX8_refuse ⟨Nat.le_of_ble_eq_true rfl, Nat.le_of_ble_eq_true rfl⟩ (Nat.le_of_ble_eq_true rfl) dX8_undo_16 rfl rfl rfl ?_
    obtain rfl := Option.some.inj hx
    exact U.retI rfl rfl rfl rfl dX8_undo_19
set_option maxRecDepth 100000 in
set_option maxHeartbeats 4000000 in
theorem mX2_showPart {l : Launch} {G : GG} {EX : State → Prop} (hE : EXB G EX) {th : Nat} {a1 : Int32} {a2 : Int32} {h : AH} (t0 : KD th = 1) {r : Int32} (hx : fX2_showPart th a1 a2 h = some r) : MetU l G EX mi_X2_showPart 0 0 [.ref (G.1 + th), .int a1, .int a2] h (some (.int r)) h := by
  refine MetU.of mic_X2_showPart.1 (Nat.le_of_ble_eq_true rfl) ?_
  refine show U l G EX mi_X2_showPart 0 0 (some (.int r)) h 0 [(0, .ref (G.1 + th)), (1, .int a1), (2, .int a2)] [] h from ?_
  unfold fX2_showPart at hx
  refine V.iload_n (j := 2) dX2_showPart_0 rfl rfl rfl ?_
  refine sw_case (ci := 0) hx (by decide) (fun c0 hx => ?_) (fun c0 hx => ?_)
  · refine V.tableIn (tgt := 28) dX2_showPart_1 (by rw [c0]; decide) (by rw [c0]; decide) (by rw [c0]; rfl) (by decide) ?_
    refine V.aload_n (j := 0) dX2_showPart_28 rfl rfl rfl ?_
    refine U.getP fl_X2_9 t0 dX2_showPart_29 rfl ?_
    refine V.iload_n (j := 1) dX2_showPart_32 rfl rfl rfl ?_
    refine U.iald hx (ty_X2_4 t0) dX2_showPart_33 rfl (fun hx => ?_)
    obtain rfl := Option.some.inj hx
    exact U.retI rfl rfl rfl rfl dX2_showPart_34
  refine sw_case (ci := 1) hx (by decide) (fun c1 hx => ?_) (fun c1 hx => ?_)
  · refine V.tableIn (tgt := 35) dX2_showPart_1 (by rw [c1]; decide) (by rw [c1]; decide) (by rw [c1]; rfl) (by decide) ?_
    refine V.aload_n (j := 0) dX2_showPart_35 rfl rfl rfl ?_
    refine U.getP fl_X2_15 t0 dX2_showPart_36 rfl ?_
    refine V.iload_n (j := 1) dX2_showPart_39 rfl rfl rfl ?_
    refine U.iald hx (ty_X2_5 t0) dX2_showPart_40 rfl (fun hx => ?_)
    obtain rfl := Option.some.inj hx
    exact U.retI rfl rfl rfl rfl dX2_showPart_41
  refine sw_case (ci := 2) hx (by decide) (fun c2 hx => ?_) (fun c2 hx => ?_)
  · refine V.tableIn (tgt := 42) dX2_showPart_1 (by rw [c2]; decide) (by rw [c2]; decide) (by rw [c2]; rfl) (by decide) ?_
    refine V.aload_n (j := 0) dX2_showPart_42 rfl rfl rfl ?_
    refine U.getP fl_X2_18 t0 dX2_showPart_43 rfl ?_
    refine V.iload_n (j := 1) dX2_showPart_46 rfl rfl rfl ?_
    refine U.iald hx (ty_X2_6 t0) dX2_showPart_47 rfl (fun hx => ?_)
    obtain rfl := Option.some.inj hx
    exact U.retI rfl rfl rfl rfl dX2_showPart_48
  refine V.tableOut (tgt := 49) dX2_showPart_1 (by omega) (by decide) ?_
  refine V.aload_n (j := 0) dX2_showPart_49 rfl rfl rfl ?_
  refine U.getP fl_X2_21 t0 dX2_showPart_50 rfl ?_
  refine V.iload_n (j := 1) dX2_showPart_53 rfl rfl rfl ?_
  refine U.iald hx (ty_X2_7 t0) dX2_showPart_54 rfl (fun hx => ?_)
  obtain rfl := Option.some.inj hx
  exact U.retI rfl rfl rfl rfl dX2_showPart_55
set_option maxRecDepth 100000 in
set_option maxHeartbeats 4000000 in
theorem vX8_of_23 {l : Launch} {G : GG} {EX : State → Prop} (hE : EXB G EX) {r : Int32 × AH} : ∀ (l0 : Nat) (h : AH) (t0 : KD l0 = 7), fX8_of_23 l0 h = some r → U l G EX mi_X8_of 1 22 (some (.int r.1)) r.2 23 [(0, .ref (G.1 + l0))] [] h := by
  intro l0 h t0 hx
  unfold fX8_of_23 at hx
  refine V.aload_n (j := 0) dX8_of_23 rfl rfl rfl ?_
  refine V.bipush dX8_of_24 rfl kb_m2 ?_
  obtain ⟨v5, h4, q3, hx⟩ := ob2_some hx
  refine U.callV (As := [.int (-2 : Int32)]) (rest := []) (st' := [.int v5]) hE.1 (mX8_refuse hE t0 q3) mic_X8_refuse rfl t0 (by decide) rfl rfl wq_m_X8_80 wq_i_yX8_refuse wq_s_yX8_refuse ⟨Nat.le_of_ble_eq_true rfl, Nat.le_of_ble_eq_true rfl⟩ (Nat.le_of_ble_eq_true rfl) dX8_of_26 rfl rfl rfl ?_
  obtain rfl := Option.some.inj hx
  exact U.retI rfl rfl rfl rfl dX8_of_29
set_option maxRecDepth 100000 in
set_option maxHeartbeats 4000000 in
theorem mX8_of {l : Launch} {G : GG} {EX : State → Prop} (hE : EXB G EX) {th : Nat} {a1 : Int32} {a2 : Int32} {h : AH} (t0 : KD th = 7) {r : Int32 × AH} (hx : fX8_of th a1 a2 h = some r) : MetU l G EX mi_X8_of 1 22 [.ref (G.1 + th), .int a1, .int a2] h (some (.int r.1)) r.2 := by
  refine MetU.of mic_X8_of.1 (Nat.le_of_ble_eq_true rfl) ?_
  refine show U l G EX mi_X8_of 1 22 (some (.int r.1)) r.2 0 [(0, .ref (G.1 + th)), (1, .int a1), (2, .int a2)] [] h from ?_
  unfold fX8_of at hx
  refine V.aload_n (j := 0) dX8_of_0 rfl rfl rfl ?_
  refine U.getP fl_X8_10 t0 dX8_of_1 rfl ?_
  refine U.getP fl_X8_60 (ty_X8_0 t0) dX8_of_4 rfl ?_
  refine V.iload_n (j := 1) dX8_of_7 rfl rfl rfl ?_
  obtain ⟨v2, q1, hx⟩ := ob_some hx
  refine U.callV (As := [.int a1]) (rest := []) (st' := [.int v2]) hE.1 (mX2_hasShow hE (ty_X0_0 (ty_X8_0 t0)) q1) mic_X2_hasShow rfl (ty_X0_0 (ty_X8_0 t0)) (by decide) rfl rfl wq_m_X8_136 wq_i_yX2_hasShow wq_s_yX2_hasShow ⟨Nat.le_of_ble_eq_true rfl, Nat.le_of_ble_eq_true rfl⟩ (Nat.le_of_ble_eq_true rfl) dX8_of_8 rfl rfl rfl ?_
  refine V.if_eq (tgt := 23) hx dX8_of_11 (by decide) rfl (fun hx => ?_) (fun hx => ?_)
  · refine V.pick [0] rfl ?_
    exact vX8_of_23 hE th h t0 hx
  · refine V.iload_n (j := 2) dX8_of_14 rfl rfl rfl ?_
    refine V.iconst dX8_of_15 rfl ki_0 ?_
    refine V.iconst dX8_of_16 rfl ki_3 ?_
    obtain ⟨v7, q6, hx⟩ := ob_some hx
    refine U.callS (As := [.int a2, .int (0 : Int32), .int (3 : Int32)]) (rest := []) (st' := [.int v7]) hE.1 (mX8_within hE q6) mic_X8_within rfl wq_m_X8_104 wq_t_yX8_within ⟨Nat.le_of_ble_eq_true rfl, Nat.le_of_ble_eq_true rfl⟩ (Nat.le_of_ble_eq_true rfl) dX8_of_17 rfl rfl rfl ?_
    refine V.if_ne (tgt := 30) hx dX8_of_20 (by decide) rfl (fun hx => ?_) (fun hx => ?_)
    · refine V.aload_n (j := 0) dX8_of_30 rfl rfl rfl ?_
      refine U.getP fl_X8_10 t0 dX8_of_31 rfl ?_
      refine U.getP fl_X8_60 (ty_X8_0 t0) dX8_of_34 rfl ?_
      refine V.iload_n (j := 1) dX8_of_37 rfl rfl rfl ?_
      refine V.iload_n (j := 2) dX8_of_38 rfl rfl rfl ?_
      obtain ⟨v9, q8, hx⟩ := ob_some hx
      refine U.callV (As := [.int a1, .int a2]) (rest := []) (st' := [.int v9]) hE.1 (mX2_showPart hE (ty_X0_0 (ty_X8_0 t0)) q8) mic_X2_showPart rfl (ty_X0_0 (ty_X8_0 t0)) (by decide) rfl rfl wq_m_X8_154 wq_i_yX2_showPart wq_s_yX2_showPart ⟨Nat.le_of_ble_eq_true rfl, Nat.le_of_ble_eq_true rfl⟩ (Nat.le_of_ble_eq_true rfl) dX8_of_39 rfl rfl rfl ?_
      obtain rfl := Option.some.inj hx
      exact U.retI rfl rfl rfl rfl dX8_of_42
    · refine V.pick [0] rfl ?_
      exact vX8_of_23 hE th h t0 hx
set_option maxRecDepth 100000 in
set_option maxHeartbeats 4000000 in
theorem mX2_watcherPart {l : Launch} {G : GG} {EX : State → Prop} (hE : EXB G EX) {th : Nat} {a1 : Int32} {a2 : Int32} {h : AH} (t0 : KD th = 1) {r : Int32} (hx : fX2_watcherPart th a1 a2 h = some r) : MetU l G EX mi_X2_watcherPart 0 0 [.ref (G.1 + th), .int a1, .int a2] h (some (.int r)) h := by
  refine MetU.of mic_X2_watcherPart.1 (Nat.le_of_ble_eq_true rfl) ?_
  refine show U l G EX mi_X2_watcherPart 0 0 (some (.int r)) h 0 [(0, .ref (G.1 + th)), (1, .int a1), (2, .int a2)] [] h from ?_
  unfold fX2_watcherPart at hx
  refine V.iload_n (j := 2) dX2_watcherPart_0 rfl rfl rfl ?_
  refine sw_case (ci := 0) hx (by decide) (fun c0 hx => ?_) (fun c0 hx => ?_)
  · refine V.lookup (tgt := 28) dX2_watcherPart_1 (by decide) (by first | (rw [c0]; done) | (rw [c0]; rfl)) (by decide) ?_
    refine V.aload_n (j := 0) dX2_watcherPart_28 rfl rfl rfl ?_
    refine U.getP fl_X2_24 t0 dX2_watcherPart_29 rfl ?_
    refine V.iload_n (j := 1) dX2_watcherPart_32 rfl rfl rfl ?_
    refine U.iald hx (ty_X2_8 t0) dX2_watcherPart_33 rfl (fun hx => ?_)
    obtain rfl := Option.some.inj hx
    exact U.retI rfl rfl rfl rfl dX2_watcherPart_34
  refine sw_case (ci := 1) hx (by decide) (fun c1 hx => ?_) (fun c1 hx => ?_)
  · refine V.lookup (tgt := 35) dX2_watcherPart_1 (by decide) (by first | (rw [c1]; done) | (rw [c1]; rfl)) (by decide) ?_
    refine V.aload_n (j := 0) dX2_watcherPart_35 rfl rfl rfl ?_
    refine U.getP fl_X2_27 t0 dX2_watcherPart_36 rfl ?_
    refine V.iload_n (j := 1) dX2_watcherPart_39 rfl rfl rfl ?_
    refine U.iald hx (ty_X2_9 t0) dX2_watcherPart_40 rfl (fun hx => ?_)
    obtain rfl := Option.some.inj hx
    exact U.retI rfl rfl rfl rfl dX2_watcherPart_41
  refine V.lookup (tgt := 42) (off := 41) dX2_watcherPart_1 (by decide) (by show Op.lookupswitch.offset [(0, 27), (1, 34)] (41) a2.toInt = (41); rw [osw c0, osw c1]; rfl) (by decide) ?_
  refine V.aload_n (j := 0) dX2_watcherPart_42 rfl rfl rfl ?_
  refine U.getP fl_X2_30 t0 dX2_watcherPart_43 rfl ?_
  refine V.iload_n (j := 1) dX2_watcherPart_46 rfl rfl rfl ?_
  refine U.iald hx (ty_X2_10 t0) dX2_watcherPart_47 rfl (fun hx => ?_)
  obtain rfl := Option.some.inj hx
  exact U.retI rfl rfl rfl rfl dX2_watcherPart_48
set_option maxRecDepth 100000 in
set_option maxHeartbeats 4000000 in
theorem vX8_about_23 {l : Launch} {G : GG} {EX : State → Prop} (hE : EXB G EX) {r : Int32 × AH} : ∀ (l0 : Nat) (h : AH) (t0 : KD l0 = 7), fX8_about_23 l0 h = some r → U l G EX mi_X8_about 1 22 (some (.int r.1)) r.2 23 [(0, .ref (G.1 + l0))] [] h := by
  intro l0 h t0 hx
  unfold fX8_about_23 at hx
  refine V.aload_n (j := 0) dX8_about_23 rfl rfl rfl ?_
  refine V.bipush dX8_about_24 rfl kb_m2 ?_
  obtain ⟨v5, h4, q3, hx⟩ := ob2_some hx
  refine U.callV (As := [.int (-2 : Int32)]) (rest := []) (st' := [.int v5]) hE.1 (mX8_refuse hE t0 q3) mic_X8_refuse rfl t0 (by decide) rfl rfl wq_m_X8_80 wq_i_yX8_refuse wq_s_yX8_refuse ⟨Nat.le_of_ble_eq_true rfl, Nat.le_of_ble_eq_true rfl⟩ (Nat.le_of_ble_eq_true rfl) dX8_about_26 rfl rfl rfl ?_
  obtain rfl := Option.some.inj hx
  exact U.retI rfl rfl rfl rfl dX8_about_29
set_option maxRecDepth 100000 in
set_option maxHeartbeats 4000000 in
theorem mX8_about {l : Launch} {G : GG} {EX : State → Prop} (hE : EXB G EX) {th : Nat} {a1 : Int32} {a2 : Int32} {h : AH} (t0 : KD th = 7) {r : Int32 × AH} (hx : fX8_about th a1 a2 h = some r) : MetU l G EX mi_X8_about 1 22 [.ref (G.1 + th), .int a1, .int a2] h (some (.int r.1)) r.2 := by
  refine MetU.of mic_X8_about.1 (Nat.le_of_ble_eq_true rfl) ?_
  refine show U l G EX mi_X8_about 1 22 (some (.int r.1)) r.2 0 [(0, .ref (G.1 + th)), (1, .int a1), (2, .int a2)] [] h from ?_
  unfold fX8_about at hx
  refine V.aload_n (j := 0) dX8_about_0 rfl rfl rfl ?_
  refine U.getP fl_X8_10 t0 dX8_about_1 rfl ?_
  refine U.getP fl_X8_60 (ty_X8_0 t0) dX8_about_4 rfl ?_
  refine V.iload_n (j := 1) dX8_about_7 rfl rfl rfl ?_
  obtain ⟨v2, q1, hx⟩ := ob_some hx
  refine U.callV (As := [.int a1]) (rest := []) (st' := [.int v2]) hE.1 (mX2_hasWatcher hE (ty_X0_0 (ty_X8_0 t0)) q1) mic_X2_hasWatcher rfl (ty_X0_0 (ty_X8_0 t0)) (by decide) rfl rfl wq_m_X8_145 wq_i_yX2_hasWatcher wq_s_yX2_hasWatcher ⟨Nat.le_of_ble_eq_true rfl, Nat.le_of_ble_eq_true rfl⟩ (Nat.le_of_ble_eq_true rfl) dX8_about_8 rfl rfl rfl ?_
  refine V.if_eq (tgt := 23) hx dX8_about_11 (by decide) rfl (fun hx => ?_) (fun hx => ?_)
  · refine V.pick [0] rfl ?_
    exact vX8_about_23 hE th h t0 hx
  · refine V.iload_n (j := 2) dX8_about_14 rfl rfl rfl ?_
    refine V.iconst dX8_about_15 rfl ki_0 ?_
    refine V.iconst dX8_about_16 rfl ki_2 ?_
    obtain ⟨v7, q6, hx⟩ := ob_some hx
    refine U.callS (As := [.int a2, .int (0 : Int32), .int (2 : Int32)]) (rest := []) (st' := [.int v7]) hE.1 (mX8_within hE q6) mic_X8_within rfl wq_m_X8_104 wq_t_yX8_within ⟨Nat.le_of_ble_eq_true rfl, Nat.le_of_ble_eq_true rfl⟩ (Nat.le_of_ble_eq_true rfl) dX8_about_17 rfl rfl rfl ?_
    refine V.if_ne (tgt := 30) hx dX8_about_20 (by decide) rfl (fun hx => ?_) (fun hx => ?_)
    · refine V.aload_n (j := 0) dX8_about_30 rfl rfl rfl ?_
      refine U.getP fl_X8_10 t0 dX8_about_31 rfl ?_
      refine U.getP fl_X8_60 (ty_X8_0 t0) dX8_about_34 rfl ?_
      refine V.iload_n (j := 1) dX8_about_37 rfl rfl rfl ?_
      refine V.iload_n (j := 2) dX8_about_38 rfl rfl rfl ?_
      obtain ⟨v9, q8, hx⟩ := ob_some hx
      refine U.callV (As := [.int a1, .int a2]) (rest := []) (st' := [.int v9]) hE.1 (mX2_watcherPart hE (ty_X0_0 (ty_X8_0 t0)) q8) mic_X2_watcherPart rfl (ty_X0_0 (ty_X8_0 t0)) (by decide) rfl rfl wq_m_X8_157 wq_i_yX2_watcherPart wq_s_yX2_watcherPart ⟨Nat.le_of_ble_eq_true rfl, Nat.le_of_ble_eq_true rfl⟩ (Nat.le_of_ble_eq_true rfl) dX8_about_39 rfl rfl rfl ?_
      obtain rfl := Option.some.inj hx
      exact U.retI rfl rfl rfl rfl dX8_about_42
    · refine V.pick [0] rfl ?_
      exact vX8_about_23 hE th h t0 hx
set_option maxRecDepth 100000 in
set_option maxHeartbeats 4000000 in
theorem mX2_pullAt {l : Launch} {G : GG} {EX : State → Prop} (hE : EXB G EX) {th : Nat} {a1 : Int32} {a2 : Int32} {a3 : Int32} {h : AH} (t0 : KD th = 1) {r : Int32} (hx : fX2_pullAt th a1 a2 a3 h = some r) : MetU l G EX mi_X2_pullAt 2 48 [.ref (G.1 + th), .int a1, .int a2, .int a3] h (some (.int r)) h := by
  refine MetU.of mic_X2_pullAt.1 (Nat.le_of_ble_eq_true rfl) ?_
  refine show U l G EX mi_X2_pullAt 2 48 (some (.int r)) h 0 [(0, .ref (G.1 + th)), (1, .int a1), (2, .int a2), (3, .int a3)] [] h from ?_
  unfold fX2_pullAt at hx
  refine V.aload_n (j := 0) dX2_pullAt_0 rfl rfl rfl ?_
  refine U.getP fl_X2_9 t0 dX2_pullAt_1 rfl ?_
  refine V.iload_n (j := 1) dX2_pullAt_4 rfl rfl rfl ?_
  refine U.iald hx (ty_X2_4 t0) dX2_pullAt_5 rfl (fun hx => ?_)
  refine V.aload_n (j := 0) dX2_pullAt_6 rfl rfl rfl ?_
  refine U.getP fl_X2_18 t0 dX2_pullAt_7 rfl ?_
  refine V.iload_n (j := 1) dX2_pullAt_10 rfl rfl rfl ?_
  refine U.iald hx (ty_X2_6 t0) dX2_pullAt_11 rfl (fun hx => ?_)
  refine V.aload_n (j := 0) dX2_pullAt_12 rfl rfl rfl ?_
  refine U.getP fl_X2_15 t0 dX2_pullAt_13 rfl ?_
  refine V.iload_n (j := 1) dX2_pullAt_16 rfl rfl rfl ?_
  refine U.iald hx (ty_X2_5 t0) dX2_pullAt_17 rfl (fun hx => ?_)
  refine V.iload_n (j := 2) dX2_pullAt_18 rfl rfl rfl ?_
  obtain ⟨v2, q1, hx⟩ := ob_some hx
  refine U.callSN (As := [.int (hI h (PC th 5) (ix a1)), .int a2]) (rest := [.int (hI h (PC th 6) (ix a1)), .int (hI h (PC th 4) (ix a1))]) (st' := [.int v2, .int (hI h (PC th 6) (ix a1)), .int (hI h (PC th 4) (ix a1))]) hE.1 (mX8_far hE q1) mic_X8_far rfl wq_z_X2_52 wq_t_yX8_far ⟨Nat.le_of_ble_eq_true rfl, Nat.le_of_ble_eq_true rfl⟩ (Nat.le_of_ble_eq_true rfl) dX2_pullAt_19 rfl rfl rfl ?_
  refine V.iload_n (j := 3) dX2_pullAt_22 rfl rfl rfl ?_
  obtain ⟨v4, q3, hx⟩ := ob_some hx
  refine U.callS (As := [.int (hI h (PC th 4) (ix a1)), .int (hI h (PC th 6) (ix a1)), .int v2, .int a3]) (rest := []) (st' := [.int v4]) hE.1 (mX1_pullBy hE q3) mic_X1_pullBy rfl wq_m_X2_55 wq_t_yX1_pullBy ⟨Nat.le_of_ble_eq_true rfl, Nat.le_of_ble_eq_true rfl⟩ (Nat.le_of_ble_eq_true rfl) dX2_pullAt_23 rfl rfl rfl ?_
  obtain rfl := Option.some.inj hx
  exact U.retI rfl rfl rfl rfl dX2_pullAt_26
set_option maxRecDepth 100000 in
set_option maxHeartbeats 4000000 in
theorem vX8_pull_28 {l : Launch} {G : GG} {EX : State → Prop} (hE : EXB G EX) {r : Int32 × AH} : ∀ (l0 : Nat) (h : AH) (t0 : KD l0 = 7), fX8_pull_28 l0 h = some r → U l G EX mi_X8_pull 3 71 (some (.int r.1)) r.2 28 [(0, .ref (G.1 + l0))] [] h := by
  intro l0 h t0 hx
  unfold fX8_pull_28 at hx
  refine V.aload_n (j := 0) dX8_pull_28 rfl rfl rfl ?_
  refine V.bipush dX8_pull_29 rfl kb_m2 ?_
  obtain ⟨v5, h4, q3, hx⟩ := ob2_some hx
  refine U.callV (As := [.int (-2 : Int32)]) (rest := []) (st' := [.int v5]) hE.1 (mX8_refuse hE t0 q3) mic_X8_refuse rfl t0 (by decide) rfl rfl wq_m_X8_80 wq_i_yX8_refuse wq_s_yX8_refuse ⟨Nat.le_of_ble_eq_true rfl, Nat.le_of_ble_eq_true rfl⟩ (Nat.le_of_ble_eq_true rfl) dX8_pull_31 rfl rfl rfl ?_
  obtain rfl := Option.some.inj hx
  exact U.retI rfl rfl rfl rfl dX8_pull_34
set_option maxRecDepth 100000 in
set_option maxHeartbeats 4000000 in
theorem mX8_pull {l : Launch} {G : GG} {EX : State → Prop} (hE : EXB G EX) {th : Nat} {a1 : Int32} {a2 : Int32} {h : AH} (t0 : KD th = 7) {r : Int32 × AH} (hx : fX8_pull th a1 a2 h = some r) : MetU l G EX mi_X8_pull 3 71 [.ref (G.1 + th), .int a1, .int a2] h (some (.int r.1)) r.2 := by
  refine MetU.of mic_X8_pull.1 (Nat.le_of_ble_eq_true rfl) ?_
  refine show U l G EX mi_X8_pull 3 71 (some (.int r.1)) r.2 0 [(0, .ref (G.1 + th)), (1, .int a1), (2, .int a2)] [] h from ?_
  unfold fX8_pull at hx
  refine V.aload_n (j := 0) dX8_pull_0 rfl rfl rfl ?_
  refine U.getP fl_X8_10 t0 dX8_pull_1 rfl ?_
  refine U.getP fl_X8_60 (ty_X8_0 t0) dX8_pull_4 rfl ?_
  refine V.iload_n (j := 1) dX8_pull_7 rfl rfl rfl ?_
  obtain ⟨v2, q1, hx⟩ := ob_some hx
  refine U.callV (As := [.int a1]) (rest := []) (st' := [.int v2]) hE.1 (mX2_hasShow hE (ty_X0_0 (ty_X8_0 t0)) q1) mic_X2_hasShow rfl (ty_X0_0 (ty_X8_0 t0)) (by decide) rfl rfl wq_m_X8_136 wq_i_yX2_hasShow wq_s_yX2_hasShow ⟨Nat.le_of_ble_eq_true rfl, Nat.le_of_ble_eq_true rfl⟩ (Nat.le_of_ble_eq_true rfl) dX8_pull_8 rfl rfl rfl ?_
  refine V.if_eq (tgt := 28) hx dX8_pull_11 (by decide) rfl (fun hx => ?_) (fun hx => ?_)
  · refine V.pick [0] rfl ?_
    exact vX8_pull_28 hE th h t0 hx
  · refine V.aload_n (j := 0) dX8_pull_14 rfl rfl rfl ?_
    refine U.getP fl_X8_10 t0 dX8_pull_15 rfl ?_
    refine U.getP fl_X8_60 (ty_X8_0 t0) dX8_pull_18 rfl ?_
    refine V.iload_n (j := 2) dX8_pull_21 rfl rfl rfl ?_
    obtain ⟨v7, q6, hx⟩ := ob_some hx
    refine U.callV (As := [.int a2]) (rest := []) (st' := [.int v7]) hE.1 (mX2_hasWatcher hE (ty_X0_0 (ty_X8_0 t0)) q6) mic_X2_hasWatcher rfl (ty_X0_0 (ty_X8_0 t0)) (by decide) rfl rfl wq_m_X8_145 wq_i_yX2_hasWatcher wq_s_yX2_hasWatcher ⟨Nat.le_of_ble_eq_true rfl, Nat.le_of_ble_eq_true rfl⟩ (Nat.le_of_ble_eq_true rfl) dX8_pull_22 rfl rfl rfl ?_
    refine V.if_ne (tgt := 35) hx dX8_pull_25 (by decide) rfl (fun hx => ?_) (fun hx => ?_)
    · refine V.aload_n (j := 0) dX8_pull_35 rfl rfl rfl ?_
      refine U.getP fl_X8_10 t0 dX8_pull_36 rfl ?_
      refine U.getP fl_X8_60 (ty_X8_0 t0) dX8_pull_39 rfl ?_
      refine V.iload_n (j := 1) dX8_pull_42 rfl rfl rfl ?_
      refine V.aload_n (j := 0) dX8_pull_43 rfl rfl rfl ?_
      refine U.getP fl_X8_10 t0 dX8_pull_44 rfl ?_
      refine U.getP fl_X8_60 (ty_X8_0 t0) dX8_pull_47 rfl ?_
      refine U.getP fl_X8_148 (ty_X0_0 (ty_X8_0 t0)) dX8_pull_50 rfl ?_
      refine V.iload_n (j := 2) dX8_pull_53 rfl rfl rfl ?_
      refine U.iald hx (ty_X2_9 (ty_X0_0 (ty_X8_0 t0))) dX8_pull_54 rfl (fun hx => ?_)
      refine V.aload_n (j := 0) dX8_pull_55 rfl rfl rfl ?_
      refine U.getP fl_X8_10 t0 dX8_pull_56 rfl ?_
      refine U.getP fl_X8_60 (ty_X8_0 t0) dX8_pull_59 rfl ?_
      refine V.iconst dX8_pull_62 rfl ki_0 ?_
      obtain ⟨v9, q8, hx⟩ := ob_some hx
      refine U.callV (As := [.int (0 : Int32)]) (rest := [.int (hI h (PC (PC (PC th 0) 0) 9) (ix a2)), .int a1, .ref (G.1 + (PC (PC th 0) 0))]) (st' := [.int v9, .int (hI h (PC (PC (PC th 0) 0) 9) (ix a2)), .int a1, .ref (G.1 + (PC (PC th 0) 0))]) hE.1 (mX2_dayStep hE (ty_X0_0 (ty_X8_0 t0)) q8) mic_X2_dayStep rfl (ty_X0_0 (ty_X8_0 t0)) (by decide) rfl rfl wq_m_X8_160 wq_i_yX2_dayStep wq_s_yX2_dayStep ⟨Nat.le_of_ble_eq_true rfl, Nat.le_of_ble_eq_true rfl⟩ (Nat.le_of_ble_eq_true rfl) dX8_pull_63 rfl rfl rfl ?_
      obtain ⟨v11, q10, hx⟩ := ob_some hx
      refine U.callV (As := [.int a1, .int (hI h (PC (PC (PC th 0) 0) 9) (ix a2)), .int v9]) (rest := []) (st' := [.int v11]) hE.1 (mX2_pullAt hE (ty_X0_0 (ty_X8_0 t0)) q10) mic_X2_pullAt rfl (ty_X0_0 (ty_X8_0 t0)) (by decide) rfl rfl wq_m_X8_163 wq_i_yX2_pullAt wq_s_yX2_pullAt ⟨Nat.le_of_ble_eq_true rfl, Nat.le_of_ble_eq_true rfl⟩ (Nat.le_of_ble_eq_true rfl) dX8_pull_66 rfl rfl rfl ?_
      obtain rfl := Option.some.inj hx
      exact U.retI rfl rfl rfl rfl dX8_pull_69
    · refine V.pick [0] rfl ?_
      exact vX8_pull_28 hE th h t0 hx
set_option maxRecDepth 100000 in
set_option maxHeartbeats 4000000 in
theorem vX2_strongest_40 {l : Launch} {G : GG} {EX : State → Prop} (hE : EXB G EX) {h : AH} {r : Int32} {k9 : Nat → Int32 → Int32 → Int32 → Int32 → Int32 → Int32 → Option (Int32)} (hk9 : ∀ (l0 : Nat) (l1 : Int32) (l2 : Int32) (l3 : Int32) (l4 : Int32) (l5 : Int32) (l6 : Int32) (t0 : KD l0 = 1), k9 l0 l1 l2 l3 l4 l5 l6 = some r → U l G EX mi_X2_strongest 3 71 (some (.int r)) h 9 [(0, .ref (G.1 + l0)), (1, .int l1), (2, .int l2), (3, .int l3), (4, .int l4), (5, .int l5), (6, .int l6)] [] h) : ∀ (l0 : Nat) (l1 : Int32) (l2 : Int32) (l3 : Int32) (l4 : Int32) (l5 : Int32) (l6 : Int32) (s0 : Int32) (t0 : KD l0 = 1), fX2_strongest_40 h k9 l0 l1 l2 l3 l4 l5 l6 s0 = some r → U l G EX mi_X2_strongest 3 71 (some (.int r)) h 40 [(0, .ref (G.1 + l0)), (1, .int l1), (2, .int l2), (3, .int l3), (4, .int l4), (5, .int l5), (6, .int l6)] [.int s0] h := by
  intro l0 l1 l2 l3 l4 l5 l6 s0 t0 hx
  unfold fX2_strongest_40 at hx
  refine V.istore [(7, .int s0), (0, .ref (G.1 + l0)), (1, .int l1), (2, .int l2), (3, .int l3), (4, .int l4), (5, .int l5), (6, .int l6)] dX2_strongest_40 rfl (Nat.le_of_ble_eq_true rfl) rfl ?_
  refine V.iload (j := 0) dX2_strongest_42 rfl rfl ?_
  refine V.iload (j := 6) dX2_strongest_44 rfl rfl ?_
  refine V.icmp_le (tgt := 57) hx dX2_strongest_46 (by decide) rfl (fun hx => ?_) (fun hx => ?_)
  · refine U.iinc hx (fun v1 => [(6, .int v1), (7, .int s0), (0, .ref (G.1 + l0)), (1, .int l1), (2, .int l2), (3, .int l3), (4, .int l4), (5, .int l5)]) (j := 7) rfl (by decide) (Nat.le_of_ble_eq_true rfl) (fun _ => rfl) dX2_strongest_57 rfl (fun v1 hx => ?_)
    refine V.goto (q := 9) dX2_strongest_60 (by decide) ?_
    refine V.pick [2, 3, 4, 5, 6, 7, 0] rfl ?_
    exact hk9 l0 l1 l2 l3 l4 l5 v1 t0 hx
  · refine V.iload (j := 0) dX2_strongest_49 rfl rfl ?_
    refine V.istore [(5, .int s0), (7, .int s0), (0, .ref (G.1 + l0)), (1, .int l1), (2, .int l2), (3, .int l3), (4, .int l4), (6, .int l6)] dX2_strongest_51 rfl (Nat.le_of_ble_eq_true rfl) rfl ?_
    refine V.iload (j := 7) dX2_strongest_53 rfl rfl ?_
    refine V.istore [(4, .int l6), (5, .int s0), (7, .int s0), (0, .ref (G.1 + l0)), (1, .int l1), (2, .int l2), (3, .int l3), (6, .int l6)] dX2_strongest_55 rfl (Nat.le_of_ble_eq_true rfl) rfl ?_
    refine U.iinc hx (fun v2 => [(6, .int v2), (4, .int l6), (5, .int s0), (7, .int s0), (0, .ref (G.1 + l0)), (1, .int l1), (2, .int l2), (3, .int l3)]) (j := 7) rfl (by decide) (Nat.le_of_ble_eq_true rfl) (fun _ => rfl) dX2_strongest_57 rfl (fun v2 hx => ?_)
    refine V.goto (q := 9) dX2_strongest_60 (by decide) ?_
    refine V.pick [4, 5, 6, 7, 1, 2, 0] rfl ?_
    exact hk9 l0 l1 l2 l3 l6 s0 v2 t0 hx
set_option maxRecDepth 100000 in
set_option maxHeartbeats 4000000 in
theorem vX2_strongest_9 {l : Launch} {G : GG} {EX : State → Prop} (hE : EXB G EX) {h : AH} {r : Int32} : ∀ (n : Nat) (l0 : Nat) (l1 : Int32) (l2 : Int32) (l3 : Int32) (l4 : Int32) (l5 : Int32) (l6 : Int32) (t0 : KD l0 = 1), fX2_strongest_9 h n l0 l1 l2 l3 l4 l5 l6 = some r → U l G EX mi_X2_strongest 3 71 (some (.int r)) h 9 [(0, .ref (G.1 + l0)), (1, .int l1), (2, .int l2), (3, .int l3), (4, .int l4), (5, .int l5), (6, .int l6)] [] h := by
  intro n
  induction n with
  | zero =>
    intro l0 l1 l2 l3 l4 l5 l6 t0 hx
    have hx : none = some r := hx
    cases hx
  | succ n ih =>
    intro l0 l1 l2 l3 l4 l5 l6 t0 hx
    rw [fX2_strongest_9] at hx
    refine V.iload (j := 6) dX2_strongest_9 rfl rfl ?_
    refine V.aload_n (j := 0) dX2_strongest_11 rfl rfl rfl ?_
    refine U.getI fl_X2_40 t0 dX2_strongest_12 rfl ?_
    refine V.icmp_ge (tgt := 63) hx dX2_strongest_15 (by decide) rfl (fun hx => ?_) (fun hx => ?_)
    · refine V.iload (j := 4) dX2_strongest_63 rfl rfl ?_
      obtain rfl := Option.some.inj hx
      exact U.retI rfl rfl rfl rfl dX2_strongest_65
    · refine V.iload_n (j := 1) dX2_strongest_18 rfl rfl rfl ?_
      refine V.iload (j := 6) dX2_strongest_19 rfl rfl ?_
      refine V.ishr dX2_strongest_21 rfl ?_
      refine V.iconst dX2_strongest_22 rfl ki_1 ?_
      refine V.iand dX2_strongest_23 rfl ?_
      refine V.iconst dX2_strongest_24 rfl ki_1 ?_
      refine V.icmp_ne (tgt := 39) hx dX2_strongest_25 (by decide) rfl (fun hx => ?_) (fun hx => ?_)
      · refine V.iconst dX2_strongest_39 rfl ki_0 ?_
        exact vX2_strongest_40 hE (ih) l0 l1 l2 l3 l4 l5 l6 (0 : Int32) t0 hx
      · refine V.aload_n (j := 0) dX2_strongest_28 rfl rfl rfl ?_
        refine V.iload (j := 6) dX2_strongest_29 rfl rfl ?_
        refine V.iload_n (j := 2) dX2_strongest_31 rfl rfl rfl ?_
        refine V.iload_n (j := 3) dX2_strongest_32 rfl rfl rfl ?_
        obtain ⟨v4, q3, hx⟩ := ob_some hx
        refine U.callV (As := [.int l6, .int l2, .int l3]) (rest := []) (st' := [.int v4]) hE.1 (mX2_pullAt hE t0 q3) mic_X2_pullAt rfl t0 (by decide) rfl rfl wq_m_X2_61 wq_i_yX2_pullAt wq_s_yX2_pullAt ⟨Nat.le_of_ble_eq_true rfl, Nat.le_of_ble_eq_true rfl⟩ (Nat.le_of_ble_eq_true rfl) dX2_strongest_33 rfl rfl rfl ?_
        refine V.goto (q := 40) dX2_strongest_36 (by decide) ?_
        exact vX2_strongest_40 hE (ih) l0 l1 l2 l3 l4 l5 l6 v4 t0 hx
set_option maxRecDepth 100000 in
set_option maxHeartbeats 4000000 in
theorem mX2_strongest {l : Launch} {G : GG} {EX : State → Prop} (hE : EXB G EX) {th : Nat} {a1 : Int32} {a2 : Int32} {a3 : Int32} {h : AH} (t0 : KD th = 1) {r : Int32} (hx : fX2_strongest th a1 a2 a3 h = some r) : MetU l G EX mi_X2_strongest 3 71 [.ref (G.1 + th), .int a1, .int a2, .int a3] h (some (.int r)) h := by
  refine MetU.of mic_X2_strongest.1 (Nat.le_of_ble_eq_true rfl) ?_
  refine show U l G EX mi_X2_strongest 3 71 (some (.int r)) h 0 [(0, .ref (G.1 + th)), (1, .int a1), (2, .int a2), (3, .int a3)] [] h from ?_
  unfold fX2_strongest at hx
  refine V.iconst dX2_strongest_0 rfl ki_m1 ?_
  refine V.istore [(4, .int (-1 : Int32)), (0, .ref (G.1 + th)), (1, .int a1), (2, .int a2), (3, .int a3)] dX2_strongest_1 rfl (Nat.le_of_ble_eq_true rfl) rfl ?_
  refine V.iconst dX2_strongest_3 rfl ki_0 ?_
  refine V.istore [(5, .int (0 : Int32)), (4, .int (-1 : Int32)), (0, .ref (G.1 + th)), (1, .int a1), (2, .int a2), (3, .int a3)] dX2_strongest_4 rfl (Nat.le_of_ble_eq_true rfl) rfl ?_
  refine V.iconst dX2_strongest_6 rfl ki_0 ?_
  refine V.istore [(6, .int (0 : Int32)), (5, .int (0 : Int32)), (4, .int (-1 : Int32)), (0, .ref (G.1 + th)), (1, .int a1), (2, .int a2), (3, .int a3)] dX2_strongest_7 rfl (Nat.le_of_ble_eq_true rfl) rfl ?_
  refine V.pick [3, 4, 5, 6, 2, 1, 0] rfl ?_
  exact vX2_strongest_9 hE FU th a1 a2 a3 (-1 : Int32) (0 : Int32) (0 : Int32) t0 hx
set_option maxRecDepth 100000 in
set_option maxHeartbeats 4000000 in
theorem vX8_drawn_23 {l : Launch} {G : GG} {EX : State → Prop} (hE : EXB G EX) {r : Int32 × AH} : ∀ (l0 : Nat) (h : AH) (t0 : KD l0 = 7), fX8_drawn_23 l0 h = some r → U l G EX mi_X8_drawn 4 98 (some (.int r.1)) r.2 23 [(0, .ref (G.1 + l0))] [] h := by
  intro l0 h t0 hx
  unfold fX8_drawn_23 at hx
  refine V.aload_n (j := 0) dX8_drawn_23 rfl rfl rfl ?_
  refine V.bipush dX8_drawn_24 rfl kb_m2 ?_
  obtain ⟨v5, h4, q3, hx⟩ := ob2_some hx
  refine U.callV (As := [.int (-2 : Int32)]) (rest := []) (st' := [.int v5]) hE.1 (mX8_refuse hE t0 q3) mic_X8_refuse rfl t0 (by decide) rfl rfl wq_m_X8_80 wq_i_yX8_refuse wq_s_yX8_refuse ⟨Nat.le_of_ble_eq_true rfl, Nat.le_of_ble_eq_true rfl⟩ (Nat.le_of_ble_eq_true rfl) dX8_drawn_26 rfl rfl rfl ?_
  obtain rfl := Option.some.inj hx
  exact U.retI rfl rfl rfl rfl dX8_drawn_29
set_option maxRecDepth 100000 in
set_option maxHeartbeats 4000000 in
theorem mX8_drawn {l : Launch} {G : GG} {EX : State → Prop} (hE : EXB G EX) {th : Nat} {a1 : Int32} {a2 : Int32} {h : AH} (t0 : KD th = 7) {r : Int32 × AH} (hx : fX8_drawn th a1 a2 h = some r) : MetU l G EX mi_X8_drawn 4 98 [.ref (G.1 + th), .int a1, .int a2] h (some (.int r.1)) r.2 := by
  refine MetU.of mic_X8_drawn.1 (Nat.le_of_ble_eq_true rfl) ?_
  refine show U l G EX mi_X8_drawn 4 98 (some (.int r.1)) r.2 0 [(0, .ref (G.1 + th)), (1, .int a1), (2, .int a2)] [] h from ?_
  unfold fX8_drawn at hx
  refine V.aload_n (j := 0) dX8_drawn_0 rfl rfl rfl ?_
  refine U.getP fl_X8_10 t0 dX8_drawn_1 rfl ?_
  refine U.getP fl_X8_60 (ty_X8_0 t0) dX8_drawn_4 rfl ?_
  refine V.iload_n (j := 1) dX8_drawn_7 rfl rfl rfl ?_
  obtain ⟨v2, q1, hx⟩ := ob_some hx
  refine U.callV (As := [.int a1]) (rest := []) (st' := [.int v2]) hE.1 (mX2_hasWatcher hE (ty_X0_0 (ty_X8_0 t0)) q1) mic_X2_hasWatcher rfl (ty_X0_0 (ty_X8_0 t0)) (by decide) rfl rfl wq_m_X8_145 wq_i_yX2_hasWatcher wq_s_yX2_hasWatcher ⟨Nat.le_of_ble_eq_true rfl, Nat.le_of_ble_eq_true rfl⟩ (Nat.le_of_ble_eq_true rfl) dX8_drawn_8 rfl rfl rfl ?_
  refine V.if_eq (tgt := 23) hx dX8_drawn_11 (by decide) rfl (fun hx => ?_) (fun hx => ?_)
  · refine V.pick [0] rfl ?_
    exact vX8_drawn_23 hE th h t0 hx
  · refine V.iload_n (j := 2) dX8_drawn_14 rfl rfl rfl ?_
    refine V.iconst dX8_drawn_15 rfl ki_0 ?_
    refine V.iconst dX8_drawn_16 rfl ki_1 ?_
    obtain ⟨v7, q6, hx⟩ := ob_some hx
    refine U.callS (As := [.int a2, .int (0 : Int32), .int (1 : Int32)]) (rest := []) (st' := [.int v7]) hE.1 (mX8_within hE q6) mic_X8_within rfl wq_m_X8_104 wq_t_yX8_within ⟨Nat.le_of_ble_eq_true rfl, Nat.le_of_ble_eq_true rfl⟩ (Nat.le_of_ble_eq_true rfl) dX8_drawn_17 rfl rfl rfl ?_
    refine V.if_ne (tgt := 30) hx dX8_drawn_20 (by decide) rfl (fun hx => ?_) (fun hx => ?_)
    · refine V.aload_n (j := 0) dX8_drawn_30 rfl rfl rfl ?_
      refine U.getP fl_X8_10 t0 dX8_drawn_31 rfl ?_
      refine U.getP fl_X8_60 (ty_X8_0 t0) dX8_drawn_34 rfl ?_
      obtain ⟨v9, q8, hx⟩ := ob_some hx
      refine U.callV (As := []) (rest := []) (st' := [.int v9]) hE.1 (mX2_onBits hE (ty_X0_0 (ty_X8_0 t0)) q8) mic_X2_onBits rfl (ty_X0_0 (ty_X8_0 t0)) (by decide) rfl rfl wq_m_X8_166 wq_i_yX2_onBits wq_s_yX2_onBits ⟨Nat.le_of_ble_eq_true rfl, Nat.le_of_ble_eq_true rfl⟩ (Nat.le_of_ble_eq_true rfl) dX8_drawn_37 rfl rfl rfl ?_
      refine V.istore_n [(3, .int v9), (0, .ref (G.1 + th)), (1, .int a1), (2, .int a2)] dX8_drawn_40 rfl rfl (Nat.le_of_ble_eq_true rfl) rfl ?_
      refine V.aload_n (j := 1) dX8_drawn_41 rfl rfl rfl ?_
      refine U.getP fl_X8_10 t0 dX8_drawn_42 rfl ?_
      refine U.getP fl_X8_60 (ty_X8_0 t0) dX8_drawn_45 rfl ?_
      refine U.getP fl_X8_148 (ty_X0_0 (ty_X8_0 t0)) dX8_drawn_48 rfl ?_
      refine V.iload_n (j := 2) dX8_drawn_51 rfl rfl rfl ?_
      refine U.iald hx (ty_X2_9 (ty_X0_0 (ty_X8_0 t0))) dX8_drawn_52 rfl (fun hx => ?_)
      refine U.letI hx (fun v10 hx => ?_)
      refine V.istore [(4, .int v10), (3, .int v9), (0, .ref (G.1 + th)), (1, .int a1), (2, .int a2)] dX8_drawn_53 rfl (Nat.le_of_ble_eq_true rfl) rfl ?_
      refine V.aload_n (j := 2) dX8_drawn_55 rfl rfl rfl ?_
      refine U.getP fl_X8_10 t0 dX8_drawn_56 rfl ?_
      refine U.getP fl_X8_60 (ty_X8_0 t0) dX8_drawn_59 rfl ?_
      refine V.iconst dX8_drawn_62 rfl ki_0 ?_
      obtain ⟨v12, q11, hx⟩ := ob_some hx
      refine U.callV (As := [.int (0 : Int32)]) (rest := []) (st' := [.int v12]) hE.1 (mX2_dayStep hE (ty_X0_0 (ty_X8_0 t0)) q11) mic_X2_dayStep rfl (ty_X0_0 (ty_X8_0 t0)) (by decide) rfl rfl wq_m_X8_160 wq_i_yX2_dayStep wq_s_yX2_dayStep ⟨Nat.le_of_ble_eq_true rfl, Nat.le_of_ble_eq_true rfl⟩ (Nat.le_of_ble_eq_true rfl) dX8_drawn_63 rfl rfl rfl ?_
      refine V.istore [(5, .int v12), (4, .int v10), (3, .int v9), (0, .ref (G.1 + th)), (1, .int a1), (2, .int a2)] dX8_drawn_66 rfl (Nat.le_of_ble_eq_true rfl) rfl ?_
      refine V.iload_n (j := 5) dX8_drawn_68 rfl rfl rfl ?_
      refine V.if_ne (tgt := 88) hx dX8_drawn_69 (by decide) rfl (fun hx => ?_) (fun hx => ?_)
      · refine V.aload_n (j := 3) dX8_drawn_88 rfl rfl rfl ?_
        refine U.getP fl_X8_10 t0 dX8_drawn_89 rfl ?_
        refine U.getP fl_X8_60 (ty_X8_0 t0) dX8_drawn_92 rfl ?_
        refine U.getP fl_X8_173 (ty_X0_0 (ty_X8_0 t0)) dX8_drawn_95 rfl ?_
        refine V.iload_n (j := 4) dX8_drawn_98 rfl rfl rfl ?_
        refine U.iald hx (ty_X2_8 (ty_X0_0 (ty_X8_0 t0))) dX8_drawn_99 rfl (fun hx => ?_)
        refine V.aload_n (j := 3) dX8_drawn_100 rfl rfl rfl ?_
        refine U.getP fl_X8_10 t0 dX8_drawn_101 rfl ?_
        refine U.getP fl_X8_60 (ty_X8_0 t0) dX8_drawn_104 rfl ?_
        refine V.iload_n (j := 2) dX8_drawn_107 rfl rfl rfl ?_
        refine V.iload (j := 1) dX8_drawn_108 rfl rfl ?_
        refine V.iload (j := 0) dX8_drawn_110 rfl rfl ?_
        obtain ⟨v14, q13, hx⟩ := ob_some hx
        refine U.callV (As := [.int v9, .int v10, .int v12]) (rest := [.int (hI h (PC (PC (PC th 0) 0) 8) (ix a1))]) (st' := [.int v14, .int (hI h (PC (PC (PC th 0) 0) 8) (ix a1))]) hE.1 (mX2_greatestPull hE (ty_X0_0 (ty_X8_0 t0)) q13) mic_X2_greatestPull rfl (ty_X0_0 (ty_X8_0 t0)) (by decide) rfl rfl wq_m_X8_176 wq_i_yX2_greatestPull wq_s_yX2_greatestPull ⟨Nat.le_of_ble_eq_true rfl, Nat.le_of_ble_eq_true rfl⟩ (Nat.le_of_ble_eq_true rfl) dX8_drawn_112 rfl rfl rfl ?_
        obtain ⟨v16, q15, hx⟩ := ob_some hx
        refine U.callS (As := [.int (hI h (PC (PC (PC th 0) 0) 8) (ix a1)), .int v14]) (rest := []) (st' := [.int v16]) hE.1 (mX1_drawnBy hE q15) mic_X1_drawnBy rfl wq_m_X8_179 wq_t_yX1_drawnBy ⟨Nat.le_of_ble_eq_true rfl, Nat.le_of_ble_eq_true rfl⟩ (Nat.le_of_ble_eq_true rfl) dX8_drawn_115 rfl rfl rfl ?_
        obtain rfl := Option.some.inj hx
        exact U.retI rfl rfl rfl rfl dX8_drawn_118
      · refine V.aload_n (j := 3) dX8_drawn_72 rfl rfl rfl ?_
        refine U.getP fl_X8_10 t0 dX8_drawn_73 rfl ?_
        refine U.getP fl_X8_60 (ty_X8_0 t0) dX8_drawn_76 rfl ?_
        refine V.iload_n (j := 2) dX8_drawn_79 rfl rfl rfl ?_
        refine V.iload (j := 1) dX8_drawn_80 rfl rfl ?_
        refine V.iload (j := 0) dX8_drawn_82 rfl rfl ?_
        obtain ⟨v18, q17, hx⟩ := ob_some hx
        refine U.callV (As := [.int v9, .int v10, .int v12]) (rest := []) (st' := [.int v18]) hE.1 (mX2_strongest hE (ty_X0_0 (ty_X8_0 t0)) q17) mic_X2_strongest rfl (ty_X0_0 (ty_X8_0 t0)) (by decide) rfl rfl wq_m_X8_170 wq_i_yX2_strongest wq_s_yX2_strongest ⟨Nat.le_of_ble_eq_true rfl, Nat.le_of_ble_eq_true rfl⟩ (Nat.le_of_ble_eq_true rfl) dX8_drawn_84 rfl rfl rfl ?_
        obtain rfl := Option.some.inj hx
        exact U.retI rfl rfl rfl rfl dX8_drawn_87
    · refine V.pick [0] rfl ?_
      exact vX8_drawn_23 hE th h t0 hx
set_option maxRecDepth 100000 in
set_option maxHeartbeats 4000000 in
theorem mX7_whoSees {l : Launch} {G : GG} {EX : State → Prop} (hE : EXB G EX) {th : Nat} {a1 : Nat} {a2 : Int32} {a3 : Int32} {h : AH} (t0 : KD th = 6) (t1 : KD a1 = 1) {r : Int32 × AH} (hx : fX7_whoSees th a1 a2 a3 h = some r) : MetU l G EX mi_X7_whoSees 4 98 [.ref (G.1 + th), .ref (G.1 + a1), .int a2, .int a3] h (some (.int r.1)) r.2 := by
  refine MetU.of mic_X7_whoSees.1 (Nat.le_of_ble_eq_true rfl) ?_
  refine show U l G EX mi_X7_whoSees 4 98 (some (.int r.1)) r.2 0 [(0, .ref (G.1 + th)), (1, .ref (G.1 + a1)), (2, .int a2), (3, .int a3)] [] h from ?_
  unfold fX7_whoSees at hx
  refine V.aload_n (j := 0) dX7_whoSees_0 rfl rfl rfl ?_
  refine V.aload_n (j := 1) dX7_whoSees_1 rfl rfl rfl ?_
  refine V.aload_n (j := 1) dX7_whoSees_2 rfl rfl rfl ?_
  obtain ⟨v2, q1, hx⟩ := ob_some hx
  refine U.callV (As := []) (rest := [.ref (G.1 + a1), .ref (G.1 + th)]) (st' := [.int v2, .ref (G.1 + a1), .ref (G.1 + th)]) hE.1 (mX2_onBits hE t1 q1) mic_X2_onBits rfl t1 (by decide) rfl rfl wq_m_X7_41 wq_i_yX2_onBits wq_s_yX2_onBits ⟨Nat.le_of_ble_eq_true rfl, Nat.le_of_ble_eq_true rfl⟩ (Nat.le_of_ble_eq_true rfl) dX7_whoSees_3 rfl rfl rfl ?_
  refine V.iload_n (j := 3) dX7_whoSees_6 rfl rfl rfl ?_
  obtain ⟨h4, q3, hx⟩ := ob_some hx
  refine U.callV (As := [.ref (G.1 + a1), .int v2, .int a3]) (rest := []) (st' := []) hE.1 (mX7_gauge hE t0 t1 q3) mic_X7_gauge rfl t0 (by decide) rfl rfl wq_m_X7_45 wq_i_yX7_gauge wq_s_yX7_gauge ⟨Nat.le_of_ble_eq_true rfl, Nat.le_of_ble_eq_true rfl⟩ (Nat.le_of_ble_eq_true rfl) dX7_whoSees_7 rfl rfl rfl ?_
  refine V.aload_n (j := 0) dX7_whoSees_10 rfl rfl rfl ?_
  refine V.aload_n (j := 1) dX7_whoSees_11 rfl rfl rfl ?_
  refine V.iload_n (j := 2) dX7_whoSees_12 rfl rfl rfl ?_
  obtain ⟨v6, q5, hx⟩ := ob_some hx
  refine U.callV (As := [.ref (G.1 + a1), .int a2]) (rest := []) (st' := [.int v6]) hE.1 (mX7_witnesses hE t0 t1 q5) mic_X7_witnesses rfl t0 (by decide) rfl rfl wq_m_X7_49 wq_i_yX7_witnesses wq_s_yX7_witnesses ⟨Nat.le_of_ble_eq_true rfl, Nat.le_of_ble_eq_true rfl⟩ (Nat.le_of_ble_eq_true rfl) dX7_whoSees_13 rfl rfl rfl ?_
  obtain rfl := Option.some.inj hx
  exact U.retI rfl rfl rfl rfl dX7_whoSees_16
set_option maxRecDepth 100000 in
set_option maxHeartbeats 4000000 in
theorem vX8_sees_26 {l : Launch} {G : GG} {EX : State → Prop} (hE : EXB G EX) {r : Int32 × AH} : ∀ (l0 : Nat) (h : AH) (t0 : KD l0 = 7), fX8_sees_26 l0 h = some r → U l G EX mi_X8_sees 5 121 (some (.int r.1)) r.2 26 [(0, .ref (G.1 + l0))] [] h := by
  intro l0 h t0 hx
  unfold fX8_sees_26 at hx
  refine V.aload_n (j := 0) dX8_sees_26 rfl rfl rfl ?_
  refine V.bipush dX8_sees_27 rfl kb_m2 ?_
  obtain ⟨v10, h9, q8, hx⟩ := ob2_some hx
  refine U.callV (As := [.int (-2 : Int32)]) (rest := []) (st' := [.int v10]) hE.1 (mX8_refuse hE t0 q8) mic_X8_refuse rfl t0 (by decide) rfl rfl wq_m_X8_80 wq_i_yX8_refuse wq_s_yX8_refuse ⟨Nat.le_of_ble_eq_true rfl, Nat.le_of_ble_eq_true rfl⟩ (Nat.le_of_ble_eq_true rfl) dX8_sees_29 rfl rfl rfl ?_
  obtain rfl := Option.some.inj hx
  exact U.retI rfl rfl rfl rfl dX8_sees_32
set_option maxRecDepth 100000 in
set_option maxHeartbeats 4000000 in
theorem vX8_sees_19 {l : Launch} {G : GG} {EX : State → Prop} (hE : EXB G EX) {r : Int32 × AH} : ∀ (l0 : Nat) (l1 : Int32) (l2 : Int32) (h : AH) (t0 : KD l0 = 7), fX8_sees_19 l0 l1 l2 h = some r → U l G EX mi_X8_sees 5 121 (some (.int r.1)) r.2 19 [(0, .ref (G.1 + l0)), (1, .int l1), (2, .int l2)] [] h := by
  intro l0 l1 l2 h t0 hx
  unfold fX8_sees_19 at hx
  refine V.iload_n (j := 2) dX8_sees_19 rfl rfl rfl ?_
  obtain ⟨v2, q1, hx⟩ := ob_some hx
  refine U.callS (As := [.int l2]) (rest := []) (st' := [.int v2]) hE.1 (mX8_isCell hE q1) mic_X8_isCell rfl wq_m_X8_74 wq_t_yX8_isCell ⟨Nat.le_of_ble_eq_true rfl, Nat.le_of_ble_eq_true rfl⟩ (Nat.le_of_ble_eq_true rfl) dX8_sees_20 rfl rfl rfl ?_
  refine V.if_ne (tgt := 33) hx dX8_sees_23 (by decide) rfl (fun hx => ?_) (fun hx => ?_)
  · refine V.aload_n (j := 0) dX8_sees_33 rfl rfl rfl ?_
    refine U.getP fl_X8_34 t0 dX8_sees_34 rfl ?_
    refine V.aload_n (j := 0) dX8_sees_37 rfl rfl rfl ?_
    refine U.getP fl_X8_10 t0 dX8_sees_38 rfl ?_
    refine U.getP fl_X8_60 (ty_X8_0 t0) dX8_sees_41 rfl ?_
    refine V.iload_n (j := 2) dX8_sees_44 rfl rfl rfl ?_
    refine V.aload_n (j := 0) dX8_sees_45 rfl rfl rfl ?_
    refine U.getP fl_X8_10 t0 dX8_sees_46 rfl ?_
    refine U.getP fl_X8_60 (ty_X8_0 t0) dX8_sees_49 rfl ?_
    refine V.iconst dX8_sees_52 rfl ki_0 ?_
    obtain ⟨v4, q3, hx⟩ := ob_some hx
    refine U.callV (As := [.int (0 : Int32)]) (rest := [.int l2, .ref (G.1 + (PC (PC l0 0) 0)), .ref (G.1 + (PC l0 4))]) (st' := [.int v4, .int l2, .ref (G.1 + (PC (PC l0 0) 0)), .ref (G.1 + (PC l0 4))]) hE.1 (mX2_dayStep hE (ty_X0_0 (ty_X8_0 t0)) q3) mic_X2_dayStep rfl (ty_X0_0 (ty_X8_0 t0)) (by decide) rfl rfl wq_m_X8_160 wq_i_yX2_dayStep wq_s_yX2_dayStep ⟨Nat.le_of_ble_eq_true rfl, Nat.le_of_ble_eq_true rfl⟩ (Nat.le_of_ble_eq_true rfl) dX8_sees_53 rfl rfl rfl ?_
    obtain ⟨v7, h6, q5, hx⟩ := ob2_some hx
    refine U.callV (As := [.ref (G.1 + (PC (PC l0 0) 0)), .int l2, .int v4]) (rest := []) (st' := [.int v7]) hE.1 (mX7_whoSees hE (ty_X8_4 t0) (ty_X0_0 (ty_X8_0 t0)) q5) mic_X7_whoSees rfl (ty_X8_4 t0) (by decide) rfl rfl wq_m_X8_184 wq_i_yX7_whoSees wq_s_yX7_whoSees ⟨Nat.le_of_ble_eq_true rfl, Nat.le_of_ble_eq_true rfl⟩ (Nat.le_of_ble_eq_true rfl) dX8_sees_56 rfl rfl rfl ?_
    refine V.istore_n [(3, .int v7), (0, .ref (G.1 + l0)), (1, .int l1), (2, .int l2)] dX8_sees_59 rfl rfl (Nat.le_of_ble_eq_true rfl) rfl ?_
    refine V.iload_n (j := 2) dX8_sees_60 rfl rfl rfl ?_
    refine V.iconst dX8_sees_61 rfl ki_m1 ?_
    refine V.icmp_ne (tgt := 69) hx dX8_sees_62 (by decide) rfl (fun hx => ?_) (fun hx => ?_)
    · refine V.iload_n (j := 0) dX8_sees_69 rfl rfl rfl ?_
      refine V.iload_n (j := 2) dX8_sees_70 rfl rfl rfl ?_
      refine V.ishr dX8_sees_71 rfl ?_
      refine V.iconst dX8_sees_72 rfl ki_1 ?_
      refine V.iand dX8_sees_73 rfl ?_
      obtain rfl := Option.some.inj hx
      exact U.retI rfl rfl rfl rfl dX8_sees_74
    · refine V.iload_n (j := 0) dX8_sees_65 rfl rfl rfl ?_
      refine V.goto (q := 74) dX8_sees_66 (by decide) ?_
      obtain rfl := Option.some.inj hx
      exact U.retI rfl rfl rfl rfl dX8_sees_74
  · refine V.pick [0] rfl ?_
    exact vX8_sees_26 hE l0 h t0 hx
set_option maxRecDepth 100000 in
set_option maxHeartbeats 4000000 in
theorem mX8_sees {l : Launch} {G : GG} {EX : State → Prop} (hE : EXB G EX) {th : Nat} {a1 : Int32} {a2 : Int32} {h : AH} (t0 : KD th = 7) {r : Int32 × AH} (hx : fX8_sees th a1 a2 h = some r) : MetU l G EX mi_X8_sees 5 121 [.ref (G.1 + th), .int a1, .int a2] h (some (.int r.1)) r.2 := by
  refine MetU.of mic_X8_sees.1 (Nat.le_of_ble_eq_true rfl) ?_
  refine show U l G EX mi_X8_sees 5 121 (some (.int r.1)) r.2 0 [(0, .ref (G.1 + th)), (1, .int a1), (2, .int a2)] [] h from ?_
  unfold fX8_sees at hx
  refine V.iload_n (j := 1) dX8_sees_0 rfl rfl rfl ?_
  refine V.iconst dX8_sees_1 rfl ki_m1 ?_
  refine V.icmp_eq (tgt := 19) hx dX8_sees_2 (by decide) rfl (fun hx => ?_) (fun hx => ?_)
  · exact vX8_sees_19 hE th a1 a2 h t0 hx
  · refine V.aload_n (j := 0) dX8_sees_5 rfl rfl rfl ?_
    refine U.getP fl_X8_10 t0 dX8_sees_6 rfl ?_
    refine U.getP fl_X8_60 (ty_X8_0 t0) dX8_sees_9 rfl ?_
    refine V.iload_n (j := 1) dX8_sees_12 rfl rfl rfl ?_
    obtain ⟨v12, q11, hx⟩ := ob_some hx
    refine U.callV (As := [.int a1]) (rest := []) (st' := [.int v12]) hE.1 (mX2_hasWatcher hE (ty_X0_0 (ty_X8_0 t0)) q11) mic_X2_hasWatcher rfl (ty_X0_0 (ty_X8_0 t0)) (by decide) rfl rfl wq_m_X8_145 wq_i_yX2_hasWatcher wq_s_yX2_hasWatcher ⟨Nat.le_of_ble_eq_true rfl, Nat.le_of_ble_eq_true rfl⟩ (Nat.le_of_ble_eq_true rfl) dX8_sees_13 rfl rfl rfl ?_
    refine V.if_eq (tgt := 26) hx dX8_sees_16 (by decide) rfl (fun hx => ?_) (fun hx => ?_)
    · refine V.pick [0] rfl ?_
      exact vX8_sees_26 hE th h t0 hx
    · exact vX8_sees_19 hE th a1 a2 h t0 hx
set_option maxRecDepth 100000 in
set_option maxHeartbeats 4000000 in
theorem mX8_isDayStep {l : Launch} {G : GG} {EX : State → Prop} (hE : EXB G EX) {a0 : Int32} {h : AH} {r : Int32} (hx : fX8_isDayStep a0 = some r) : MetU l G EX mi_X8_isDayStep 1 22 [.int a0] h (some (.int r)) h := by
  refine MetU.of mic_X8_isDayStep.1 (Nat.le_of_ble_eq_true rfl) ?_
  refine show U l G EX mi_X8_isDayStep 1 22 (some (.int r)) h 0 [(0, .int a0)] [] h from ?_
  unfold fX8_isDayStep at hx
  refine V.iload_n (j := 0) dX8_isDayStep_0 rfl rfl rfl ?_
  refine V.iconst dX8_isDayStep_1 rfl ki_0 ?_
  refine V.bipush dX8_isDayStep_2 rfl kb_11 ?_
  obtain ⟨v2, q1, hx⟩ := ob_some hx
  refine U.callS (As := [.int a0, .int (0 : Int32), .int (11 : Int32)]) (rest := []) (st' := [.int v2]) hE.1 (mX8_within hE q1) mic_X8_within rfl wq_m_X8_104 wq_t_yX8_within ⟨Nat.le_of_ble_eq_true rfl, Nat.le_of_ble_eq_true rfl⟩ (Nat.le_of_ble_eq_true rfl) dX8_isDayStep_4 rfl rfl rfl ?_
  obtain ⟨g3, hx⟩ := oG_some hx
  obtain rfl := Option.some.inj hx
  exact U.retI rfl rfl rfl (isB_nar g3) dX8_isDayStep_7
set_option maxRecDepth 100000 in
set_option maxHeartbeats 4000000 in
theorem vX8_unseen_43 {l : Launch} {G : GG} {EX : State → Prop} (hE : EXB G EX) {r : Int32 × AH} : ∀ (n : Nat) (l0 : Nat) (l2 : Int32) (l3 : Int32) (h : AH) (t0 : KD l0 = 7), fX8_unseen_43 n l0 l2 l3 h = some r → U l G EX mi_X8_unseen 4 98 (some (.int r.1)) r.2 43 [(0, .ref (G.1 + l0)), (2, .int l2), (3, .int l3)] [] h := by
  intro n
  induction n with
  | zero =>
    intro l0 l2 l3 h t0 hx
    have hx : none = some r := hx
    cases hx
  | succ n ih =>
    intro l0 l2 l3 h t0 hx
    rw [fX8_unseen_43] at hx
    refine V.iload_n (j := 2) dX8_unseen_43 rfl rfl rfl ?_
    refine V.bipush dX8_unseen_44 rfl kb_30 ?_
    refine V.icmp_ge (tgt := 79) hx dX8_unseen_46 (by decide) rfl (fun hx => ?_) (fun hx => ?_)
    · refine V.iload_n (j := 1) dX8_unseen_79 rfl rfl rfl ?_
      obtain rfl := Option.some.inj hx
      exact U.retI rfl rfl rfl rfl dX8_unseen_80
    · refine V.aload_n (j := 0) dX8_unseen_49 rfl rfl rfl ?_
      refine U.getP fl_X8_34 t0 dX8_unseen_50 rfl ?_
      refine V.aload_n (j := 0) dX8_unseen_53 rfl rfl rfl ?_
      refine U.getP fl_X8_10 t0 dX8_unseen_54 rfl ?_
      refine U.getP fl_X8_60 (ty_X8_0 t0) dX8_unseen_57 rfl ?_
      refine V.iload_n (j := 2) dX8_unseen_60 rfl rfl rfl ?_
      obtain ⟨v8, q7, hx⟩ := ob_some hx
      refine U.callV (As := [.ref (G.1 + (PC (PC l0 0) 0)), .int l3]) (rest := []) (st' := [.int v8]) hE.1 (mX7_witnesses hE (ty_X8_4 t0) (ty_X0_0 (ty_X8_0 t0)) q7) mic_X7_witnesses rfl (ty_X8_4 t0) (by decide) rfl rfl wq_m_X8_195 wq_i_yX7_witnesses wq_s_yX7_witnesses ⟨Nat.le_of_ble_eq_true rfl, Nat.le_of_ble_eq_true rfl⟩ (Nat.le_of_ble_eq_true rfl) dX8_unseen_61 rfl rfl rfl ?_
      refine V.if_ne (tgt := 73) hx dX8_unseen_64 (by decide) rfl (fun hx => ?_) (fun hx => ?_)
      · refine U.iinc hx (fun v9 => [(3, .int v9), (0, .ref (G.1 + l0)), (2, .int l2)]) (j := 2) rfl (by decide) (Nat.le_of_ble_eq_true rfl) (fun _ => rfl) dX8_unseen_73 rfl (fun v9 hx => ?_)
        refine V.goto (q := 43) dX8_unseen_76 (by decide) ?_
        refine V.pick [1, 2, 0] rfl ?_
        exact ih l0 l2 v9 h t0 hx
      · refine V.iload_n (j := 1) dX8_unseen_67 rfl rfl rfl ?_
        refine V.iconst dX8_unseen_68 rfl ki_1 ?_
        refine V.iload_n (j := 2) dX8_unseen_69 rfl rfl rfl ?_
        refine V.ishl dX8_unseen_70 rfl ?_
        refine V.ior dX8_unseen_71 rfl ?_
        refine U.letI hx (fun v10 hx => ?_)
        refine V.istore_n [(2, .int v10), (0, .ref (G.1 + l0)), (3, .int l3)] dX8_unseen_72 rfl rfl (Nat.le_of_ble_eq_true rfl) rfl ?_
        refine U.iinc hx (fun v11 => [(3, .int v11), (2, .int v10), (0, .ref (G.1 + l0))]) (j := 2) rfl (by decide) (Nat.le_of_ble_eq_true rfl) (fun _ => rfl) dX8_unseen_73 rfl (fun v11 hx => ?_)
        refine V.goto (q := 43) dX8_unseen_76 (by decide) ?_
        refine V.pick [2, 1, 0] rfl ?_
        exact ih l0 v10 v11 h t0 hx
set_option maxRecDepth 100000 in
set_option maxHeartbeats 4000000 in
theorem mX8_unseen {l : Launch} {G : GG} {EX : State → Prop} (hE : EXB G EX) {th : Nat} {a1 : Int32} {h : AH} (t0 : KD th = 7) {r : Int32 × AH} (hx : fX8_unseen th a1 h = some r) : MetU l G EX mi_X8_unseen 4 98 [.ref (G.1 + th), .int a1] h (some (.int r.1)) r.2 := by
  refine MetU.of mic_X8_unseen.1 (Nat.le_of_ble_eq_true rfl) ?_
  refine show U l G EX mi_X8_unseen 4 98 (some (.int r.1)) r.2 0 [(0, .ref (G.1 + th)), (1, .int a1)] [] h from ?_
  unfold fX8_unseen at hx
  refine V.iload_n (j := 1) dX8_unseen_0 rfl rfl rfl ?_
  obtain ⟨v2, q1, hx⟩ := ob_some hx
  refine U.callS (As := [.int a1]) (rest := []) (st' := [.int v2]) hE.1 (mX8_isDayStep hE q1) mic_X8_isDayStep rfl wq_m_X8_188 wq_t_yX8_isDayStep ⟨Nat.le_of_ble_eq_true rfl, Nat.le_of_ble_eq_true rfl⟩ (Nat.le_of_ble_eq_true rfl) dX8_unseen_1 rfl rfl rfl ?_
  refine V.if_ne (tgt := 14) hx dX8_unseen_4 (by decide) rfl (fun hx => ?_) (fun hx => ?_)
  · refine V.aload_n (j := 0) dX8_unseen_14 rfl rfl rfl ?_
    refine U.getP fl_X8_34 t0 dX8_unseen_15 rfl ?_
    refine V.aload_n (j := 0) dX8_unseen_18 rfl rfl rfl ?_
    refine U.getP fl_X8_10 t0 dX8_unseen_19 rfl ?_
    refine U.getP fl_X8_60 (ty_X8_0 t0) dX8_unseen_22 rfl ?_
    refine V.aload_n (j := 0) dX8_unseen_25 rfl rfl rfl ?_
    refine U.getP fl_X8_10 t0 dX8_unseen_26 rfl ?_
    refine U.getP fl_X8_60 (ty_X8_0 t0) dX8_unseen_29 rfl ?_
    obtain ⟨v4, q3, hx⟩ := ob_some hx
    refine U.callV (As := []) (rest := [.ref (G.1 + (PC (PC th 0) 0)), .ref (G.1 + (PC th 4))]) (st' := [.int v4, .ref (G.1 + (PC (PC th 0) 0)), .ref (G.1 + (PC th 4))]) hE.1 (mX2_onBits hE (ty_X0_0 (ty_X8_0 t0)) q3) mic_X2_onBits rfl (ty_X0_0 (ty_X8_0 t0)) (by decide) rfl rfl wq_m_X8_166 wq_i_yX2_onBits wq_s_yX2_onBits ⟨Nat.le_of_ble_eq_true rfl, Nat.le_of_ble_eq_true rfl⟩ (Nat.le_of_ble_eq_true rfl) dX8_unseen_32 rfl rfl rfl ?_
    refine V.iload_n (j := 1) dX8_unseen_35 rfl rfl rfl ?_
    obtain ⟨h6, q5, hx⟩ := ob_some hx
    refine U.callV (As := [.ref (G.1 + (PC (PC th 0) 0)), .int v4, .int a1]) (rest := []) (st' := []) hE.1 (mX7_gauge hE (ty_X8_4 t0) (ty_X0_0 (ty_X8_0 t0)) q5) mic_X7_gauge rfl (ty_X8_4 t0) (by decide) rfl rfl wq_m_X8_191 wq_i_yX7_gauge wq_s_yX7_gauge ⟨Nat.le_of_ble_eq_true rfl, Nat.le_of_ble_eq_true rfl⟩ (Nat.le_of_ble_eq_true rfl) dX8_unseen_36 rfl rfl rfl ?_
    refine V.iconst dX8_unseen_39 rfl ki_0 ?_
    refine V.istore_n [(2, .int (0 : Int32)), (0, .ref (G.1 + th)), (1, .int a1)] dX8_unseen_40 rfl rfl (Nat.le_of_ble_eq_true rfl) rfl ?_
    refine V.iconst dX8_unseen_41 rfl ki_0 ?_
    refine V.istore_n [(3, .int (0 : Int32)), (2, .int (0 : Int32)), (0, .ref (G.1 + th)), (1, .int a1)] dX8_unseen_42 rfl rfl (Nat.le_of_ble_eq_true rfl) rfl ?_
    refine V.pick [2, 1, 0] rfl ?_
    exact vX8_unseen_43 hE FU th (0 : Int32) (0 : Int32) h6 t0 hx
  · refine V.aload_n (j := 0) dX8_unseen_7 rfl rfl rfl ?_
    refine V.bipush dX8_unseen_8 rfl kb_m2 ?_
    obtain ⟨v14, h13, q12, hx⟩ := ob2_some hx
    refine U.callV (As := [.int (-2 : Int32)]) (rest := []) (st' := [.int v14]) hE.1 (mX8_refuse hE t0 q12) mic_X8_refuse rfl t0 (by decide) rfl rfl wq_m_X8_80 wq_i_yX8_refuse wq_s_yX8_refuse ⟨Nat.le_of_ble_eq_true rfl, Nat.le_of_ble_eq_true rfl⟩ (Nat.le_of_ble_eq_true rfl) dX8_unseen_10 rfl rfl rfl ?_
    obtain rfl := Option.some.inj hx
    exact U.retI rfl rfl rfl rfl dX8_unseen_13
set_option maxRecDepth 100000 in
set_option maxHeartbeats 4000000 in
theorem vX7_openSteps_5 {l : Launch} {G : GG} {EX : State → Prop} (hE : EXB G EX) {r : Int32 × AH} : ∀ (n : Nat) (l0 : Nat) (l1 : Nat) (l2 : Int32) (l3 : Int32) (l4 : Int32) (h : AH) (t0 : KD l0 = 6) (t1 : KD l1 = 1), fX7_openSteps_5 n l0 l1 l2 l3 l4 h = some r → U l G EX mi_X7_openSteps 5 121 (some (.int r.1)) r.2 5 [(0, .ref (G.1 + l0)), (1, .ref (G.1 + l1)), (2, .int l2), (3, .int l3), (4, .int l4)] [] h := by
  intro n
  induction n with
  | zero =>
    intro l0 l1 l2 l3 l4 h t0 t1 hx
    have hx : none = some r := hx
    cases hx
  | succ n ih =>
    intro l0 l1 l2 l3 l4 h t0 t1 hx
    rw [fX7_openSteps_5] at hx
    refine V.iload (j := 4) dX7_openSteps_5 rfl rfl ?_
    refine V.bipush dX7_openSteps_7 rfl kb_24 ?_
    refine V.icmp_ge (tgt := 40) hx dX7_openSteps_9 (by decide) rfl (fun hx => ?_) (fun hx => ?_)
    · refine V.iload_n (j := 3) dX7_openSteps_40 rfl rfl rfl ?_
      obtain rfl := Option.some.inj hx
      exact U.retI rfl rfl rfl rfl dX7_openSteps_41
    · refine V.aload_n (j := 0) dX7_openSteps_12 rfl rfl rfl ?_
      refine V.aload_n (j := 1) dX7_openSteps_13 rfl rfl rfl ?_
      refine V.iload_n (j := 2) dX7_openSteps_14 rfl rfl rfl ?_
      refine V.aload_n (j := 1) dX7_openSteps_15 rfl rfl rfl ?_
      refine V.iload (j := 4) dX7_openSteps_16 rfl rfl ?_
      obtain ⟨v2, q1, hx⟩ := ob_some hx
      refine U.callV (As := [.int l4]) (rest := [.int l2, .ref (G.1 + l1), .ref (G.1 + l0)]) (st' := [.int v2, .int l2, .ref (G.1 + l1), .ref (G.1 + l0)]) hE.1 (mX2_dayStep hE t1 q1) mic_X2_dayStep rfl t1 (by decide) rfl rfl wq_m_X7_53 wq_i_yX2_dayStep wq_s_yX2_dayStep ⟨Nat.le_of_ble_eq_true rfl, Nat.le_of_ble_eq_true rfl⟩ (Nat.le_of_ble_eq_true rfl) dX7_openSteps_18 rfl rfl rfl ?_
      obtain ⟨v5, h4, q3, hx⟩ := ob2_some hx
      refine U.callV (As := [.ref (G.1 + l1), .int l2, .int v2]) (rest := []) (st' := [.int v5]) hE.1 (mX7_whoSees hE t0 t1 q3) mic_X7_whoSees rfl t0 (by decide) rfl rfl wq_m_X7_72 wq_i_yX7_whoSees wq_s_yX7_whoSees ⟨Nat.le_of_ble_eq_true rfl, Nat.le_of_ble_eq_true rfl⟩ (Nat.le_of_ble_eq_true rfl) dX7_openSteps_21 rfl rfl rfl ?_
      refine V.if_ne (tgt := 34) hx dX7_openSteps_24 (by decide) rfl (fun hx => ?_) (fun hx => ?_)
      · refine U.iinc hx (fun v6 => [(4, .int v6), (0, .ref (G.1 + l0)), (1, .ref (G.1 + l1)), (2, .int l2), (3, .int l3)]) (j := 4) rfl (by decide) (Nat.le_of_ble_eq_true rfl) (fun _ => rfl) dX7_openSteps_34 rfl (fun v6 hx => ?_)
        refine V.goto (q := 5) dX7_openSteps_37 (by decide) ?_
        refine V.pick [1, 2, 3, 4, 0] rfl ?_
        exact ih l0 l1 l2 l3 v6 h4 t0 t1 hx
      · refine V.iload_n (j := 3) dX7_openSteps_27 rfl rfl rfl ?_
        refine V.iconst dX7_openSteps_28 rfl ki_1 ?_
        refine V.iload (j := 4) dX7_openSteps_29 rfl rfl ?_
        refine V.ishl dX7_openSteps_31 rfl ?_
        refine V.ior dX7_openSteps_32 rfl ?_
        refine U.letI hx (fun v7 hx => ?_)
        refine V.istore_n [(3, .int v7), (0, .ref (G.1 + l0)), (1, .ref (G.1 + l1)), (2, .int l2), (4, .int l4)] dX7_openSteps_33 rfl rfl (Nat.le_of_ble_eq_true rfl) rfl ?_
        refine U.iinc hx (fun v8 => [(4, .int v8), (3, .int v7), (0, .ref (G.1 + l0)), (1, .ref (G.1 + l1)), (2, .int l2)]) (j := 4) rfl (by decide) (Nat.le_of_ble_eq_true rfl) (fun _ => rfl) dX7_openSteps_34 rfl (fun v8 hx => ?_)
        refine V.goto (q := 5) dX7_openSteps_37 (by decide) ?_
        refine V.pick [2, 3, 4, 1, 0] rfl ?_
        exact ih l0 l1 l2 v7 v8 h4 t0 t1 hx
set_option maxRecDepth 100000 in
set_option maxHeartbeats 4000000 in
theorem mX7_openSteps {l : Launch} {G : GG} {EX : State → Prop} (hE : EXB G EX) {th : Nat} {a1 : Nat} {a2 : Int32} {h : AH} (t0 : KD th = 6) (t1 : KD a1 = 1) {r : Int32 × AH} (hx : fX7_openSteps th a1 a2 h = some r) : MetU l G EX mi_X7_openSteps 5 121 [.ref (G.1 + th), .ref (G.1 + a1), .int a2] h (some (.int r.1)) r.2 := by
  refine MetU.of mic_X7_openSteps.1 (Nat.le_of_ble_eq_true rfl) ?_
  refine show U l G EX mi_X7_openSteps 5 121 (some (.int r.1)) r.2 0 [(0, .ref (G.1 + th)), (1, .ref (G.1 + a1)), (2, .int a2)] [] h from ?_
  unfold fX7_openSteps at hx
  refine V.iconst dX7_openSteps_0 rfl ki_0 ?_
  refine V.istore_n [(3, .int (0 : Int32)), (0, .ref (G.1 + th)), (1, .ref (G.1 + a1)), (2, .int a2)] dX7_openSteps_1 rfl rfl (Nat.le_of_ble_eq_true rfl) rfl ?_
  refine V.iconst dX7_openSteps_2 rfl ki_0 ?_
  refine V.istore [(4, .int (0 : Int32)), (3, .int (0 : Int32)), (0, .ref (G.1 + th)), (1, .ref (G.1 + a1)), (2, .int a2)] dX7_openSteps_3 rfl (Nat.le_of_ble_eq_true rfl) rfl ?_
  refine V.pick [2, 3, 4, 1, 0] rfl ?_
  exact vX7_openSteps_5 hE FU th a1 a2 (0 : Int32) (0 : Int32) h t0 t1 hx
set_option maxRecDepth 100000 in
set_option maxHeartbeats 4000000 in
theorem vJ6_numberOfTrailingZeros_0f7a4_74 {l : Launch} {G : GG} {EX : State → Prop} (hE : EXB G EX) {h : AH} {r : Int32} : ∀ (l0 : Int32) (l1 : Int32), fJ6_numberOfTrailingZeros_0f7a4_74 l0 l1 = some r → U l G EX mi_J6_numberOfTrailingZeros_0f7a4 0 0 (some (.int r)) h 74 [(0, .int l0), (1, .int l1)] [] h := by
  intro l0 l1 hx
  unfold fJ6_numberOfTrailingZeros_0f7a4_74 at hx
  refine V.iload_n (j := 1) dJ6_numberOfTrailingZeros_0f7a4_74 rfl rfl rfl ?_
  refine V.iload_n (j := 0) dJ6_numberOfTrailingZeros_0f7a4_75 rfl rfl rfl ?_
  refine V.iconst dJ6_numberOfTrailingZeros_0f7a4_76 rfl ki_1 ?_
  refine V.iushr dJ6_numberOfTrailingZeros_0f7a4_77 rfl ?_
  refine V.iadd dJ6_numberOfTrailingZeros_0f7a4_78 rfl ?_
  obtain rfl := Option.some.inj hx
  exact U.retI rfl rfl rfl rfl dJ6_numberOfTrailingZeros_0f7a4_79
set_option maxRecDepth 100000 in
set_option maxHeartbeats 4000000 in
theorem vJ6_numberOfTrailingZeros_0f7a4_62 {l : Launch} {G : GG} {EX : State → Prop} (hE : EXB G EX) {h : AH} {r : Int32} : ∀ (l0 : Int32) (l1 : Int32), fJ6_numberOfTrailingZeros_0f7a4_62 l0 l1 = some r → U l G EX mi_J6_numberOfTrailingZeros_0f7a4 0 0 (some (.int r)) h 62 [(0, .int l0), (1, .int l1)] [] h := by
  intro l0 l1 hx
  unfold fJ6_numberOfTrailingZeros_0f7a4_62 at hx
  refine V.iload_n (j := 0) dJ6_numberOfTrailingZeros_0f7a4_62 rfl rfl rfl ?_
  refine V.iconst dJ6_numberOfTrailingZeros_0f7a4_63 rfl ki_4 ?_
  refine V.icmp_le (tgt := 74) hx dJ6_numberOfTrailingZeros_0f7a4_64 (by decide) rfl (fun hx => ?_) (fun hx => ?_)
  · exact vJ6_numberOfTrailingZeros_0f7a4_74 hE l0 l1 hx
  · refine U.iinc hx (fun v2 => [(1, .int v2), (0, .int l0)]) (j := 1) rfl (by decide) (Nat.le_of_ble_eq_true rfl) (fun _ => rfl) dJ6_numberOfTrailingZeros_0f7a4_67 rfl (fun v2 hx => ?_)
    refine V.iload_n (j := 1) dJ6_numberOfTrailingZeros_0f7a4_70 rfl rfl rfl ?_
    refine V.iconst dJ6_numberOfTrailingZeros_0f7a4_71 rfl ki_2 ?_
    refine V.iushr dJ6_numberOfTrailingZeros_0f7a4_72 rfl ?_
    refine U.letI hx (fun v3 hx => ?_)
    refine V.istore_n [(0, .int v3), (1, .int v2)] dJ6_numberOfTrailingZeros_0f7a4_73 rfl rfl (Nat.le_of_ble_eq_true rfl) rfl ?_
    exact vJ6_numberOfTrailingZeros_0f7a4_74 hE v3 v2 hx
set_option maxRecDepth 100000 in
set_option maxHeartbeats 4000000 in
theorem vJ6_numberOfTrailingZeros_0f7a4_49 {l : Launch} {G : GG} {EX : State → Prop} (hE : EXB G EX) {h : AH} {r : Int32} : ∀ (l0 : Int32) (l1 : Int32), fJ6_numberOfTrailingZeros_0f7a4_49 l0 l1 = some r → U l G EX mi_J6_numberOfTrailingZeros_0f7a4 0 0 (some (.int r)) h 49 [(0, .int l0), (1, .int l1)] [] h := by
  intro l0 l1 hx
  unfold fJ6_numberOfTrailingZeros_0f7a4_49 at hx
  refine V.iload_n (j := 0) dJ6_numberOfTrailingZeros_0f7a4_49 rfl rfl rfl ?_
  refine V.bipush dJ6_numberOfTrailingZeros_0f7a4_50 rfl kb_16 ?_
  refine V.icmp_le (tgt := 62) hx dJ6_numberOfTrailingZeros_0f7a4_52 (by decide) rfl (fun hx => ?_) (fun hx => ?_)
  · exact vJ6_numberOfTrailingZeros_0f7a4_62 hE l0 l1 hx
  · refine U.iinc hx (fun v4 => [(1, .int v4), (0, .int l0)]) (j := 1) rfl (by decide) (Nat.le_of_ble_eq_true rfl) (fun _ => rfl) dJ6_numberOfTrailingZeros_0f7a4_55 rfl (fun v4 hx => ?_)
    refine V.iload_n (j := 1) dJ6_numberOfTrailingZeros_0f7a4_58 rfl rfl rfl ?_
    refine V.iconst dJ6_numberOfTrailingZeros_0f7a4_59 rfl ki_4 ?_
    refine V.iushr dJ6_numberOfTrailingZeros_0f7a4_60 rfl ?_
    refine U.letI hx (fun v5 hx => ?_)
    refine V.istore_n [(0, .int v5), (1, .int v4)] dJ6_numberOfTrailingZeros_0f7a4_61 rfl rfl (Nat.le_of_ble_eq_true rfl) rfl ?_
    exact vJ6_numberOfTrailingZeros_0f7a4_62 hE v5 v4 hx
set_option maxRecDepth 100000 in
set_option maxHeartbeats 4000000 in
theorem vJ6_numberOfTrailingZeros_0f7a4_34 {l : Launch} {G : GG} {EX : State → Prop} (hE : EXB G EX) {h : AH} {r : Int32} : ∀ (l0 : Int32) (l1 : Int32), fJ6_numberOfTrailingZeros_0f7a4_34 l0 l1 = some r → U l G EX mi_J6_numberOfTrailingZeros_0f7a4 0 0 (some (.int r)) h 34 [(0, .int l0), (1, .int l1)] [] h := by
  intro l0 l1 hx
  unfold fJ6_numberOfTrailingZeros_0f7a4_34 at hx
  refine V.iload_n (j := 0) dJ6_numberOfTrailingZeros_0f7a4_34 rfl rfl rfl ?_
  refine V.sipush dJ6_numberOfTrailingZeros_0f7a4_35 rfl ks_256 ?_
  refine V.icmp_le (tgt := 49) hx dJ6_numberOfTrailingZeros_0f7a4_38 (by decide) rfl (fun hx => ?_) (fun hx => ?_)
  · exact vJ6_numberOfTrailingZeros_0f7a4_49 hE l0 l1 hx
  · refine U.iinc hx (fun v6 => [(1, .int v6), (0, .int l0)]) (j := 1) rfl (by decide) (Nat.le_of_ble_eq_true rfl) (fun _ => rfl) dJ6_numberOfTrailingZeros_0f7a4_41 rfl (fun v6 hx => ?_)
    refine V.iload_n (j := 1) dJ6_numberOfTrailingZeros_0f7a4_44 rfl rfl rfl ?_
    refine V.bipush dJ6_numberOfTrailingZeros_0f7a4_45 rfl kb_8 ?_
    refine V.iushr dJ6_numberOfTrailingZeros_0f7a4_47 rfl ?_
    refine U.letI hx (fun v7 hx => ?_)
    refine V.istore_n [(0, .int v7), (1, .int v6)] dJ6_numberOfTrailingZeros_0f7a4_48 rfl rfl (Nat.le_of_ble_eq_true rfl) rfl ?_
    exact vJ6_numberOfTrailingZeros_0f7a4_49 hE v7 v6 hx
set_option maxRecDepth 100000 in
set_option maxHeartbeats 4000000 in
theorem mJ6_numberOfTrailingZeros_0f7a4 {l : Launch} {G : GG} {EX : State → Prop} (hE : EXB G EX) {a0 : Int32} {h : AH} {r : Int32} (hx : fJ6_numberOfTrailingZeros_0f7a4 a0 = some r) : MetU l G EX mi_J6_numberOfTrailingZeros_0f7a4 0 0 [.int a0] h (some (.int r)) h := by
  refine MetU.of mic_J6_numberOfTrailingZeros_0f7a4.1 (Nat.le_of_ble_eq_true rfl) ?_
  refine show U l G EX mi_J6_numberOfTrailingZeros_0f7a4 0 0 (some (.int r)) h 0 [(0, .int a0)] [] h from ?_
  unfold fJ6_numberOfTrailingZeros_0f7a4 at hx
  refine V.iload_n (j := 0) dJ6_numberOfTrailingZeros_0f7a4_0 rfl rfl rfl ?_
  refine V.iconst dJ6_numberOfTrailingZeros_0f7a4_1 rfl ki_m1 ?_
  refine V.ixor dJ6_numberOfTrailingZeros_0f7a4_2 rfl ?_
  refine V.iload_n (j := 0) dJ6_numberOfTrailingZeros_0f7a4_3 rfl rfl rfl ?_
  refine V.iconst dJ6_numberOfTrailingZeros_0f7a4_4 rfl ki_1 ?_
  refine V.isub dJ6_numberOfTrailingZeros_0f7a4_5 rfl ?_
  refine V.iand dJ6_numberOfTrailingZeros_0f7a4_6 rfl ?_
  refine U.letI hx (fun v1 hx => ?_)
  refine V.istore_n [(0, .int v1)] dJ6_numberOfTrailingZeros_0f7a4_7 rfl rfl (Nat.le_of_ble_eq_true rfl) rfl ?_
  refine V.iload_n (j := 0) dJ6_numberOfTrailingZeros_0f7a4_8 rfl rfl rfl ?_
  refine V.if_gt (tgt := 17) hx dJ6_numberOfTrailingZeros_0f7a4_9 (by decide) rfl (fun hx => ?_) (fun hx => ?_)
  · refine V.iconst dJ6_numberOfTrailingZeros_0f7a4_17 rfl ki_1 ?_
    refine V.istore_n [(1, .int (1 : Int32)), (0, .int v1)] dJ6_numberOfTrailingZeros_0f7a4_18 rfl rfl (Nat.le_of_ble_eq_true rfl) rfl ?_
    refine V.iload_n (j := 1) dJ6_numberOfTrailingZeros_0f7a4_19 rfl rfl rfl ?_
    refine V.ldc_w dJ6_numberOfTrailingZeros_0f7a4_20 rfl wq_k_J6_264 ?_
    refine V.icmp_le (tgt := 34) hx dJ6_numberOfTrailingZeros_0f7a4_23 (by decide) rfl (fun hx => ?_) (fun hx => ?_)
    · refine V.pick [1, 0] rfl ?_
      exact vJ6_numberOfTrailingZeros_0f7a4_34 hE v1 (1 : Int32) hx
    · refine U.iinc hx (fun v8 => [(1, .int v8), (0, .int v1)]) (j := 0) rfl (by decide) (Nat.le_of_ble_eq_true rfl) (fun _ => rfl) dJ6_numberOfTrailingZeros_0f7a4_26 rfl (fun v8 hx => ?_)
      refine V.iload_n (j := 1) dJ6_numberOfTrailingZeros_0f7a4_29 rfl rfl rfl ?_
      refine V.bipush dJ6_numberOfTrailingZeros_0f7a4_30 rfl kb_16 ?_
      refine V.iushr dJ6_numberOfTrailingZeros_0f7a4_32 rfl ?_
      refine U.letI hx (fun v9 hx => ?_)
      refine V.istore_n [(0, .int v9), (1, .int v8)] dJ6_numberOfTrailingZeros_0f7a4_33 rfl rfl (Nat.le_of_ble_eq_true rfl) rfl ?_
      exact vJ6_numberOfTrailingZeros_0f7a4_34 hE v9 v8 hx
  · refine V.iload_n (j := 0) dJ6_numberOfTrailingZeros_0f7a4_12 rfl rfl rfl ?_
    refine V.bipush dJ6_numberOfTrailingZeros_0f7a4_13 rfl kb_32 ?_
    refine V.iand dJ6_numberOfTrailingZeros_0f7a4_15 rfl ?_
    obtain rfl := Option.some.inj hx
    exact U.retI rfl rfl rfl rfl dJ6_numberOfTrailingZeros_0f7a4_16
set_option maxRecDepth 100000 in
set_option maxHeartbeats 4000000 in
theorem mX8_when {l : Launch} {G : GG} {EX : State → Prop} (hE : EXB G EX) {th : Nat} {a1 : Int32} {h : AH} (t0 : KD th = 7) {r : Int32 × AH} (hx : fX8_when th a1 h = some r) : MetU l G EX mi_X8_when 6 145 [.ref (G.1 + th), .int a1] h (some (.int r.1)) r.2 := by
  refine MetU.of mic_X8_when.1 (Nat.le_of_ble_eq_true rfl) ?_
  refine show U l G EX mi_X8_when 6 145 (some (.int r.1)) r.2 0 [(0, .ref (G.1 + th)), (1, .int a1)] [] h from ?_
  unfold fX8_when at hx
  refine V.iload_n (j := 1) dX8_when_0 rfl rfl rfl ?_
  obtain ⟨v2, q1, hx⟩ := ob_some hx
  refine U.callS (As := [.int a1]) (rest := []) (st' := [.int v2]) hE.1 (mX8_isCell hE q1) mic_X8_isCell rfl wq_m_X8_74 wq_t_yX8_isCell ⟨Nat.le_of_ble_eq_true rfl, Nat.le_of_ble_eq_true rfl⟩ (Nat.le_of_ble_eq_true rfl) dX8_when_1 rfl rfl rfl ?_
  refine V.if_ne (tgt := 14) hx dX8_when_4 (by decide) rfl (fun hx => ?_) (fun hx => ?_)
  · refine V.aload_n (j := 0) dX8_when_14 rfl rfl rfl ?_
    refine U.getP fl_X8_34 t0 dX8_when_15 rfl ?_
    refine V.aload_n (j := 0) dX8_when_18 rfl rfl rfl ?_
    refine U.getP fl_X8_10 t0 dX8_when_19 rfl ?_
    refine U.getP fl_X8_60 (ty_X8_0 t0) dX8_when_22 rfl ?_
    refine V.iload_n (j := 1) dX8_when_25 rfl rfl rfl ?_
    obtain ⟨v5, h4, q3, hx⟩ := ob2_some hx
    refine U.callV (As := [.ref (G.1 + (PC (PC th 0) 0)), .int a1]) (rest := []) (st' := [.int v5]) hE.1 (mX7_openSteps hE (ty_X8_4 t0) (ty_X0_0 (ty_X8_0 t0)) q3) mic_X7_openSteps rfl (ty_X8_4 t0) (by decide) rfl rfl wq_m_X8_198 wq_i_yX7_openSteps wq_s_yX7_openSteps ⟨Nat.le_of_ble_eq_true rfl, Nat.le_of_ble_eq_true rfl⟩ (Nat.le_of_ble_eq_true rfl) dX8_when_26 rfl rfl rfl ?_
    refine V.istore_n [(2, .int v5), (0, .ref (G.1 + th)), (1, .int a1)] dX8_when_29 rfl rfl (Nat.le_of_ble_eq_true rfl) rfl ?_
    refine V.iload_n (j := 0) dX8_when_30 rfl rfl rfl ?_
    refine V.if_ne (tgt := 38) hx dX8_when_31 (by decide) rfl (fun hx => ?_) (fun hx => ?_)
    · refine V.iload_n (j := 0) dX8_when_38 rfl rfl rfl ?_
      obtain ⟨v7, q6, hx⟩ := ob_some hx
      refine U.callS (As := [.int v5]) (rest := []) (st' := [.int v7]) hE.1 (mJ6_numberOfTrailingZeros_0f7a4 hE q6) mic_J6_numberOfTrailingZeros_0f7a4 rfl wq_m_X8_201 wq_t_yJ6_numberOfTrailingZeros_0f7a4 ⟨Nat.le_of_ble_eq_true rfl, Nat.le_of_ble_eq_true rfl⟩ (Nat.le_of_ble_eq_true rfl) dX8_when_39 rfl rfl rfl ?_
      obtain rfl := Option.some.inj hx
      exact U.retI rfl rfl rfl rfl dX8_when_42
    · refine V.iconst dX8_when_34 rfl ki_m1 ?_
      refine V.goto (q := 42) dX8_when_35 (by decide) ?_
      obtain rfl := Option.some.inj hx
      exact U.retI rfl rfl rfl rfl dX8_when_42
  · refine V.aload_n (j := 0) dX8_when_7 rfl rfl rfl ?_
    refine V.bipush dX8_when_8 rfl kb_m2 ?_
    obtain ⟨v10, h9, q8, hx⟩ := ob2_some hx
    refine U.callV (As := [.int (-2 : Int32)]) (rest := []) (st' := [.int v10]) hE.1 (mX8_refuse hE t0 q8) mic_X8_refuse rfl t0 (by decide) rfl rfl wq_m_X8_80 wq_i_yX8_refuse wq_s_yX8_refuse ⟨Nat.le_of_ble_eq_true rfl, Nat.le_of_ble_eq_true rfl⟩ (Nat.le_of_ble_eq_true rfl) dX8_when_10 rfl rfl rfl ?_
    obtain rfl := Option.some.inj hx
    exact U.retI rfl rfl rfl rfl dX8_when_13
set_option maxRecDepth 100000 in
set_option maxHeartbeats 4000000 in
theorem mJ6_bitCount_0f7a4 {l : Launch} {G : GG} {EX : State → Prop} (hE : EXB G EX) {a0 : Int32} {h : AH} {r : Int32} (hx : fJ6_bitCount_0f7a4 a0 = some r) : MetU l G EX mi_J6_bitCount_0f7a4 0 0 [.int a0] h (some (.int r)) h := by
  refine MetU.of mic_J6_bitCount_0f7a4.1 (Nat.le_of_ble_eq_true rfl) ?_
  refine show U l G EX mi_J6_bitCount_0f7a4 0 0 (some (.int r)) h 0 [(0, .int a0)] [] h from ?_
  unfold fJ6_bitCount_0f7a4 at hx
  refine V.iload_n (j := 0) dJ6_bitCount_0f7a4_0 rfl rfl rfl ?_
  refine V.iload_n (j := 0) dJ6_bitCount_0f7a4_1 rfl rfl rfl ?_
  refine V.iconst dJ6_bitCount_0f7a4_2 rfl ki_1 ?_
  refine V.iushr dJ6_bitCount_0f7a4_3 rfl ?_
  refine V.ldc_w dJ6_bitCount_0f7a4_4 rfl wq_k_J6_265 ?_
  refine V.iand dJ6_bitCount_0f7a4_7 rfl ?_
  refine V.isub dJ6_bitCount_0f7a4_8 rfl ?_
  refine U.letI hx (fun v1 hx => ?_)
  refine V.istore_n [(0, .int v1)] dJ6_bitCount_0f7a4_9 rfl rfl (Nat.le_of_ble_eq_true rfl) rfl ?_
  refine V.iload_n (j := 0) dJ6_bitCount_0f7a4_10 rfl rfl rfl ?_
  refine V.ldc_w dJ6_bitCount_0f7a4_11 rfl wq_k_J6_266 ?_
  refine V.iand dJ6_bitCount_0f7a4_14 rfl ?_
  refine V.iload_n (j := 0) dJ6_bitCount_0f7a4_15 rfl rfl rfl ?_
  refine V.iconst dJ6_bitCount_0f7a4_16 rfl ki_2 ?_
  refine V.iushr dJ6_bitCount_0f7a4_17 rfl ?_
  refine V.ldc_w dJ6_bitCount_0f7a4_18 rfl wq_k_J6_266 ?_
  refine V.iand dJ6_bitCount_0f7a4_21 rfl ?_
  refine V.iadd dJ6_bitCount_0f7a4_22 rfl ?_
  refine U.letI hx (fun v2 hx => ?_)
  refine V.istore_n [(0, .int v2)] dJ6_bitCount_0f7a4_23 rfl rfl (Nat.le_of_ble_eq_true rfl) rfl ?_
  refine V.iload_n (j := 0) dJ6_bitCount_0f7a4_24 rfl rfl rfl ?_
  refine V.iload_n (j := 0) dJ6_bitCount_0f7a4_25 rfl rfl rfl ?_
  refine V.iconst dJ6_bitCount_0f7a4_26 rfl ki_4 ?_
  refine V.iushr dJ6_bitCount_0f7a4_27 rfl ?_
  refine V.iadd dJ6_bitCount_0f7a4_28 rfl ?_
  refine V.ldc_w dJ6_bitCount_0f7a4_29 rfl wq_k_J6_267 ?_
  refine V.iand dJ6_bitCount_0f7a4_32 rfl ?_
  refine U.letI hx (fun v3 hx => ?_)
  refine V.istore_n [(0, .int v3)] dJ6_bitCount_0f7a4_33 rfl rfl (Nat.le_of_ble_eq_true rfl) rfl ?_
  refine V.iload_n (j := 0) dJ6_bitCount_0f7a4_34 rfl rfl rfl ?_
  refine V.iload_n (j := 0) dJ6_bitCount_0f7a4_35 rfl rfl rfl ?_
  refine V.bipush dJ6_bitCount_0f7a4_36 rfl kb_8 ?_
  refine V.iushr dJ6_bitCount_0f7a4_38 rfl ?_
  refine V.iadd dJ6_bitCount_0f7a4_39 rfl ?_
  refine U.letI hx (fun v4 hx => ?_)
  refine V.istore_n [(0, .int v4)] dJ6_bitCount_0f7a4_40 rfl rfl (Nat.le_of_ble_eq_true rfl) rfl ?_
  refine V.iload_n (j := 0) dJ6_bitCount_0f7a4_41 rfl rfl rfl ?_
  refine V.iload_n (j := 0) dJ6_bitCount_0f7a4_42 rfl rfl rfl ?_
  refine V.bipush dJ6_bitCount_0f7a4_43 rfl kb_16 ?_
  refine V.iushr dJ6_bitCount_0f7a4_45 rfl ?_
  refine V.iadd dJ6_bitCount_0f7a4_46 rfl ?_
  refine U.letI hx (fun v5 hx => ?_)
  refine V.istore_n [(0, .int v5)] dJ6_bitCount_0f7a4_47 rfl rfl (Nat.le_of_ble_eq_true rfl) rfl ?_
  refine V.iload_n (j := 0) dJ6_bitCount_0f7a4_48 rfl rfl rfl ?_
  refine V.bipush dJ6_bitCount_0f7a4_49 rfl kb_63 ?_
  refine V.iand dJ6_bitCount_0f7a4_51 rfl ?_
  obtain rfl := Option.some.inj hx
  exact U.retI rfl rfl rfl rfl dJ6_bitCount_0f7a4_52
