set_option maxRecDepth 100000 in
set_option maxHeartbeats 4000000 in
theorem vX8_look_50 {l : Launch} {G : GG} {EX : State → Prop} (hE : EXB G EX) {r : Int32 × AH} {k106 : Nat → Int32 → Int32 → Int32 → Int32 → Int32 → AH → Option (Int32 × AH)} (hk106 : ∀ (l0 : Nat) (l1 : Int32) (l2 : Int32) (l3 : Int32) (l4 : Int32) (l5 : Int32) (h : AH) (t0 : KD l0 = 7), k106 l0 l1 l2 l3 l4 l5 h = some r → U l G EX mi_X8_look 3 76 (some (.int r.1)) r.2 106 [(0, .ref (G.1 + l0)), (1, .int l1), (2, .int l2), (3, .int l3), (4, .int l4), (5, .int l5)] [] h) : ∀ (n : Nat) (l0 : Nat) (l1 : Int32) (l2 : Int32) (l3 : Int32) (l4 : Int32) (l5 : Int32) (l6 : Int32) (h : AH) (t0 : KD l0 = 7), fX8_look_50 k106 n l0 l1 l2 l3 l4 l5 l6 h = some r → U l G EX mi_X8_look 3 76 (some (.int r.1)) r.2 50 [(0, .ref (G.1 + l0)), (1, .int l1), (2, .int l2), (3, .int l3), (4, .int l4), (5, .int l5), (6, .int l6)] [] h := by
  intro n
  induction n with
  | zero =>
    intro l0 l1 l2 l3 l4 l5 l6 h t0 hx
    have hx : none = some r := hx
    cases hx
  | succ n ih =>
    intro l0 l1 l2 l3 l4 l5 l6 h t0 hx
    rw [fX8_look_50] at hx
    refine V.iload (j := 6) dX8_look_50 rfl rfl ?_
    refine V.bipush dX8_look_52 rfl kb_9 ?_
    refine V.icmp_gt (tgt := 106) hx dX8_look_54 (by decide) rfl (fun hx => ?_) (fun hx => ?_)
    · refine V.pick [0, 1, 2, 3, 4, 5] rfl ?_
      exact hk106 l0 l1 l2 l3 l4 l5 h t0 hx
    · refine V.aload_n (j := 0) dX8_look_57 rfl rfl rfl ?_
      refine V.iload_n (j := 2) dX8_look_58 rfl rfl rfl ?_
      refine V.aload_n (j := 0) dX8_look_59 rfl rfl rfl ?_
      refine U.getP fl_X8_10 t0 dX8_look_60 rfl ?_
      refine U.getP fl_X8_60 (ty_X8_0 t0) dX8_look_63 rfl ?_
      refine U.getP fl_X8_262 (ty_X0_0 (ty_X8_0 t0)) dX8_look_66 rfl ?_
      refine V.iload_n (j := 1) dX8_look_69 rfl rfl rfl ?_
      refine U.iald hx (ty_X2_6 (ty_X0_0 (ty_X8_0 t0))) dX8_look_70 rfl (fun hx => ?_)
      refine V.iload (j := 6) dX8_look_71 rfl rfl ?_
      refine V.iload (j := 5) dX8_look_73 rfl rfl ?_
      obtain ⟨v7, h6, q5, hx⟩ := ob2_some hx
      refine U.callV (As := [.int l2, .int (hI h (PC (PC (PC l0 0) 0) 6) (ix l1)), .int l6, .int l5]) (rest := []) (st' := [.int v7]) hE.1 (mX8_mostAlike hE t0 q5) mic_X8_mostAlike rfl t0 (by decide) rfl rfl wq_m_X8_265 wq_i_yX8_mostAlike wq_s_yX8_mostAlike ⟨Nat.le_of_ble_eq_true rfl, Nat.le_of_ble_eq_true rfl⟩ (Nat.le_of_ble_eq_true rfl) dX8_look_75 rfl rfl rfl ?_
      refine V.istore [(7, .int v7), (0, .ref (G.1 + l0)), (1, .int l1), (2, .int l2), (3, .int l3), (4, .int l4), (5, .int l5), (6, .int l6)] dX8_look_78 rfl (Nat.le_of_ble_eq_true rfl) rfl ?_
      refine V.iload (j := 0) dX8_look_80 rfl rfl ?_
      refine V.iload (j := 5) dX8_look_82 rfl rfl ?_
      refine V.icmp_ge (tgt := 100) hx dX8_look_84 (by decide) rfl (fun hx => ?_) (fun hx => ?_)
      · refine U.iinc hx (fun v8 => [(6, .int v8), (7, .int v7), (0, .ref (G.1 + l0)), (1, .int l1), (2, .int l2), (3, .int l3), (4, .int l4), (5, .int l5)]) (j := 7) rfl (by decide) (Nat.le_of_ble_eq_true rfl) (fun _ => rfl) dX8_look_100 rfl (fun v8 hx => ?_)
        refine V.goto (q := 50) dX8_look_103 (by decide) ?_
        refine V.pick [2, 3, 4, 5, 6, 7, 0] rfl ?_
        exact ih l0 l1 l2 l3 l4 l5 v8 h6 t0 hx
      · refine V.iload (j := 0) dX8_look_87 rfl rfl ?_
        refine V.istore [(4, .int v7), (7, .int v7), (0, .ref (G.1 + l0)), (1, .int l1), (2, .int l2), (3, .int l3), (5, .int l5), (6, .int l6)] dX8_look_89 rfl (Nat.le_of_ble_eq_true rfl) rfl ?_
        refine V.bipush dX8_look_91 rfl kb_100 ?_
        refine V.iload (j := 6) dX8_look_93 rfl rfl ?_
        refine V.imul dX8_look_95 rfl ?_
        refine V.iload (j := 7) dX8_look_96 rfl rfl ?_
        refine V.iadd dX8_look_98 rfl ?_
        refine U.letI hx (fun v9 hx => ?_)
        refine V.istore_n [(3, .int v9), (4, .int v7), (7, .int v7), (0, .ref (G.1 + l0)), (1, .int l1), (2, .int l2), (5, .int l5), (6, .int l6)] dX8_look_99 rfl rfl (Nat.le_of_ble_eq_true rfl) rfl ?_
        refine U.iinc hx (fun v10 => [(6, .int v10), (3, .int v9), (4, .int v7), (7, .int v7), (0, .ref (G.1 + l0)), (1, .int l1), (2, .int l2), (5, .int l5)]) (j := 7) rfl (by decide) (Nat.le_of_ble_eq_true rfl) (fun _ => rfl) dX8_look_100 rfl (fun v10 hx => ?_)
        refine V.goto (q := 50) dX8_look_103 (by decide) ?_
        refine V.pick [4, 5, 6, 1, 2, 7, 0] rfl ?_
        exact ih l0 l1 l2 v9 v7 l5 v10 h6 t0 hx
set_option maxRecDepth 100000 in
set_option maxHeartbeats 4000000 in
theorem vX8_look_36 {l : Launch} {G : GG} {EX : State → Prop} (hE : EXB G EX) {r : Int32 × AH} : ∀ (n : Nat) (l0 : Nat) (l1 : Int32) (l2 : Int32) (l3 : Int32) (l4 : Int32) (l5 : Int32) (h : AH) (t0 : KD l0 = 7), fX8_look_36 n l0 l1 l2 l3 l4 l5 h = some r → U l G EX mi_X8_look 3 76 (some (.int r.1)) r.2 36 [(0, .ref (G.1 + l0)), (1, .int l1), (2, .int l2), (3, .int l3), (4, .int l4), (5, .int l5)] [] h := by
  intro n
  induction n with
  | zero =>
    intro l0 l1 l2 l3 l4 l5 h t0 hx
    have hx : none = some r := hx
    cases hx
  | succ n ih =>
    intro l0 l1 l2 l3 l4 l5 h t0 hx
    rw [fX8_look_36] at hx
    refine V.iload_n (j := 2) dX8_look_36 rfl rfl rfl ?_
    refine V.if_eq (tgt := 112) hx dX8_look_37 (by decide) rfl (fun hx => ?_) (fun hx => ?_)
    · refine V.iload_n (j := 3) dX8_look_112 rfl rfl rfl ?_
      obtain rfl := Option.some.inj hx
      exact U.retI rfl rfl rfl rfl dX8_look_113
    · refine V.iload (j := 5) dX8_look_40 rfl rfl ?_
      refine V.bipush dX8_look_42 rfl kb_12 ?_
      refine V.icmp_ge (tgt := 112) hx dX8_look_44 (by decide) rfl (fun hx => ?_) (fun hx => ?_)
      · refine V.iload_n (j := 3) dX8_look_112 rfl rfl rfl ?_
        obtain rfl := Option.some.inj hx
        exact U.retI rfl rfl rfl rfl dX8_look_113
      · refine V.iconst dX8_look_47 rfl ki_0 ?_
        refine V.istore [(6, .int (0 : Int32)), (0, .ref (G.1 + l0)), (1, .int l1), (2, .int l2), (3, .int l3), (4, .int l4), (5, .int l5)] dX8_look_48 rfl (Nat.le_of_ble_eq_true rfl) rfl ?_
        refine V.pick [1, 2, 3, 4, 5, 6, 0] rfl ?_
        refine vX8_look_50 hE (fun w11 w12 w13 w14 w15 w16 h17 t18 hx => ?_) FU l0 l1 l2 l3 l4 l5 (0 : Int32) h t0 hx
        · refine U.iinc hx (fun v19 => [(5, .int v19), (0, .ref (G.1 + w11)), (1, .int w12), (2, .int w13), (3, .int w14), (4, .int w15)]) (j := 5) rfl (by decide) (Nat.le_of_ble_eq_true rfl) (fun _ => rfl) dX8_look_106 rfl (fun v19 hx => ?_)
          refine V.goto (q := 36) dX8_look_109 (by decide) ?_
          refine V.pick [1, 2, 3, 4, 5, 0] rfl ?_
          exact ih w11 w12 w13 w14 w15 v19 h17 t18 hx
set_option maxRecDepth 100000 in
set_option maxHeartbeats 4000000 in
theorem mX8_look {l : Launch} {G : GG} {EX : State → Prop} (hE : EXB G EX) {th : Nat} {a1 : Int32} {h : AH} (t0 : KD th = 7) {r : Int32 × AH} (hx : fX8_look th a1 h = some r) : MetU l G EX mi_X8_look 3 76 [.ref (G.1 + th), .int a1] h (some (.int r.1)) r.2 := by
  refine MetU.of mic_X8_look.1 (Nat.le_of_ble_eq_true rfl) ?_
  refine show U l G EX mi_X8_look 3 76 (some (.int r.1)) r.2 0 [(0, .ref (G.1 + th)), (1, .int a1)] [] h from ?_
  unfold fX8_look at hx
  refine V.aload_n (j := 0) dX8_look_0 rfl rfl rfl ?_
  refine U.getP fl_X8_10 t0 dX8_look_1 rfl ?_
  refine U.getP fl_X8_60 (ty_X8_0 t0) dX8_look_4 rfl ?_
  refine V.iload_n (j := 1) dX8_look_7 rfl rfl rfl ?_
  obtain ⟨v2, q1, hx⟩ := ob_some hx
  refine U.callV (As := [.int a1]) (rest := []) (st' := [.int v2]) hE.1 (mX2_hasShow hE (ty_X0_0 (ty_X8_0 t0)) q1) mic_X2_hasShow rfl (ty_X0_0 (ty_X8_0 t0)) (by decide) rfl rfl wq_m_X8_136 wq_i_yX2_hasShow wq_s_yX2_hasShow ⟨Nat.le_of_ble_eq_true rfl, Nat.le_of_ble_eq_true rfl⟩ (Nat.le_of_ble_eq_true rfl) dX8_look_8 rfl rfl rfl ?_
  refine V.if_ne (tgt := 21) hx dX8_look_11 (by decide) rfl (fun hx => ?_) (fun hx => ?_)
  · refine V.aload_n (j := 0) dX8_look_21 rfl rfl rfl ?_
    refine V.iload_n (j := 1) dX8_look_22 rfl rfl rfl ?_
    obtain ⟨v4, q3, hx⟩ := ob_some hx
    refine U.callV (As := [.int a1]) (rest := []) (st' := [.int v4]) hE.1 (mX8_showKindsLeft hE t0 q3) mic_X8_showKindsLeft rfl t0 (by decide) rfl rfl wq_m_X8_259 wq_i_yX8_showKindsLeft wq_s_yX8_showKindsLeft ⟨Nat.le_of_ble_eq_true rfl, Nat.le_of_ble_eq_true rfl⟩ (Nat.le_of_ble_eq_true rfl) dX8_look_23 rfl rfl rfl ?_
    refine V.istore_n [(2, .int v4), (0, .ref (G.1 + th)), (1, .int a1)] dX8_look_26 rfl rfl (Nat.le_of_ble_eq_true rfl) rfl ?_
    refine V.iconst dX8_look_27 rfl ki_m1 ?_
    refine V.istore_n [(3, .int (-1 : Int32)), (2, .int v4), (0, .ref (G.1 + th)), (1, .int a1)] dX8_look_28 rfl rfl (Nat.le_of_ble_eq_true rfl) rfl ?_
    refine V.bipush dX8_look_29 rfl kb_7 ?_
    refine V.istore [(4, .int (7 : Int32)), (3, .int (-1 : Int32)), (2, .int v4), (0, .ref (G.1 + th)), (1, .int a1)] dX8_look_31 rfl (Nat.le_of_ble_eq_true rfl) rfl ?_
    refine V.iconst dX8_look_33 rfl ki_0 ?_
    refine V.istore [(5, .int (0 : Int32)), (4, .int (7 : Int32)), (3, .int (-1 : Int32)), (2, .int v4), (0, .ref (G.1 + th)), (1, .int a1)] dX8_look_34 rfl (Nat.le_of_ble_eq_true rfl) rfl ?_
    refine V.pick [4, 5, 3, 2, 1, 0] rfl ?_
    exact vX8_look_36 hE FU th a1 v4 (-1 : Int32) (7 : Int32) (0 : Int32) h t0 hx
  · refine V.aload_n (j := 0) dX8_look_14 rfl rfl rfl ?_
    refine V.bipush dX8_look_15 rfl kb_m2 ?_
    obtain ⟨v22, h21, q20, hx⟩ := ob2_some hx
    refine U.callV (As := [.int (-2 : Int32)]) (rest := []) (st' := [.int v22]) hE.1 (mX8_refuse hE t0 q20) mic_X8_refuse rfl t0 (by decide) rfl rfl wq_m_X8_80 wq_i_yX8_refuse wq_s_yX8_refuse ⟨Nat.le_of_ble_eq_true rfl, Nat.le_of_ble_eq_true rfl⟩ (Nat.le_of_ble_eq_true rfl) dX8_look_17 rfl rfl rfl ?_
    obtain rfl := Option.some.inj hx
    exact U.retI rfl rfl rfl rfl dX8_look_20
set_option maxRecDepth 100000 in
set_option maxHeartbeats 4000000 in
theorem vX8_watcherKindsLeft_83 {l : Launch} {G : GG} {EX : State → Prop} (hE : EXB G EX) {h : AH} {r : Int32} {k26 : Int32 → Nat → Int32 → Int32 → Int32 → Option (Int32)} {k101 : Int32 → Nat → Int32 → Int32 → Option (Int32)} (hk26 : ∀ (l1 : Int32) (l2 : Nat) (l3 : Int32) (l4 : Int32) (l5 : Int32) (t2 : KD l2 = 5), k26 l1 l2 l3 l4 l5 = some r → U l G EX mi_X8_watcherKindsLeft 3 65 (some (.int r)) h 26 [(1, .int l1), (2, .ref (G.1 + l2)), (3, .int l3), (4, .int l4), (5, .int l5)] [] h) (hk101 : ∀ (l1 : Int32) (l2 : Nat) (l3 : Int32) (l4 : Int32) (t2 : KD l2 = 5), k101 l1 l2 l3 l4 = some r → U l G EX mi_X8_watcherKindsLeft 3 65 (some (.int r)) h 101 [(1, .int l1), (2, .ref (G.1 + l2)), (3, .int l3), (4, .int l4)] [] h) : ∀ (l1 : Int32) (l2 : Nat) (l3 : Int32) (l4 : Int32) (l5 : Int32) (s0 : Int32) (s1 : Int32) (t2 : KD l2 = 5), fX8_watcherKindsLeft_83 h k26 k101 l1 l2 l3 l4 l5 s0 s1 = some r → U l G EX mi_X8_watcherKindsLeft 3 65 (some (.int r)) h 83 [(1, .int l1), (2, .ref (G.1 + l2)), (3, .int l3), (4, .int l4), (5, .int l5)] [.int s1, .int s0] h := by
  intro l1 l2 l3 l4 l5 s0 s1 t2 hx
  unfold fX8_watcherKindsLeft_83 at hx
  refine V.icmp_eq (tgt := 95) hx dX8_watcherKindsLeft_83 (by decide) rfl (fun hx => ?_) (fun hx => ?_)
  · refine U.iinc hx (fun v11 => [(5, .int v11), (1, .int l1), (2, .ref (G.1 + l2)), (3, .int l3), (4, .int l4)]) (j := 4) rfl (by decide) (Nat.le_of_ble_eq_true rfl) (fun _ => rfl) dX8_watcherKindsLeft_95 rfl (fun v11 hx => ?_)
    refine V.goto (q := 26) dX8_watcherKindsLeft_98 (by decide) ?_
    refine V.pick [1, 2, 3, 4, 0] rfl ?_
    exact hk26 l1 l2 l3 l4 v11 t2 hx
  · refine V.iload_n (j := 2) dX8_watcherKindsLeft_86 rfl rfl rfl ?_
    refine V.iconst dX8_watcherKindsLeft_87 rfl ki_1 ?_
    refine V.iload (j := 4) dX8_watcherKindsLeft_88 rfl rfl ?_
    refine V.ishl dX8_watcherKindsLeft_90 rfl ?_
    refine V.iconst dX8_watcherKindsLeft_91 rfl ki_m1 ?_
    refine V.ixor dX8_watcherKindsLeft_92 rfl ?_
    refine V.iand dX8_watcherKindsLeft_93 rfl ?_
    refine U.letI hx (fun v12 hx => ?_)
    refine V.istore_n [(3, .int v12), (1, .int l1), (2, .ref (G.1 + l2)), (4, .int l4), (5, .int l5)] dX8_watcherKindsLeft_94 rfl rfl (Nat.le_of_ble_eq_true rfl) rfl ?_
    refine U.iinc hx (fun v13 => [(5, .int v13), (3, .int v12), (1, .int l1), (2, .ref (G.1 + l2)), (4, .int l4)]) (j := 4) rfl (by decide) (Nat.le_of_ble_eq_true rfl) (fun _ => rfl) dX8_watcherKindsLeft_95 rfl (fun v13 hx => ?_)
    refine V.goto (q := 26) dX8_watcherKindsLeft_98 (by decide) ?_
    refine V.pick [2, 3, 1, 4, 0] rfl ?_
    exact hk26 l1 l2 v12 l4 v13 t2 hx
set_option maxRecDepth 100000 in
set_option maxHeartbeats 4000000 in
theorem vX8_watcherKindsLeft_26 {l : Launch} {G : GG} {EX : State → Prop} (hE : EXB G EX) {h : AH} {r : Int32} {k101 : Int32 → Nat → Int32 → Int32 → Option (Int32)} (hk101 : ∀ (l1 : Int32) (l2 : Nat) (l3 : Int32) (l4 : Int32) (t2 : KD l2 = 5), k101 l1 l2 l3 l4 = some r → U l G EX mi_X8_watcherKindsLeft 3 65 (some (.int r)) h 101 [(1, .int l1), (2, .ref (G.1 + l2)), (3, .int l3), (4, .int l4)] [] h) : ∀ (n : Nat) (l1 : Int32) (l2 : Nat) (l3 : Int32) (l4 : Int32) (l5 : Int32) (t2 : KD l2 = 5), fX8_watcherKindsLeft_26 h k101 n l1 l2 l3 l4 l5 = some r → U l G EX mi_X8_watcherKindsLeft 3 65 (some (.int r)) h 26 [(1, .int l1), (2, .ref (G.1 + l2)), (3, .int l3), (4, .int l4), (5, .int l5)] [] h := by
  intro n
  induction n with
  | zero =>
    intro l1 l2 l3 l4 l5 t2 hx
    have hx : none = some r := hx
    cases hx
  | succ n ih =>
    intro l1 l2 l3 l4 l5 t2 hx
    rw [fX8_watcherKindsLeft_26] at hx
    refine V.aload_n (j := 1) dX8_watcherKindsLeft_26 rfl rfl rfl ?_
    refine V.iload (j := 3) dX8_watcherKindsLeft_27 rfl rfl ?_
    refine V.iconst dX8_watcherKindsLeft_29 rfl ki_0 ?_
    obtain ⟨v2, q1, hx⟩ := ob_some hx
    refine U.callV (As := [.int l4, .int (0 : Int32)]) (rest := []) (st' := [.int v2]) hE.1 (mX6_told hE t2 q1) mic_X6_told rfl t2 (by decide) rfl rfl wq_m_X8_244 wq_i_yX6_told wq_s_yX6_told ⟨Nat.le_of_ble_eq_true rfl, Nat.le_of_ble_eq_true rfl⟩ (Nat.le_of_ble_eq_true rfl) dX8_watcherKindsLeft_30 rfl rfl rfl ?_
    refine V.iload_n (j := 0) dX8_watcherKindsLeft_33 rfl rfl rfl ?_
    refine V.icmp_ne (tgt := 101) hx dX8_watcherKindsLeft_34 (by decide) rfl (fun hx => ?_) (fun hx => ?_)
    · refine V.pick [0, 1, 2, 3] rfl ?_
      exact hk101 l1 l2 l3 l4 t2 hx
    · refine V.iload (j := 4) dX8_watcherKindsLeft_37 rfl rfl ?_
      refine V.bipush dX8_watcherKindsLeft_39 rfl kb_6 ?_
      refine V.icmp_ge (tgt := 101) hx dX8_watcherKindsLeft_41 (by decide) rfl (fun hx => ?_) (fun hx => ?_)
      · refine V.pick [0, 1, 2, 3] rfl ?_
        exact hk101 l1 l2 l3 l4 t2 hx
      · refine V.iload (j := 4) dX8_watcherKindsLeft_44 rfl rfl ?_
        refine V.aload_n (j := 1) dX8_watcherKindsLeft_46 rfl rfl rfl ?_
        refine V.iload (j := 3) dX8_watcherKindsLeft_47 rfl rfl ?_
        refine V.iconst dX8_watcherKindsLeft_49 rfl ki_1 ?_
        obtain ⟨v4, q3, hx⟩ := ob_some hx
        refine U.callV (As := [.int l4, .int (1 : Int32)]) (rest := [.int l5]) (st' := [.int v4, .int l5]) hE.1 (mX6_told hE t2 q3) mic_X6_told rfl t2 (by decide) rfl rfl wq_m_X8_244 wq_i_yX6_told wq_s_yX6_told ⟨Nat.le_of_ble_eq_true rfl, Nat.le_of_ble_eq_true rfl⟩ (Nat.le_of_ble_eq_true rfl) dX8_watcherKindsLeft_50 rfl rfl rfl ?_
        refine V.aload_n (j := 1) dX8_watcherKindsLeft_53 rfl rfl rfl ?_
        refine V.iload (j := 3) dX8_watcherKindsLeft_54 rfl rfl ?_
        refine V.iconst dX8_watcherKindsLeft_56 rfl ki_2 ?_
        obtain ⟨v6, q5, hx⟩ := ob_some hx
        refine U.callV (As := [.int l4, .int (2 : Int32)]) (rest := [.int v4, .int l5]) (st' := [.int v6, .int v4, .int l5]) hE.1 (mX6_told hE t2 q5) mic_X6_told rfl t2 (by decide) rfl rfl wq_m_X8_244 wq_i_yX6_told wq_s_yX6_told ⟨Nat.le_of_ble_eq_true rfl, Nat.le_of_ble_eq_true rfl⟩ (Nat.le_of_ble_eq_true rfl) dX8_watcherKindsLeft_57 rfl rfl rfl ?_
        obtain ⟨v8, q7, hx⟩ := ob_some hx
        refine U.callS (As := [.int l5, .int v4, .int v6]) (rest := []) (st' := [.int v8]) hE.1 (mX1_seesBy hE q7) mic_X1_seesBy rfl wq_m_X8_339 wq_t_yX1_seesBy ⟨Nat.le_of_ble_eq_true rfl, Nat.le_of_ble_eq_true rfl⟩ (Nat.le_of_ble_eq_true rfl) dX8_watcherKindsLeft_60 rfl rfl rfl ?_
        refine V.istore [(6, .int v8), (1, .int l1), (2, .ref (G.1 + l2)), (3, .int l3), (4, .int l4), (5, .int l5)] dX8_watcherKindsLeft_63 rfl (Nat.le_of_ble_eq_true rfl) rfl ?_
        refine V.iload (j := 0) dX8_watcherKindsLeft_65 rfl rfl ?_
        refine V.aload_n (j := 2) dX8_watcherKindsLeft_67 rfl rfl rfl ?_
        refine V.iload (j := 4) dX8_watcherKindsLeft_68 rfl rfl ?_
        refine V.iconst dX8_watcherKindsLeft_70 rfl ki_3 ?_
        obtain ⟨v10, q9, hx⟩ := ob_some hx
        refine U.callV (As := [.int l4, .int (3 : Int32)]) (rest := [.int v8]) (st' := [.int v10, .int v8]) hE.1 (mX6_told hE t2 q9) mic_X6_told rfl t2 (by decide) rfl rfl wq_m_X8_244 wq_i_yX6_told wq_s_yX6_told ⟨Nat.le_of_ble_eq_true rfl, Nat.le_of_ble_eq_true rfl⟩ (Nat.le_of_ble_eq_true rfl) dX8_watcherKindsLeft_71 rfl rfl rfl ?_
        refine V.iconst dX8_watcherKindsLeft_74 rfl ki_1 ?_
        refine V.icmp_ne (tgt := 82) hx dX8_watcherKindsLeft_75 (by decide) rfl (fun hx => ?_) (fun hx => ?_)
        · refine V.iconst dX8_watcherKindsLeft_82 rfl ki_0 ?_
          refine V.pick [1, 2, 3, 4, 5] rfl ?_
          exact vX8_watcherKindsLeft_83 hE (ih) hk101 l1 l2 l3 l4 l5 v8 (0 : Int32) t2 hx
        · refine V.iconst dX8_watcherKindsLeft_78 rfl ki_1 ?_
          refine V.goto (q := 83) dX8_watcherKindsLeft_79 (by decide) ?_
          refine V.pick [1, 2, 3, 4, 5] rfl ?_
          exact vX8_watcherKindsLeft_83 hE (ih) hk101 l1 l2 l3 l4 l5 v8 (1 : Int32) t2 hx
set_option maxRecDepth 100000 in
set_option maxHeartbeats 4000000 in
theorem vX8_watcherKindsLeft_14 {l : Launch} {G : GG} {EX : State → Prop} (hE : EXB G EX) {h : AH} {r : Int32} : ∀ (n : Nat) (l1 : Int32) (l2 : Nat) (l3 : Int32) (l4 : Int32) (t2 : KD l2 = 5), fX8_watcherKindsLeft_14 h n l1 l2 l3 l4 = some r → U l G EX mi_X8_watcherKindsLeft 3 65 (some (.int r)) h 14 [(1, .int l1), (2, .ref (G.1 + l2)), (3, .int l3), (4, .int l4)] [] h := by
  intro n
  induction n with
  | zero =>
    intro l1 l2 l3 l4 t2 hx
    have hx : none = some r := hx
    cases hx
  | succ n ih =>
    intro l1 l2 l3 l4 t2 hx
    rw [fX8_watcherKindsLeft_14] at hx
    refine V.iload (j := 3) dX8_watcherKindsLeft_14 rfl rfl ?_
    refine V.aload_n (j := 1) dX8_watcherKindsLeft_16 rfl rfl rfl ?_
    refine U.getI fl_X8_236 t2 dX8_watcherKindsLeft_17 rfl ?_
    refine V.icmp_ge (tgt := 107) hx dX8_watcherKindsLeft_20 (by decide) rfl (fun hx => ?_) (fun hx => ?_)
    · refine V.iload_n (j := 2) dX8_watcherKindsLeft_107 rfl rfl rfl ?_
      obtain rfl := Option.some.inj hx
      exact U.retI rfl rfl rfl rfl dX8_watcherKindsLeft_108
    · refine V.iconst dX8_watcherKindsLeft_23 rfl ki_0 ?_
      refine V.istore [(5, .int (0 : Int32)), (1, .int l1), (2, .ref (G.1 + l2)), (3, .int l3), (4, .int l4)] dX8_watcherKindsLeft_24 rfl (Nat.le_of_ble_eq_true rfl) rfl ?_
      refine V.pick [1, 2, 3, 4, 0] rfl ?_
      refine vX8_watcherKindsLeft_26 hE (fun w14 w15 w16 w17 t18 hx => ?_) FU l1 l2 l3 l4 (0 : Int32) t2 hx
      · refine U.iinc hx (fun v19 => [(4, .int v19), (1, .int w14), (2, .ref (G.1 + w15)), (3, .int w16)]) (j := 3) rfl (by decide) (Nat.le_of_ble_eq_true rfl) (fun _ => rfl) dX8_watcherKindsLeft_101 rfl (fun v19 hx => ?_)
        refine V.goto (q := 14) dX8_watcherKindsLeft_104 (by decide) ?_
        refine V.pick [1, 2, 3, 0] rfl ?_
        exact ih w14 w15 w16 v19 t18 hx
set_option maxRecDepth 100000 in
set_option maxHeartbeats 4000000 in
theorem mX8_watcherKindsLeft {l : Launch} {G : GG} {EX : State → Prop} (hE : EXB G EX) {th : Nat} {a1 : Int32} {h : AH} (t0 : KD th = 7) {r : Int32} (hx : fX8_watcherKindsLeft th a1 h = some r) : MetU l G EX mi_X8_watcherKindsLeft 3 65 [.ref (G.1 + th), .int a1] h (some (.int r)) h := by
  refine MetU.of mic_X8_watcherKindsLeft.1 (Nat.le_of_ble_eq_true rfl) ?_
  refine show U l G EX mi_X8_watcherKindsLeft 3 65 (some (.int r)) h 0 [(0, .ref (G.1 + th)), (1, .int a1)] [] h from ?_
  unfold fX8_watcherKindsLeft at hx
  refine V.aload_n (j := 0) dX8_watcherKindsLeft_0 rfl rfl rfl ?_
  refine U.getP fl_X8_10 t0 dX8_watcherKindsLeft_1 rfl ?_
  refine U.getP fl_X8_256 (ty_X8_0 t0) dX8_watcherKindsLeft_4 rfl ?_
  refine V.astore_n [(2, .ref (G.1 + (PC (PC th 0) 4))), (0, .ref (G.1 + th)), (1, .int a1)] dX8_watcherKindsLeft_7 rfl rfl (Nat.le_of_ble_eq_true rfl) rfl ?_
  refine V.bipush dX8_watcherKindsLeft_8 rfl kb_63 ?_
  refine V.istore_n [(3, .int (63 : Int32)), (2, .ref (G.1 + (PC (PC th 0) 4))), (0, .ref (G.1 + th)), (1, .int a1)] dX8_watcherKindsLeft_10 rfl rfl (Nat.le_of_ble_eq_true rfl) rfl ?_
  refine V.iconst dX8_watcherKindsLeft_11 rfl ki_0 ?_
  refine V.istore [(4, .int (0 : Int32)), (3, .int (63 : Int32)), (2, .ref (G.1 + (PC (PC th 0) 4))), (0, .ref (G.1 + th)), (1, .int a1)] dX8_watcherKindsLeft_12 rfl (Nat.le_of_ble_eq_true rfl) rfl ?_
  refine V.pick [4, 2, 1, 0] rfl ?_
  exact vX8_watcherKindsLeft_14 hE FU a1 (PC (PC th 0) 4) (63 : Int32) (0 : Int32) (ty_X0_4 (ty_X8_0 t0)) hx
set_option maxRecDepth 100000 in
set_option maxHeartbeats 4000000 in
theorem mX8_what {l : Launch} {G : GG} {EX : State → Prop} (hE : EXB G EX) {th : Nat} {a1 : Int32} {h : AH} (t0 : KD th = 7) {r : Int32 × AH} (hx : fX8_what th a1 h = some r) : MetU l G EX mi_X8_what 4 91 [.ref (G.1 + th), .int a1] h (some (.int r.1)) r.2 := by
  refine MetU.of mic_X8_what.1 (Nat.le_of_ble_eq_true rfl) ?_
  refine show U l G EX mi_X8_what 4 91 (some (.int r.1)) r.2 0 [(0, .ref (G.1 + th)), (1, .int a1)] [] h from ?_
  unfold fX8_what at hx
  refine V.aload_n (j := 0) dX8_what_0 rfl rfl rfl ?_
  refine U.getP fl_X8_10 t0 dX8_what_1 rfl ?_
  refine U.getP fl_X8_60 (ty_X8_0 t0) dX8_what_4 rfl ?_
  refine V.iload_n (j := 1) dX8_what_7 rfl rfl rfl ?_
  obtain ⟨v2, q1, hx⟩ := ob_some hx
  refine U.callV (As := [.int a1]) (rest := []) (st' := [.int v2]) hE.1 (mX2_hasWatcher hE (ty_X0_0 (ty_X8_0 t0)) q1) mic_X2_hasWatcher rfl (ty_X0_0 (ty_X8_0 t0)) (by decide) rfl rfl wq_m_X8_145 wq_i_yX2_hasWatcher wq_s_yX2_hasWatcher ⟨Nat.le_of_ble_eq_true rfl, Nat.le_of_ble_eq_true rfl⟩ (Nat.le_of_ble_eq_true rfl) dX8_what_8 rfl rfl rfl ?_
  refine V.if_eq (tgt := 22) hx dX8_what_11 (by decide) rfl (fun hx => ?_) (fun hx => ?_)
  · refine V.aload_n (j := 0) dX8_what_22 rfl rfl rfl ?_
    refine V.bipush dX8_what_23 rfl kb_m2 ?_
    obtain ⟨v5, h4, q3, hx⟩ := ob2_some hx
    refine U.callV (As := [.int (-2 : Int32)]) (rest := []) (st' := [.int v5]) hE.1 (mX8_refuse hE t0 q3) mic_X8_refuse rfl t0 (by decide) rfl rfl wq_m_X8_80 wq_i_yX8_refuse wq_s_yX8_refuse ⟨Nat.le_of_ble_eq_true rfl, Nat.le_of_ble_eq_true rfl⟩ (Nat.le_of_ble_eq_true rfl) dX8_what_25 rfl rfl rfl ?_
    obtain rfl := Option.some.inj hx
    exact U.retI rfl rfl rfl rfl dX8_what_28
  · refine V.aload_n (j := 0) dX8_what_14 rfl rfl rfl ?_
    refine V.iload_n (j := 1) dX8_what_15 rfl rfl rfl ?_
    obtain ⟨v7, q6, hx⟩ := ob_some hx
    refine U.callV (As := [.int a1]) (rest := []) (st' := [.int v7]) hE.1 (mX8_watcherKindsLeft hE t0 q6) mic_X8_watcherKindsLeft rfl t0 (by decide) rfl rfl wq_m_X8_269 wq_i_yX8_watcherKindsLeft wq_s_yX8_watcherKindsLeft ⟨Nat.le_of_ble_eq_true rfl, Nat.le_of_ble_eq_true rfl⟩ (Nat.le_of_ble_eq_true rfl) dX8_what_16 rfl rfl rfl ?_
    refine V.goto (q := 28) dX8_what_19 (by decide) ?_
    obtain rfl := Option.some.inj hx
    exact U.retI rfl rfl rfl rfl dX8_what_28
set_option maxRecDepth 100000 in
set_option maxHeartbeats 4000000 in
theorem vX8_greaterPart_41 {l : Launch} {G : GG} {EX : State → Prop} (hE : EXB G EX) {h : AH} {r : Int32} : ∀ (l0 : Int32) (l3 : Int32), fX8_greaterPart_41 l0 l3 = some r → U l G EX mi_X8_greaterPart 3 65 (some (.int r)) h 41 [(0, .int l0), (3, .int l3)] [] h := by
  intro l0 l3 hx
  unfold fX8_greaterPart_41 at hx
  refine V.iload_n (j := 1) dX8_greaterPart_41 rfl rfl rfl ?_
  refine V.iload_n (j := 0) dX8_greaterPart_42 rfl rfl rfl ?_
  obtain ⟨v2, q1, hx⟩ := ob_some hx
  refine U.callS (As := [.int l0]) (rest := [.int l3]) (st' := [.int v2, .int l3]) hE.1 (mJ6_bitCount_0f7a4 hE q1) mic_J6_bitCount_0f7a4 rfl wq_m_X8_206 wq_t_yJ6_bitCount_0f7a4 ⟨Nat.le_of_ble_eq_true rfl, Nat.le_of_ble_eq_true rfl⟩ (Nat.le_of_ble_eq_true rfl) dX8_greaterPart_43 rfl rfl rfl ?_
  refine V.iload_n (j := 1) dX8_greaterPart_46 rfl rfl rfl ?_
  refine V.isub dX8_greaterPart_47 rfl ?_
  refine U.mmax wq_m_X8_345 (Nat.le_of_ble_eq_true rfl) (Nat.le_of_ble_eq_true rfl) dX8_greaterPart_48 rfl ?_
  obtain rfl := Option.some.inj hx
  exact U.retI rfl rfl rfl rfl dX8_greaterPart_51
set_option maxRecDepth 100000 in
set_option maxHeartbeats 4000000 in
theorem vX8_greaterPart_5 {l : Launch} {G : GG} {EX : State → Prop} (hE : EXB G EX) {h : AH} {r : Int32} : ∀ (n : Nat) (l0 : Int32) (l1 : Int32) (l2 : Int32) (l3 : Int32) (l4 : Int32), fX8_greaterPart_5 n l0 l1 l2 l3 l4 = some r → U l G EX mi_X8_greaterPart 3 65 (some (.int r)) h 5 [(0, .int l0), (1, .int l1), (2, .int l2), (3, .int l3), (4, .int l4)] [] h := by
  intro n
  induction n with
  | zero =>
    intro l0 l1 l2 l3 l4 hx
    have hx : none = some r := hx
    cases hx
  | succ n ih =>
    intro l0 l1 l2 l3 l4 hx
    rw [fX8_greaterPart_5] at hx
    refine V.iload (j := 4) dX8_greaterPart_5 rfl rfl ?_
    refine V.bipush dX8_greaterPart_7 rfl kb_6 ?_
    refine V.icmp_ge (tgt := 41) hx dX8_greaterPart_9 (by decide) rfl (fun hx => ?_) (fun hx => ?_)
    · refine V.pick [0, 3] rfl ?_
      exact vX8_greaterPart_41 hE l0 l3 hx
    · refine V.iload_n (j := 0) dX8_greaterPart_12 rfl rfl rfl ?_
      refine V.iload (j := 4) dX8_greaterPart_13 rfl rfl ?_
      refine V.ishr dX8_greaterPart_15 rfl ?_
      refine V.iconst dX8_greaterPart_16 rfl ki_1 ?_
      refine V.iand dX8_greaterPart_17 rfl ?_
      refine V.iconst dX8_greaterPart_18 rfl ki_1 ?_
      refine V.icmp_ne (tgt := 35) hx dX8_greaterPart_19 (by decide) rfl (fun hx => ?_) (fun hx => ?_)
      · refine U.iinc hx (fun v3 => [(4, .int v3), (0, .int l0), (1, .int l1), (2, .int l2), (3, .int l3)]) (j := 4) rfl (by decide) (Nat.le_of_ble_eq_true rfl) (fun _ => rfl) dX8_greaterPart_35 rfl (fun v3 hx => ?_)
        refine V.goto (q := 5) dX8_greaterPart_38 (by decide) ?_
        refine V.pick [1, 2, 3, 4, 0] rfl ?_
        exact ih l0 l1 l2 l3 v3 hx
      · refine V.iload (j := 4) dX8_greaterPart_22 rfl rfl ?_
        refine V.iload_n (j := 1) dX8_greaterPart_24 rfl rfl rfl ?_
        refine V.iload_n (j := 2) dX8_greaterPart_25 rfl rfl rfl ?_
        obtain ⟨v5, q4, hx⟩ := ob_some hx
        refine U.callS (As := [.int l4, .int l1, .int l2]) (rest := []) (st' := [.int v5]) hE.1 (mX1_seesBy hE q4) mic_X1_seesBy rfl wq_m_X8_339 wq_t_yX1_seesBy ⟨Nat.le_of_ble_eq_true rfl, Nat.le_of_ble_eq_true rfl⟩ (Nat.le_of_ble_eq_true rfl) dX8_greaterPart_26 rfl rfl rfl ?_
        refine V.if_eq (tgt := 35) hx dX8_greaterPart_29 (by decide) rfl (fun hx => ?_) (fun hx => ?_)
        · refine U.iinc hx (fun v6 => [(4, .int v6), (0, .int l0), (1, .int l1), (2, .int l2), (3, .int l3)]) (j := 4) rfl (by decide) (Nat.le_of_ble_eq_true rfl) (fun _ => rfl) dX8_greaterPart_35 rfl (fun v6 hx => ?_)
          refine V.goto (q := 5) dX8_greaterPart_38 (by decide) ?_
          refine V.pick [1, 2, 3, 4, 0] rfl ?_
          exact ih l0 l1 l2 l3 v6 hx
        · refine U.iinc hx (fun v7 => [(3, .int v7), (0, .int l0), (1, .int l1), (2, .int l2), (4, .int l4)]) (j := 3) rfl (by decide) (Nat.le_of_ble_eq_true rfl) (fun _ => rfl) dX8_greaterPart_32 rfl (fun v7 hx => ?_)
          refine U.iinc hx (fun v8 => [(4, .int v8), (3, .int v7), (0, .int l0), (1, .int l1), (2, .int l2)]) (j := 4) rfl (by decide) (Nat.le_of_ble_eq_true rfl) (fun _ => rfl) dX8_greaterPart_35 rfl (fun v8 hx => ?_)
          refine V.goto (q := 5) dX8_greaterPart_38 (by decide) ?_
          refine V.pick [2, 3, 4, 1, 0] rfl ?_
          exact ih l0 l1 l2 v7 v8 hx
set_option maxRecDepth 100000 in
set_option maxHeartbeats 4000000 in
theorem mX8_greaterPart {l : Launch} {G : GG} {EX : State → Prop} (hE : EXB G EX) {a0 : Int32} {a1 : Int32} {a2 : Int32} {h : AH} {r : Int32} (hx : fX8_greaterPart a0 a1 a2 = some r) : MetU l G EX mi_X8_greaterPart 3 65 [.int a0, .int a1, .int a2] h (some (.int r)) h := by
  refine MetU.of mic_X8_greaterPart.1 (Nat.le_of_ble_eq_true rfl) ?_
  refine show U l G EX mi_X8_greaterPart 3 65 (some (.int r)) h 0 [(0, .int a0), (1, .int a1), (2, .int a2)] [] h from ?_
  unfold fX8_greaterPart at hx
  refine V.iconst dX8_greaterPart_0 rfl ki_0 ?_
  refine V.istore_n [(3, .int (0 : Int32)), (0, .int a0), (1, .int a1), (2, .int a2)] dX8_greaterPart_1 rfl rfl (Nat.le_of_ble_eq_true rfl) rfl ?_
  refine V.iconst dX8_greaterPart_2 rfl ki_0 ?_
  refine V.istore [(4, .int (0 : Int32)), (3, .int (0 : Int32)), (0, .int a0), (1, .int a1), (2, .int a2)] dX8_greaterPart_3 rfl (Nat.le_of_ble_eq_true rfl) rfl ?_
  refine V.pick [2, 3, 4, 1, 0] rfl ?_
  exact vX8_greaterPart_5 hE FU a0 a1 a2 (0 : Int32) (0 : Int32) hx
set_option maxRecDepth 100000 in
set_option maxHeartbeats 4000000 in
theorem vX8_tries_50 {l : Launch} {G : GG} {EX : State → Prop} (hE : EXB G EX) {r : Int32 × AH} {k93 : Int32 → Int32 → Int32 → Int32 → AH → Option (Int32 × AH)} (hk93 : ∀ (l2 : Int32) (l3 : Int32) (l4 : Int32) (l5 : Int32) (h : AH), k93 l2 l3 l4 l5 h = some r → U l G EX mi_X8_tries 4 91 (some (.int r.1)) r.2 93 [(2, .int l2), (3, .int l3), (4, .int l4), (5, .int l5)] [] h) : ∀ (n : Nat) (l2 : Int32) (l3 : Int32) (l4 : Int32) (l5 : Int32) (l6 : Int32) (h : AH), fX8_tries_50 k93 n l2 l3 l4 l5 l6 h = some r → U l G EX mi_X8_tries 4 91 (some (.int r.1)) r.2 50 [(2, .int l2), (3, .int l3), (4, .int l4), (5, .int l5), (6, .int l6)] [] h := by
  intro n
  induction n with
  | zero =>
    intro l2 l3 l4 l5 l6 h hx
    have hx : none = some r := hx
    cases hx
  | succ n ih =>
    intro l2 l3 l4 l5 l6 h hx
    rw [fX8_tries_50] at hx
    refine V.iload (j := 4) dX8_tries_50 rfl rfl ?_
    refine V.bipush dX8_tries_52 rfl kb_40 ?_
    refine V.icmp_gt (tgt := 93) hx dX8_tries_54 (by decide) rfl (fun hx => ?_) (fun hx => ?_)
    · refine V.pick [0, 1, 2, 3] rfl ?_
      exact hk93 l2 l3 l4 l5 h hx
    · refine V.iload_n (j := 0) dX8_tries_57 rfl rfl rfl ?_
      refine V.iload (j := 3) dX8_tries_58 rfl rfl ?_
      refine V.iload (j := 4) dX8_tries_60 rfl rfl ?_
      obtain ⟨v6, q5, hx⟩ := ob_some hx
      refine U.callS (As := [.int l2, .int l5, .int l6]) (rest := []) (st' := [.int v6]) hE.1 (mX8_greaterPart hE q5) mic_X8_greaterPart rfl wq_m_X8_272 wq_t_yX8_greaterPart ⟨Nat.le_of_ble_eq_true rfl, Nat.le_of_ble_eq_true rfl⟩ (Nat.le_of_ble_eq_true rfl) dX8_tries_62 rfl rfl rfl ?_
      refine V.istore [(7, .int v6), (2, .int l2), (3, .int l3), (4, .int l4), (5, .int l5), (6, .int l6)] dX8_tries_65 rfl (Nat.le_of_ble_eq_true rfl) rfl ?_
      refine V.iload (j := 0) dX8_tries_67 rfl rfl ?_
      refine V.iload (j := 3) dX8_tries_69 rfl rfl ?_
      refine V.icmp_ge (tgt := 87) hx dX8_tries_71 (by decide) rfl (fun hx => ?_) (fun hx => ?_)
      · refine U.iinc hx (fun v7 => [(6, .int v7), (7, .int v6), (2, .int l2), (3, .int l3), (4, .int l4), (5, .int l5)]) (j := 5) rfl (by decide) (Nat.le_of_ble_eq_true rfl) (fun _ => rfl) dX8_tries_87 rfl (fun v7 hx => ?_)
        refine V.goto (q := 50) dX8_tries_90 (by decide) ?_
        refine V.pick [2, 3, 4, 5, 0] rfl ?_
        exact ih l2 l3 l4 l5 v7 h hx
      · refine V.iload (j := 0) dX8_tries_74 rfl rfl ?_
        refine V.istore [(4, .int v6), (7, .int v6), (2, .int l2), (3, .int l3), (5, .int l5), (6, .int l6)] dX8_tries_76 rfl (Nat.le_of_ble_eq_true rfl) rfl ?_
        refine V.bipush dX8_tries_78 rfl kb_100 ?_
        refine V.iload (j := 4) dX8_tries_80 rfl rfl ?_
        refine V.imul dX8_tries_82 rfl ?_
        refine V.iload (j := 5) dX8_tries_83 rfl rfl ?_
        refine V.iadd dX8_tries_85 rfl ?_
        refine U.letI hx (fun v8 hx => ?_)
        refine V.istore_n [(3, .int v8), (4, .int v6), (7, .int v6), (2, .int l2), (5, .int l5), (6, .int l6)] dX8_tries_86 rfl rfl (Nat.le_of_ble_eq_true rfl) rfl ?_
        refine U.iinc hx (fun v9 => [(6, .int v9), (3, .int v8), (4, .int v6), (7, .int v6), (2, .int l2), (5, .int l5)]) (j := 5) rfl (by decide) (Nat.le_of_ble_eq_true rfl) (fun _ => rfl) dX8_tries_87 rfl (fun v9 hx => ?_)
        refine V.goto (q := 50) dX8_tries_90 (by decide) ?_
        refine V.pick [4, 1, 2, 5, 0] rfl ?_
        exact ih l2 v8 v6 l5 v9 h hx
set_option maxRecDepth 100000 in
set_option maxHeartbeats 4000000 in
theorem vX8_tries_36 {l : Launch} {G : GG} {EX : State → Prop} (hE : EXB G EX) {r : Int32 × AH} : ∀ (n : Nat) (l2 : Int32) (l3 : Int32) (l4 : Int32) (l5 : Int32) (h : AH), fX8_tries_36 n l2 l3 l4 l5 h = some r → U l G EX mi_X8_tries 4 91 (some (.int r.1)) r.2 36 [(2, .int l2), (3, .int l3), (4, .int l4), (5, .int l5)] [] h := by
  intro n
  induction n with
  | zero =>
    intro l2 l3 l4 l5 h hx
    have hx : none = some r := hx
    cases hx
  | succ n ih =>
    intro l2 l3 l4 l5 h hx
    rw [fX8_tries_36] at hx
    refine V.iload_n (j := 0) dX8_tries_36 rfl rfl rfl ?_
    refine V.if_eq (tgt := 99) hx dX8_tries_37 (by decide) rfl (fun hx => ?_) (fun hx => ?_)
    · refine V.iload_n (j := 1) dX8_tries_99 rfl rfl rfl ?_
      obtain rfl := Option.some.inj hx
      exact U.retI rfl rfl rfl rfl dX8_tries_100
    · refine V.iload (j := 3) dX8_tries_40 rfl rfl ?_
      refine V.bipush dX8_tries_42 rfl kb_9 ?_
      refine V.icmp_gt (tgt := 99) hx dX8_tries_44 (by decide) rfl (fun hx => ?_) (fun hx => ?_)
      · refine V.iload_n (j := 1) dX8_tries_99 rfl rfl rfl ?_
        obtain rfl := Option.some.inj hx
        exact U.retI rfl rfl rfl rfl dX8_tries_100
      · refine V.iconst dX8_tries_47 rfl ki_0 ?_
        refine V.istore [(6, .int (0 : Int32)), (2, .int l2), (3, .int l3), (4, .int l4), (5, .int l5)] dX8_tries_48 rfl (Nat.le_of_ble_eq_true rfl) rfl ?_
        refine V.pick [1, 2, 3, 4, 0] rfl ?_
        refine vX8_tries_50 hE (fun w10 w11 w12 w13 h14 hx => ?_) FU l2 l3 l4 l5 (0 : Int32) h hx
        · refine U.iinc hx (fun v15 => [(5, .int v15), (2, .int w10), (3, .int w11), (4, .int w12)]) (j := 3) rfl (by decide) (Nat.le_of_ble_eq_true rfl) (fun _ => rfl) dX8_tries_93 rfl (fun v15 hx => ?_)
          refine V.goto (q := 36) dX8_tries_96 (by decide) ?_
          refine V.pick [1, 2, 3, 0] rfl ?_
          exact ih w10 w11 w12 v15 h14 hx
set_option maxRecDepth 100000 in
set_option maxHeartbeats 4000000 in
theorem mX8_tries {l : Launch} {G : GG} {EX : State → Prop} (hE : EXB G EX) {th : Nat} {a1 : Int32} {h : AH} (t0 : KD th = 7) {r : Int32 × AH} (hx : fX8_tries th a1 h = some r) : MetU l G EX mi_X8_tries 4 91 [.ref (G.1 + th), .int a1] h (some (.int r.1)) r.2 := by
  refine MetU.of mic_X8_tries.1 (Nat.le_of_ble_eq_true rfl) ?_
  refine show U l G EX mi_X8_tries 4 91 (some (.int r.1)) r.2 0 [(0, .ref (G.1 + th)), (1, .int a1)] [] h from ?_
  unfold fX8_tries at hx
  refine V.aload_n (j := 0) dX8_tries_0 rfl rfl rfl ?_
  refine U.getP fl_X8_10 t0 dX8_tries_1 rfl ?_
  refine U.getP fl_X8_60 (ty_X8_0 t0) dX8_tries_4 rfl ?_
  refine V.iload_n (j := 1) dX8_tries_7 rfl rfl rfl ?_
  obtain ⟨v2, q1, hx⟩ := ob_some hx
  refine U.callV (As := [.int a1]) (rest := []) (st' := [.int v2]) hE.1 (mX2_hasWatcher hE (ty_X0_0 (ty_X8_0 t0)) q1) mic_X2_hasWatcher rfl (ty_X0_0 (ty_X8_0 t0)) (by decide) rfl rfl wq_m_X8_145 wq_i_yX2_hasWatcher wq_s_yX2_hasWatcher ⟨Nat.le_of_ble_eq_true rfl, Nat.le_of_ble_eq_true rfl⟩ (Nat.le_of_ble_eq_true rfl) dX8_tries_8 rfl rfl rfl ?_
  refine V.if_ne (tgt := 21) hx dX8_tries_11 (by decide) rfl (fun hx => ?_) (fun hx => ?_)
  · refine V.aload_n (j := 0) dX8_tries_21 rfl rfl rfl ?_
    refine V.iload_n (j := 1) dX8_tries_22 rfl rfl rfl ?_
    obtain ⟨v4, q3, hx⟩ := ob_some hx
    refine U.callV (As := [.int a1]) (rest := []) (st' := [.int v4]) hE.1 (mX8_watcherKindsLeft hE t0 q3) mic_X8_watcherKindsLeft rfl t0 (by decide) rfl rfl wq_m_X8_269 wq_i_yX8_watcherKindsLeft wq_s_yX8_watcherKindsLeft ⟨Nat.le_of_ble_eq_true rfl, Nat.le_of_ble_eq_true rfl⟩ (Nat.le_of_ble_eq_true rfl) dX8_tries_23 rfl rfl rfl ?_
    refine V.istore_n [(2, .int v4), (0, .ref (G.1 + th)), (1, .int a1)] dX8_tries_26 rfl rfl (Nat.le_of_ble_eq_true rfl) rfl ?_
    refine V.iconst dX8_tries_27 rfl ki_m1 ?_
    refine V.istore_n [(3, .int (-1 : Int32)), (2, .int v4), (0, .ref (G.1 + th)), (1, .int a1)] dX8_tries_28 rfl rfl (Nat.le_of_ble_eq_true rfl) rfl ?_
    refine V.bipush dX8_tries_29 rfl kb_7 ?_
    refine V.istore [(4, .int (7 : Int32)), (3, .int (-1 : Int32)), (2, .int v4), (0, .ref (G.1 + th)), (1, .int a1)] dX8_tries_31 rfl (Nat.le_of_ble_eq_true rfl) rfl ?_
    refine V.iconst dX8_tries_33 rfl ki_0 ?_
    refine V.istore [(5, .int (0 : Int32)), (4, .int (7 : Int32)), (3, .int (-1 : Int32)), (2, .int v4), (0, .ref (G.1 + th)), (1, .int a1)] dX8_tries_34 rfl (Nat.le_of_ble_eq_true rfl) rfl ?_
    refine V.pick [3, 2, 1, 0] rfl ?_
    exact vX8_tries_36 hE FU v4 (-1 : Int32) (7 : Int32) (0 : Int32) h hx
  · refine V.aload_n (j := 0) dX8_tries_14 rfl rfl rfl ?_
    refine V.bipush dX8_tries_15 rfl kb_m2 ?_
    obtain ⟨v18, h17, q16, hx⟩ := ob2_some hx
    refine U.callV (As := [.int (-2 : Int32)]) (rest := []) (st' := [.int v18]) hE.1 (mX8_refuse hE t0 q16) mic_X8_refuse rfl t0 (by decide) rfl rfl wq_m_X8_80 wq_i_yX8_refuse wq_s_yX8_refuse ⟨Nat.le_of_ble_eq_true rfl, Nat.le_of_ble_eq_true rfl⟩ (Nat.le_of_ble_eq_true rfl) dX8_tries_17 rfl rfl rfl ?_
    obtain rfl := Option.some.inj hx
    exact U.retI rfl rfl rfl rfl dX8_tries_20
set_option maxRecDepth 100000 in
set_option maxHeartbeats 4000000 in
theorem mX8_seesStanding {l : Launch} {G : GG} {EX : State → Prop} (hE : EXB G EX) {th : Nat} {a1 : Int32} {a2 : Int32} {a3 : Int32} {h : AH} (t0 : KD th = 7) {r : Int32} (hx : fX8_seesStanding th a1 a2 a3 h = some r) : MetU l G EX mi_X8_seesStanding 3 74 [.ref (G.1 + th), .int a1, .int a2, .int a3] h (some (.int r)) h := by
  refine MetU.of mic_X8_seesStanding.1 (Nat.le_of_ble_eq_true rfl) ?_
  refine show U l G EX mi_X8_seesStanding 3 74 (some (.int r)) h 0 [(0, .ref (G.1 + th)), (1, .int a1), (2, .int a2), (3, .int a3)] [] h from ?_
  unfold fX8_seesStanding at hx
  refine V.aload_n (j := 0) dX8_seesStanding_0 rfl rfl rfl ?_
  refine U.getP fl_X8_10 t0 dX8_seesStanding_1 rfl ?_
  refine U.getP fl_X8_60 (ty_X8_0 t0) dX8_seesStanding_4 rfl ?_
  refine V.aload_n (j := 0) dX8_seesStanding_7 rfl rfl rfl ?_
  refine U.getP fl_X8_10 t0 dX8_seesStanding_8 rfl ?_
  refine U.getP fl_X8_60 (ty_X8_0 t0) dX8_seesStanding_11 rfl ?_
  obtain ⟨v2, q1, hx⟩ := ob_some hx
  refine U.callV (As := []) (rest := [.ref (G.1 + (PC (PC th 0) 0))]) (st' := [.int v2, .ref (G.1 + (PC (PC th 0) 0))]) hE.1 (mX2_onBits hE (ty_X0_0 (ty_X8_0 t0)) q1) mic_X2_onBits rfl (ty_X0_0 (ty_X8_0 t0)) (by decide) rfl rfl wq_m_X8_166 wq_i_yX2_onBits wq_s_yX2_onBits ⟨Nat.le_of_ble_eq_true rfl, Nat.le_of_ble_eq_true rfl⟩ (Nat.le_of_ble_eq_true rfl) dX8_seesStanding_14 rfl rfl rfl ?_
  refine V.iload_n (j := 2) dX8_seesStanding_17 rfl rfl rfl ?_
  refine V.aload_n (j := 0) dX8_seesStanding_18 rfl rfl rfl ?_
  refine U.getP fl_X8_10 t0 dX8_seesStanding_19 rfl ?_
  refine U.getP fl_X8_60 (ty_X8_0 t0) dX8_seesStanding_22 rfl ?_
  refine V.iconst dX8_seesStanding_25 rfl ki_0 ?_
  obtain ⟨v4, q3, hx⟩ := ob_some hx
  refine U.callV (As := [.int (0 : Int32)]) (rest := [.int a2, .int v2, .ref (G.1 + (PC (PC th 0) 0))]) (st' := [.int v4, .int a2, .int v2, .ref (G.1 + (PC (PC th 0) 0))]) hE.1 (mX2_dayStep hE (ty_X0_0 (ty_X8_0 t0)) q3) mic_X2_dayStep rfl (ty_X0_0 (ty_X8_0 t0)) (by decide) rfl rfl wq_m_X8_160 wq_i_yX2_dayStep wq_s_yX2_dayStep ⟨Nat.le_of_ble_eq_true rfl, Nat.le_of_ble_eq_true rfl⟩ (Nat.le_of_ble_eq_true rfl) dX8_seesStanding_26 rfl rfl rfl ?_
  obtain ⟨v6, q5, hx⟩ := ob_some hx
  refine U.callV (As := [.int v2, .int a2, .int v4]) (rest := []) (st' := [.int v6]) hE.1 (mX2_greatestPull hE (ty_X0_0 (ty_X8_0 t0)) q5) mic_X2_greatestPull rfl (ty_X0_0 (ty_X8_0 t0)) (by decide) rfl rfl wq_m_X8_176 wq_i_yX2_greatestPull wq_s_yX2_greatestPull ⟨Nat.le_of_ble_eq_true rfl, Nat.le_of_ble_eq_true rfl⟩ (Nat.le_of_ble_eq_true rfl) dX8_seesStanding_29 rfl rfl rfl ?_
  refine V.istore [(4, .int v6), (0, .ref (G.1 + th)), (1, .int a1), (2, .int a2), (3, .int a3)] dX8_seesStanding_32 rfl (Nat.le_of_ble_eq_true rfl) rfl ?_
  refine V.aload_n (j := 1) dX8_seesStanding_34 rfl rfl rfl ?_
  refine U.getP fl_X8_10 t0 dX8_seesStanding_35 rfl ?_
  refine U.getP fl_X8_60 (ty_X8_0 t0) dX8_seesStanding_38 rfl ?_
  refine U.getP fl_X8_173 (ty_X0_0 (ty_X8_0 t0)) dX8_seesStanding_41 rfl ?_
  refine V.iload_n (j := 2) dX8_seesStanding_44 rfl rfl rfl ?_
  refine U.iald hx (ty_X2_8 (ty_X0_0 (ty_X8_0 t0))) dX8_seesStanding_45 rfl (fun hx => ?_)
  refine V.iload_n (j := 3) dX8_seesStanding_46 rfl rfl rfl ?_
  refine V.iload_n (j := 4) dX8_seesStanding_47 rfl rfl rfl ?_
  obtain ⟨v8, q7, hx⟩ := ob_some hx
  refine U.callS (As := [.int a2, .int a3]) (rest := [.int (hI h (PC (PC (PC th 0) 0) 8) (ix a1))]) (st' := [.int v8, .int (hI h (PC (PC (PC th 0) 0) 8) (ix a1))]) hE.1 (mX8_far hE q7) mic_X8_far rfl wq_m_X8_336 wq_t_yX8_far ⟨Nat.le_of_ble_eq_true rfl, Nat.le_of_ble_eq_true rfl⟩ (Nat.le_of_ble_eq_true rfl) dX8_seesStanding_48 rfl rfl rfl ?_
  refine V.iload (j := 0) dX8_seesStanding_51 rfl rfl ?_
  obtain ⟨v10, q9, hx⟩ := ob_some hx
  refine U.callS (As := [.int (hI h (PC (PC (PC th 0) 0) 8) (ix a1)), .int v8, .int v6]) (rest := []) (st' := [.int v10]) hE.1 (mX1_seesBy hE q9) mic_X1_seesBy rfl wq_m_X8_339 wq_t_yX1_seesBy ⟨Nat.le_of_ble_eq_true rfl, Nat.le_of_ble_eq_true rfl⟩ (Nat.le_of_ble_eq_true rfl) dX8_seesStanding_53 rfl rfl rfl ?_
  obtain ⟨g11, hx⟩ := oG_some hx
  obtain rfl := Option.some.inj hx
  exact U.retI rfl rfl rfl (isB_nar g11) dX8_seesStanding_56
set_option maxRecDepth 100000 in
set_option maxHeartbeats 4000000 in
theorem vX8_game_33 {l : Launch} {G : GG} {EX : State → Prop} (hE : EXB G EX) {r : Int32 × AH} : ∀ (l0 : Nat) (h : AH) (t0 : KD l0 = 7), fX8_game_33 l0 h = some r → U l G EX mi_X8_game 4 98 (some (.int r.1)) r.2 33 [(0, .ref (G.1 + l0))] [] h := by
  intro l0 h t0 hx
  unfold fX8_game_33 at hx
  refine V.aload_n (j := 0) dX8_game_33 rfl rfl rfl ?_
  refine V.bipush dX8_game_34 rfl kb_m2 ?_
  obtain ⟨v5, h4, q3, hx⟩ := ob2_some hx
  refine U.callV (As := [.int (-2 : Int32)]) (rest := []) (st' := [.int v5]) hE.1 (mX8_refuse hE t0 q3) mic_X8_refuse rfl t0 (by decide) rfl rfl wq_m_X8_80 wq_i_yX8_refuse wq_s_yX8_refuse ⟨Nat.le_of_ble_eq_true rfl, Nat.le_of_ble_eq_true rfl⟩ (Nat.le_of_ble_eq_true rfl) dX8_game_36 rfl rfl rfl ?_
  obtain rfl := Option.some.inj hx
  exact U.retI rfl rfl rfl rfl dX8_game_39
set_option maxRecDepth 100000 in
set_option maxHeartbeats 4000000 in
theorem vX8_game_153 {l : Launch} {G : GG} {EX : State → Prop} (hE : EXB G EX) {r : Int32 × AH} {k46 : Nat → Int32 → Int32 → Int32 → Int32 → Int32 → AH → Option (Int32 × AH)} (hk46 : ∀ (l0 : Nat) (l1 : Int32) (l2 : Int32) (l3 : Int32) (l4 : Int32) (l5 : Int32) (h : AH) (t0 : KD l0 = 7), k46 l0 l1 l2 l3 l4 l5 h = some r → U l G EX mi_X8_game 4 98 (some (.int r.1)) r.2 46 [(0, .ref (G.1 + l0)), (1, .int l1), (2, .int l2), (3, .int l3), (4, .int l4), (5, .int l5)] [] h) : ∀ (l0 : Nat) (l1 : Int32) (l2 : Int32) (l3 : Int32) (l4 : Int32) (l5 : Int32) (l11 : Int32) (s0 : Int32) (h : AH) (t0 : KD l0 = 7), fX8_game_153 k46 l0 l1 l2 l3 l4 l5 l11 s0 h = some r → U l G EX mi_X8_game 4 98 (some (.int r.1)) r.2 153 [(0, .ref (G.1 + l0)), (1, .int l1), (2, .int l2), (3, .int l3), (4, .int l4), (5, .int l5), (11, .int l11)] [.int s0] h := by
  intro l0 l1 l2 l3 l4 l5 l11 s0 h t0 hx
  unfold fX8_game_153 at hx
  refine V.istore [(12, .int s0), (0, .ref (G.1 + l0)), (1, .int l1), (2, .int l2), (3, .int l3), (4, .int l4), (5, .int l5), (11, .int l11)] dX8_game_153 rfl (Nat.le_of_ble_eq_true rfl) rfl ?_
  refine V.iload (j := 7) dX8_game_155 rfl rfl ?_
  refine V.if_ne (tgt := 174) hx dX8_game_157 (by decide) rfl (fun hx => ?_) (fun hx => ?_)
  · refine U.iinc hx (fun v14 => [(5, .int v14), (12, .int s0), (0, .ref (G.1 + l0)), (1, .int l1), (2, .int l2), (3, .int l3), (4, .int l4), (11, .int l11)]) (j := 6) rfl (by decide) (Nat.le_of_ble_eq_true rfl) (fun _ => rfl) dX8_game_174 rfl (fun v14 hx => ?_)
    refine V.goto (q := 46) dX8_game_177 (by decide) ?_
    refine V.pick [2, 3, 4, 5, 6, 0] rfl ?_
    exact hk46 l0 l1 l2 l3 l4 v14 h t0 hx
  · refine V.iload (j := 0) dX8_game_160 rfl rfl ?_
    refine V.if_ne (tgt := 174) hx dX8_game_162 (by decide) rfl (fun hx => ?_) (fun hx => ?_)
    · refine U.iinc hx (fun v15 => [(5, .int v15), (12, .int s0), (0, .ref (G.1 + l0)), (1, .int l1), (2, .int l2), (3, .int l3), (4, .int l4), (11, .int l11)]) (j := 6) rfl (by decide) (Nat.le_of_ble_eq_true rfl) (fun _ => rfl) dX8_game_174 rfl (fun v15 hx => ?_)
      refine V.goto (q := 46) dX8_game_177 (by decide) ?_
      refine V.pick [2, 3, 4, 5, 6, 0] rfl ?_
      exact hk46 l0 l1 l2 l3 l4 v15 h t0 hx
    · refine V.iload (j := 5) dX8_game_165 rfl rfl ?_
      refine V.iconst dX8_game_167 rfl ki_1 ?_
      refine V.iload (j := 6) dX8_game_168 rfl rfl ?_
      refine V.ishl dX8_game_170 rfl ?_
      refine V.ior dX8_game_171 rfl ?_
      refine U.letI hx (fun v16 hx => ?_)
      refine V.istore [(4, .int v16), (12, .int s0), (0, .ref (G.1 + l0)), (1, .int l1), (2, .int l2), (3, .int l3), (5, .int l5), (11, .int l11)] dX8_game_172 rfl (Nat.le_of_ble_eq_true rfl) rfl ?_
      refine U.iinc hx (fun v17 => [(5, .int v17), (4, .int v16), (12, .int s0), (0, .ref (G.1 + l0)), (1, .int l1), (2, .int l2), (3, .int l3), (11, .int l11)]) (j := 6) rfl (by decide) (Nat.le_of_ble_eq_true rfl) (fun _ => rfl) dX8_game_174 rfl (fun v17 hx => ?_)
      refine V.goto (q := 46) dX8_game_177 (by decide) ?_
      refine V.pick [3, 4, 5, 6, 1, 0] rfl ?_
      exact hk46 l0 l1 l2 l3 v16 v17 h t0 hx
set_option maxRecDepth 100000 in
set_option maxHeartbeats 4000000 in
theorem vX8_game_152 {l : Launch} {G : GG} {EX : State → Prop} (hE : EXB G EX) {r : Int32 × AH} {k46 : Nat → Int32 → Int32 → Int32 → Int32 → Int32 → AH → Option (Int32 × AH)} (hk46 : ∀ (l0 : Nat) (l1 : Int32) (l2 : Int32) (l3 : Int32) (l4 : Int32) (l5 : Int32) (h : AH) (t0 : KD l0 = 7), k46 l0 l1 l2 l3 l4 l5 h = some r → U l G EX mi_X8_game 4 98 (some (.int r.1)) r.2 46 [(0, .ref (G.1 + l0)), (1, .int l1), (2, .int l2), (3, .int l3), (4, .int l4), (5, .int l5)] [] h) : ∀ (l0 : Nat) (l1 : Int32) (l2 : Int32) (l3 : Int32) (l4 : Int32) (l5 : Int32) (l11 : Int32) (h : AH) (t0 : KD l0 = 7), fX8_game_152 k46 l0 l1 l2 l3 l4 l5 l11 h = some r → U l G EX mi_X8_game 4 98 (some (.int r.1)) r.2 152 [(0, .ref (G.1 + l0)), (1, .int l1), (2, .int l2), (3, .int l3), (4, .int l4), (5, .int l5), (11, .int l11)] [] h := by
  intro l0 l1 l2 l3 l4 l5 l11 h t0 hx
  unfold fX8_game_152 at hx
  refine V.iconst dX8_game_152 rfl ki_0 ?_
  exact vX8_game_153 hE hk46 l0 l1 l2 l3 l4 l5 l11 (0 : Int32) h t0 hx
set_option maxRecDepth 100000 in
set_option maxHeartbeats 4000000 in
theorem vX8_game_129 {l : Launch} {G : GG} {EX : State → Prop} (hE : EXB G EX) {r : Int32 × AH} {k46 : Nat → Int32 → Int32 → Int32 → Int32 → Int32 → AH → Option (Int32 × AH)} (hk46 : ∀ (l0 : Nat) (l1 : Int32) (l2 : Int32) (l3 : Int32) (l4 : Int32) (l5 : Int32) (h : AH) (t0 : KD l0 = 7), k46 l0 l1 l2 l3 l4 l5 h = some r → U l G EX mi_X8_game 4 98 (some (.int r.1)) r.2 46 [(0, .ref (G.1 + l0)), (1, .int l1), (2, .int l2), (3, .int l3), (4, .int l4), (5, .int l5)] [] h) : ∀ (l0 : Nat) (l1 : Int32) (l2 : Int32) (l3 : Int32) (l4 : Int32) (l5 : Int32) (l6 : Int32) (l9 : Int32) (l10 : Int32) (s0 : Int32) (h : AH) (t0 : KD l0 = 7), fX8_game_129 k46 l0 l1 l2 l3 l4 l5 l6 l9 l10 s0 h = some r → U l G EX mi_X8_game 4 98 (some (.int r.1)) r.2 129 [(0, .ref (G.1 + l0)), (1, .int l1), (2, .int l2), (3, .int l3), (4, .int l4), (5, .int l5), (6, .int l6), (9, .int l9), (10, .int l10)] [.int s0] h := by
  intro l0 l1 l2 l3 l4 l5 l6 l9 l10 s0 h t0 hx
  unfold fX8_game_129 at hx
  refine V.istore [(11, .int s0), (0, .ref (G.1 + l0)), (1, .int l1), (2, .int l2), (3, .int l3), (4, .int l4), (5, .int l5), (6, .int l6), (9, .int l9), (10, .int l10)] dX8_game_129 rfl (Nat.le_of_ble_eq_true rfl) rfl ?_
  refine V.iload (j := 9) dX8_game_131 rfl rfl ?_
  refine V.if_ne (tgt := 152) hx dX8_game_133 (by decide) rfl (fun hx => ?_) (fun hx => ?_)
  · refine V.pick [1, 2, 3, 4, 5, 6, 0] rfl ?_
    exact vX8_game_152 hE hk46 l0 l1 l2 l3 l4 l5 s0 h t0 hx
  · refine V.aload_n (j := 1) dX8_game_136 rfl rfl rfl ?_
    refine V.iload_n (j := 2) dX8_game_137 rfl rfl rfl ?_
    refine V.iload (j := 8) dX8_game_138 rfl rfl ?_
    refine V.iload (j := 7) dX8_game_140 rfl rfl ?_
    obtain ⟨v19, q18, hx⟩ := ob_some hx
    refine U.callV (As := [.int l1, .int l9, .int l6]) (rest := []) (st' := [.int v19]) hE.1 (mX8_seesStanding hE t0 q18) mic_X8_seesStanding rfl t0 (by decide) rfl rfl wq_m_X8_275 wq_i_yX8_seesStanding wq_s_yX8_seesStanding ⟨Nat.le_of_ble_eq_true rfl, Nat.le_of_ble_eq_true rfl⟩ (Nat.le_of_ble_eq_true rfl) dX8_game_142 rfl rfl rfl ?_
    refine V.if_eq (tgt := 152) hx dX8_game_145 (by decide) rfl (fun hx => ?_) (fun hx => ?_)
    · refine V.pick [1, 2, 3, 4, 5, 6, 0] rfl ?_
      exact vX8_game_152 hE hk46 l0 l1 l2 l3 l4 l5 s0 h t0 hx
    · refine V.iconst dX8_game_148 rfl ki_1 ?_
      refine V.goto (q := 153) dX8_game_149 (by decide) ?_
      refine V.pick [1, 2, 3, 4, 5, 6, 0] rfl ?_
      exact vX8_game_153 hE hk46 l0 l1 l2 l3 l4 l5 s0 (1 : Int32) h t0 hx
set_option maxRecDepth 100000 in
set_option maxHeartbeats 4000000 in
theorem vX8_game_128 {l : Launch} {G : GG} {EX : State → Prop} (hE : EXB G EX) {r : Int32 × AH} {k46 : Nat → Int32 → Int32 → Int32 → Int32 → Int32 → AH → Option (Int32 × AH)} (hk46 : ∀ (l0 : Nat) (l1 : Int32) (l2 : Int32) (l3 : Int32) (l4 : Int32) (l5 : Int32) (h : AH) (t0 : KD l0 = 7), k46 l0 l1 l2 l3 l4 l5 h = some r → U l G EX mi_X8_game 4 98 (some (.int r.1)) r.2 46 [(0, .ref (G.1 + l0)), (1, .int l1), (2, .int l2), (3, .int l3), (4, .int l4), (5, .int l5)] [] h) : ∀ (l0 : Nat) (l1 : Int32) (l2 : Int32) (l3 : Int32) (l4 : Int32) (l5 : Int32) (l6 : Int32) (l9 : Int32) (l10 : Int32) (h : AH) (t0 : KD l0 = 7), fX8_game_128 k46 l0 l1 l2 l3 l4 l5 l6 l9 l10 h = some r → U l G EX mi_X8_game 4 98 (some (.int r.1)) r.2 128 [(0, .ref (G.1 + l0)), (1, .int l1), (2, .int l2), (3, .int l3), (4, .int l4), (5, .int l5), (6, .int l6), (9, .int l9), (10, .int l10)] [] h := by
  intro l0 l1 l2 l3 l4 l5 l6 l9 l10 h t0 hx
  unfold fX8_game_128 at hx
  refine V.iconst dX8_game_128 rfl ki_0 ?_
  exact vX8_game_129 hE hk46 l0 l1 l2 l3 l4 l5 l6 l9 l10 (0 : Int32) h t0 hx
set_option maxRecDepth 100000 in
set_option maxHeartbeats 4000000 in
theorem vX8_game_78 {l : Launch} {G : GG} {EX : State → Prop} (hE : EXB G EX) {r : Int32 × AH} {k46 : Nat → Int32 → Int32 → Int32 → Int32 → Int32 → AH → Option (Int32 × AH)} (hk46 : ∀ (l0 : Nat) (l1 : Int32) (l2 : Int32) (l3 : Int32) (l4 : Int32) (l5 : Int32) (h : AH) (t0 : KD l0 = 7), k46 l0 l1 l2 l3 l4 l5 h = some r → U l G EX mi_X8_game 4 98 (some (.int r.1)) r.2 46 [(0, .ref (G.1 + l0)), (1, .int l1), (2, .int l2), (3, .int l3), (4, .int l4), (5, .int l5)] [] h) : ∀ (l0 : Nat) (l1 : Int32) (l2 : Int32) (l3 : Int32) (l4 : Int32) (l5 : Int32) (l6 : Int32) (s0 : Int32) (h : AH) (t0 : KD l0 = 7), fX8_game_78 k46 l0 l1 l2 l3 l4 l5 l6 s0 h = some r → U l G EX mi_X8_game 4 98 (some (.int r.1)) r.2 78 [(0, .ref (G.1 + l0)), (1, .int l1), (2, .int l2), (3, .int l3), (4, .int l4), (5, .int l5), (6, .int l6)] [.int s0] h := by
  intro l0 l1 l2 l3 l4 l5 l6 s0 h t0 hx
  unfold fX8_game_78 at hx
  refine V.istore [(7, .int s0), (0, .ref (G.1 + l0)), (1, .int l1), (2, .int l2), (3, .int l3), (4, .int l4), (5, .int l5), (6, .int l6)] dX8_game_78 rfl (Nat.le_of_ble_eq_true rfl) rfl ?_
  refine V.iload_n (j := 3) dX8_game_80 rfl rfl rfl ?_
  refine V.iload_n (j := 4) dX8_game_81 rfl rfl rfl ?_
  refine V.iadd dX8_game_82 rfl ?_
  refine V.iload (j := 7) dX8_game_83 rfl rfl ?_
  refine V.isub dX8_game_85 rfl ?_
  refine U.letI hx (fun v10 hx => ?_)
  refine V.istore [(8, .int v10), (7, .int s0), (0, .ref (G.1 + l0)), (1, .int l1), (2, .int l2), (3, .int l3), (4, .int l4), (5, .int l5), (6, .int l6)] dX8_game_86 rfl (Nat.le_of_ble_eq_true rfl) rfl ?_
  refine V.iload_n (j := 4) dX8_game_88 rfl rfl rfl ?_
  refine V.iload_n (j := 5) dX8_game_89 rfl rfl rfl ?_
  refine V.iadd dX8_game_90 rfl ?_
  refine V.iload (j := 1) dX8_game_91 rfl rfl ?_
  refine V.isub dX8_game_93 rfl ?_
  refine U.letI hx (fun v11 hx => ?_)
  refine V.istore [(9, .int v11), (8, .int v10), (7, .int s0), (0, .ref (G.1 + l0)), (1, .int l1), (2, .int l2), (3, .int l3), (4, .int l4), (5, .int l5), (6, .int l6)] dX8_game_94 rfl (Nat.le_of_ble_eq_true rfl) rfl ?_
  refine V.aload_n (j := 3) dX8_game_96 rfl rfl rfl ?_
  refine V.iload_n (j := 4) dX8_game_97 rfl rfl rfl ?_
  refine V.iload (j := 2) dX8_game_98 rfl rfl ?_
  refine V.iload (j := 9) dX8_game_100 rfl rfl ?_
  obtain ⟨v13, q12, hx⟩ := ob_some hx
  refine U.callV (As := [.int l1, .int s0, .int l6]) (rest := []) (st' := [.int v13]) hE.1 (mX8_seesStanding hE t0 q12) mic_X8_seesStanding rfl t0 (by decide) rfl rfl wq_m_X8_275 wq_i_yX8_seesStanding wq_s_yX8_seesStanding ⟨Nat.le_of_ble_eq_true rfl, Nat.le_of_ble_eq_true rfl⟩ (Nat.le_of_ble_eq_true rfl) dX8_game_102 rfl rfl rfl ?_
  refine V.istore [(10, .int v13), (9, .int v11), (8, .int v10), (7, .int s0), (0, .ref (G.1 + l0)), (1, .int l1), (2, .int l2), (3, .int l3), (4, .int l4), (5, .int l5), (6, .int l6)] dX8_game_105 rfl (Nat.le_of_ble_eq_true rfl) rfl ?_
  refine V.iload (j := 0) dX8_game_107 rfl rfl ?_
  refine V.if_eq (tgt := 128) hx dX8_game_109 (by decide) rfl (fun hx => ?_) (fun hx => ?_)
  · refine V.pick [4, 5, 6, 7, 8, 9, 10, 1, 0] rfl ?_
    exact vX8_game_128 hE hk46 l0 l1 l2 l3 l4 l5 l6 v11 v13 h t0 hx
  · refine V.aload_n (j := 4) dX8_game_112 rfl rfl rfl ?_
    refine V.iload_n (j := 5) dX8_game_113 rfl rfl rfl ?_
    refine V.iload (j := 3) dX8_game_114 rfl rfl ?_
    refine V.iload (j := 2) dX8_game_116 rfl rfl ?_
    obtain ⟨v21, q20, hx⟩ := ob_some hx
    refine U.callV (As := [.int l1, .int s0, .int v10]) (rest := []) (st' := [.int v21]) hE.1 (mX8_seesStanding hE t0 q20) mic_X8_seesStanding rfl t0 (by decide) rfl rfl wq_m_X8_275 wq_i_yX8_seesStanding wq_s_yX8_seesStanding ⟨Nat.le_of_ble_eq_true rfl, Nat.le_of_ble_eq_true rfl⟩ (Nat.le_of_ble_eq_true rfl) dX8_game_118 rfl rfl rfl ?_
    refine V.if_ne (tgt := 128) hx dX8_game_121 (by decide) rfl (fun hx => ?_) (fun hx => ?_)
    · refine V.pick [4, 5, 6, 7, 8, 9, 10, 1, 0] rfl ?_
      exact vX8_game_128 hE hk46 l0 l1 l2 l3 l4 l5 l6 v11 v13 h t0 hx
    · refine V.iconst dX8_game_124 rfl ki_1 ?_
      refine V.goto (q := 129) dX8_game_125 (by decide) ?_
      refine V.pick [4, 5, 6, 7, 8, 9, 10, 1, 0] rfl ?_
      exact vX8_game_129 hE hk46 l0 l1 l2 l3 l4 l5 l6 v11 v13 (1 : Int32) h t0 hx
set_option maxRecDepth 100000 in
set_option maxHeartbeats 4000000 in
theorem vX8_game_64 {l : Launch} {G : GG} {EX : State → Prop} (hE : EXB G EX) {r : Int32 × AH} {k46 : Nat → Int32 → Int32 → Int32 → Int32 → Int32 → AH → Option (Int32 × AH)} (hk46 : ∀ (l0 : Nat) (l1 : Int32) (l2 : Int32) (l3 : Int32) (l4 : Int32) (l5 : Int32) (h : AH) (t0 : KD l0 = 7), k46 l0 l1 l2 l3 l4 l5 h = some r → U l G EX mi_X8_game 4 98 (some (.int r.1)) r.2 46 [(0, .ref (G.1 + l0)), (1, .int l1), (2, .int l2), (3, .int l3), (4, .int l4), (5, .int l5)] [] h) : ∀ (l0 : Nat) (l1 : Int32) (l2 : Int32) (l3 : Int32) (l4 : Int32) (l5 : Int32) (s0 : Int32) (h : AH) (t0 : KD l0 = 7), fX8_game_64 k46 l0 l1 l2 l3 l4 l5 s0 h = some r → U l G EX mi_X8_game 4 98 (some (.int r.1)) r.2 64 [(0, .ref (G.1 + l0)), (1, .int l1), (2, .int l2), (3, .int l3), (4, .int l4), (5, .int l5)] [.int s0] h := by
  intro l0 l1 l2 l3 l4 l5 s0 h t0 hx
  unfold fX8_game_64 at hx
  refine V.istore [(6, .int s0), (0, .ref (G.1 + l0)), (1, .int l1), (2, .int l2), (3, .int l3), (4, .int l4), (5, .int l5)] dX8_game_64 rfl (Nat.le_of_ble_eq_true rfl) rfl ?_
  refine V.iload (j := 6) dX8_game_66 rfl rfl ?_
  refine V.iconst dX8_game_68 rfl ki_2 ?_
  refine V.iand dX8_game_69 rfl ?_
  refine V.if_ne (tgt := 77) hx dX8_game_70 (by decide) rfl (fun hx => ?_) (fun hx => ?_)
  · refine V.iload_n (j := 4) dX8_game_77 rfl rfl rfl ?_
    refine V.pick [1, 2, 3, 4, 5, 6, 0] rfl ?_
    exact vX8_game_78 hE hk46 l0 l1 l2 l3 l4 l5 s0 l3 h t0 hx
  · refine V.iload_n (j := 3) dX8_game_73 rfl rfl rfl ?_
    refine V.goto (q := 78) dX8_game_74 (by decide) ?_
    refine V.pick [1, 2, 3, 4, 5, 6, 0] rfl ?_
    exact vX8_game_78 hE hk46 l0 l1 l2 l3 l4 l5 s0 l2 h t0 hx
set_option maxRecDepth 100000 in
set_option maxHeartbeats 4000000 in
theorem vX8_game_46 {l : Launch} {G : GG} {EX : State → Prop} (hE : EXB G EX) {r : Int32 × AH} : ∀ (n : Nat) (l0 : Nat) (l1 : Int32) (l2 : Int32) (l3 : Int32) (l4 : Int32) (l5 : Int32) (h : AH) (t0 : KD l0 = 7), fX8_game_46 n l0 l1 l2 l3 l4 l5 h = some r → U l G EX mi_X8_game 4 98 (some (.int r.1)) r.2 46 [(0, .ref (G.1 + l0)), (1, .int l1), (2, .int l2), (3, .int l3), (4, .int l4), (5, .int l5)] [] h := by
  intro n
  induction n with
  | zero =>
    intro l0 l1 l2 l3 l4 l5 h t0 hx
    have hx : none = some r := hx
    cases hx
  | succ n ih =>
    intro l0 l1 l2 l3 l4 l5 h t0 hx
    rw [fX8_game_46] at hx
    refine V.iload (j := 5) dX8_game_46 rfl rfl ?_
    refine V.iconst dX8_game_48 rfl ki_4 ?_
    refine V.icmp_ge (tgt := 180) hx dX8_game_49 (by decide) rfl (fun hx => ?_) (fun hx => ?_)
    · refine V.iload (j := 4) dX8_game_180 rfl rfl ?_
      obtain rfl := Option.some.inj hx
      exact U.retI rfl rfl rfl rfl dX8_game_182
    · refine V.iload (j := 5) dX8_game_52 rfl rfl ?_
      refine V.iconst dX8_game_54 rfl ki_1 ?_
      refine V.iand dX8_game_55 rfl ?_
      refine V.if_ne (tgt := 63) hx dX8_game_56 (by decide) rfl (fun hx => ?_) (fun hx => ?_)
      · refine V.iload_n (j := 3) dX8_game_63 rfl rfl rfl ?_
        exact vX8_game_64 hE (ih) l0 l1 l2 l3 l4 l5 l3 h t0 hx
      · refine V.iload_n (j := 2) dX8_game_59 rfl rfl rfl ?_
        refine V.goto (q := 64) dX8_game_60 (by decide) ?_
        exact vX8_game_64 hE (ih) l0 l1 l2 l3 l4 l5 l2 h t0 hx
set_option maxRecDepth 100000 in
set_option maxHeartbeats 4000000 in
theorem mX8_game {l : Launch} {G : GG} {EX : State → Prop} (hE : EXB G EX) {th : Nat} {a1 : Int32} {a2 : Int32} {a3 : Int32} {h : AH} (t0 : KD th = 7) {r : Int32 × AH} (hx : fX8_game th a1 a2 a3 h = some r) : MetU l G EX mi_X8_game 4 98 [.ref (G.1 + th), .int a1, .int a2, .int a3] h (some (.int r.1)) r.2 := by
  refine MetU.of mic_X8_game.1 (Nat.le_of_ble_eq_true rfl) ?_
  refine show U l G EX mi_X8_game 4 98 (some (.int r.1)) r.2 0 [(0, .ref (G.1 + th)), (1, .int a1), (2, .int a2), (3, .int a3)] [] h from ?_
  unfold fX8_game at hx
  refine V.aload_n (j := 0) dX8_game_0 rfl rfl rfl ?_
  refine U.getP fl_X8_10 t0 dX8_game_1 rfl ?_
  refine U.getP fl_X8_60 (ty_X8_0 t0) dX8_game_4 rfl ?_
  refine V.iload_n (j := 1) dX8_game_7 rfl rfl rfl ?_
  obtain ⟨v2, q1, hx⟩ := ob_some hx
  refine U.callV (As := [.int a1]) (rest := []) (st' := [.int v2]) hE.1 (mX2_hasWatcher hE (ty_X0_0 (ty_X8_0 t0)) q1) mic_X2_hasWatcher rfl (ty_X0_0 (ty_X8_0 t0)) (by decide) rfl rfl wq_m_X8_145 wq_i_yX2_hasWatcher wq_s_yX2_hasWatcher ⟨Nat.le_of_ble_eq_true rfl, Nat.le_of_ble_eq_true rfl⟩ (Nat.le_of_ble_eq_true rfl) dX8_game_8 rfl rfl rfl ?_
  refine V.if_eq (tgt := 33) hx dX8_game_11 (by decide) rfl (fun hx => ?_) (fun hx => ?_)
  · refine V.pick [0] rfl ?_
    exact vX8_game_33 hE th h t0 hx
  · refine V.iload_n (j := 2) dX8_game_14 rfl rfl rfl ?_
    obtain ⟨v7, q6, hx⟩ := ob_some hx
    refine U.callS (As := [.int a2]) (rest := []) (st' := [.int v7]) hE.1 (mX8_isCell hE q6) mic_X8_isCell rfl wq_m_X8_74 wq_t_yX8_isCell ⟨Nat.le_of_ble_eq_true rfl, Nat.le_of_ble_eq_true rfl⟩ (Nat.le_of_ble_eq_true rfl) dX8_game_15 rfl rfl rfl ?_
    refine V.if_eq (tgt := 33) hx dX8_game_18 (by decide) rfl (fun hx => ?_) (fun hx => ?_)
    · refine V.pick [0] rfl ?_
      exact vX8_game_33 hE th h t0 hx
    · refine V.iload_n (j := 3) dX8_game_21 rfl rfl rfl ?_
      obtain ⟨v9, q8, hx⟩ := ob_some hx
      refine U.callS (As := [.int a3]) (rest := []) (st' := [.int v9]) hE.1 (mX8_isCell hE q8) mic_X8_isCell rfl wq_m_X8_74 wq_t_yX8_isCell ⟨Nat.le_of_ble_eq_true rfl, Nat.le_of_ble_eq_true rfl⟩ (Nat.le_of_ble_eq_true rfl) dX8_game_22 rfl rfl rfl ?_
      refine V.if_eq (tgt := 33) hx dX8_game_25 (by decide) rfl (fun hx => ?_) (fun hx => ?_)
      · refine V.pick [0] rfl ?_
        exact vX8_game_33 hE th h t0 hx
      · refine V.iload_n (j := 2) dX8_game_28 rfl rfl rfl ?_
        refine V.iload_n (j := 3) dX8_game_29 rfl rfl rfl ?_
        refine V.icmp_ne (tgt := 40) hx dX8_game_30 (by decide) rfl (fun hx => ?_) (fun hx => ?_)
        · refine V.iconst dX8_game_40 rfl ki_0 ?_
          refine V.istore [(4, .int (0 : Int32)), (0, .ref (G.1 + th)), (1, .int a1), (2, .int a2), (3, .int a3)] dX8_game_41 rfl (Nat.le_of_ble_eq_true rfl) rfl ?_
          refine V.iconst dX8_game_43 rfl ki_0 ?_
          refine V.istore [(5, .int (0 : Int32)), (4, .int (0 : Int32)), (0, .ref (G.1 + th)), (1, .int a1), (2, .int a2), (3, .int a3)] dX8_game_44 rfl (Nat.le_of_ble_eq_true rfl) rfl ?_
          refine V.pick [2, 3, 4, 5, 1, 0] rfl ?_
          exact vX8_game_46 hE FU th a1 a2 a3 (0 : Int32) (0 : Int32) h t0 hx
        · refine V.pick [0] rfl ?_
          exact vX8_game_33 hE th h t0 hx
set_option maxRecDepth 100000 in
set_option maxHeartbeats 4000000 in
theorem vX8_power_5 {l : Launch} {G : GG} {EX : State → Prop} (hE : EXB G EX) {h : AH} {r : Int64} : ∀ (n : Nat) (l0 : Int64) (l2 : Int32) (l3 : Int64) (l5 : Int32), fX8_power_5 n l0 l2 l3 l5 = some r → U l G EX mi_X8_power 0 0 (some (.long r)) h 5 [(0, .long l0), (2, .int l2), (3, .long l3), (5, .int l5)] [] h := by
  intro n
  induction n with
  | zero =>
    intro l0 l2 l3 l5 hx
    have hx : none = some r := hx
    cases hx
  | succ n ih =>
    intro l0 l2 l3 l5 hx
    rw [fX8_power_5] at hx
    refine V.iload (j := 3) dX8_power_5 rfl rfl ?_
    refine V.iload_n (j := 1) dX8_power_7 rfl rfl rfl ?_
    refine V.icmp_ge (tgt := 21) hx dX8_power_8 (by decide) rfl (fun hx => ?_) (fun hx => ?_)
    · refine V.lload_n (j := 2) dX8_power_21 rfl rfl rfl ?_
      obtain rfl := Option.some.inj hx
      exact U.retJ rfl rfl rfl dX8_power_22
    · refine V.lload_n (j := 2) dX8_power_11 rfl rfl rfl ?_
      refine V.lload_n (j := 0) dX8_power_12 rfl rfl rfl ?_
      refine V.lmul dX8_power_13 rfl ?_
      refine U.letJ hx (fun v1 hx => ?_)
      refine V.lstore_n [(3, .long v1), (0, .long l0), (2, .int l2), (5, .int l5)] dX8_power_14 rfl rfl (Nat.le_of_ble_eq_true rfl) rfl ?_
      refine U.iinc hx (fun v2 => [(5, .int v2), (3, .long v1), (0, .long l0), (2, .int l2)]) (j := 3) rfl (by decide) (Nat.le_of_ble_eq_true rfl) (fun _ => rfl) dX8_power_15 rfl (fun v2 hx => ?_)
      refine V.goto (q := 5) dX8_power_18 (by decide) ?_
      refine V.pick [2, 3, 1, 0] rfl ?_
      exact ih l0 l2 v1 v2 hx
set_option maxRecDepth 100000 in
set_option maxHeartbeats 4000000 in
theorem mX8_power {l : Launch} {G : GG} {EX : State → Prop} (hE : EXB G EX) {a0 : Int64} {a1 : Int32} {h : AH} {r : Int64} (hx : fX8_power a0 a1 = some r) : MetU l G EX mi_X8_power 0 0 [.long a0, .int a1] h (some (.long r)) h := by
  refine MetU.of mic_X8_power.1 (Nat.le_of_ble_eq_true rfl) ?_
  refine show U l G EX mi_X8_power 0 0 (some (.long r)) h 0 [(0, .long a0), (2, .int a1)] [] h from ?_
  unfold fX8_power at hx
  refine V.lconst dX8_power_0 rfl kl_1 ?_
  refine V.lstore_n [(3, .long (1 : Int64)), (0, .long a0), (2, .int a1)] dX8_power_1 rfl rfl (Nat.le_of_ble_eq_true rfl) rfl ?_
  refine V.iconst dX8_power_2 rfl ki_0 ?_
  refine V.istore [(5, .int (0 : Int32)), (3, .long (1 : Int64)), (0, .long a0), (2, .int a1)] dX8_power_3 rfl (Nat.le_of_ble_eq_true rfl) rfl ?_
  refine V.pick [2, 3, 1, 0] rfl ?_
  exact vX8_power_5 hE FU a0 a1 (1 : Int64) (0 : Int32) hx
set_option maxRecDepth 100000 in
set_option maxHeartbeats 4000000 in
theorem mX8_oddsOf {l : Launch} {G : GG} {EX : State → Prop} (hE : EXB G EX) {a0 : Int32} {a1 : Int32} {a2 : Int32} {h : AH} {r : Int64} (hx : fX8_oddsOf a0 a1 a2 = some r) : MetU l G EX mi_X8_oddsOf 1 25 [.int a0, .int a1, .int a2] h (some (.long r)) h := by
  refine MetU.of mic_X8_oddsOf.1 (Nat.le_of_ble_eq_true rfl) ?_
  refine show U l G EX mi_X8_oddsOf 1 25 (some (.long r)) h 0 [(0, .int a0), (1, .int a1), (2, .int a2)] [] h from ?_
  unfold fX8_oddsOf at hx
  refine V.iload_n (j := 1) dX8_oddsOf_0 rfl rfl rfl ?_
  obtain ⟨v2, q1, hx⟩ := ob_some hx
  refine U.callS (As := [.int a1]) (rest := []) (st' := [.int v2]) hE.1 (mJ6_bitCount_0f7a4 hE q1) mic_J6_bitCount_0f7a4 rfl wq_m_X8_206 wq_t_yJ6_bitCount_0f7a4 ⟨Nat.le_of_ble_eq_true rfl, Nat.le_of_ble_eq_true rfl⟩ (Nat.le_of_ble_eq_true rfl) dX8_oddsOf_1 rfl rfl rfl ?_
  refine V.istore_n [(3, .int v2), (0, .int a0), (1, .int a1), (2, .int a2)] dX8_oddsOf_4 rfl rfl (Nat.le_of_ble_eq_true rfl) rfl ?_
  refine V.bipush dX8_oddsOf_5 rfl kb_10 ?_
  refine V.iload_n (j := 3) dX8_oddsOf_7 rfl rfl rfl ?_
  refine V.isub dX8_oddsOf_8 rfl ?_
  refine V.i2l dX8_oddsOf_9 rfl ?_
  refine V.iload_n (j := 0) dX8_oddsOf_10 rfl rfl rfl ?_
  obtain ⟨v4, q3, hx⟩ := ob_some hx
  refine U.callS (As := [.long (((10 : Int32) - a2).toInt64), .int v2]) (rest := []) (st' := [.long v4]) hE.1 (mX8_power hE q3) mic_X8_power rfl wq_m_X8_284 wq_t_yX8_power ⟨Nat.le_of_ble_eq_true rfl, Nat.le_of_ble_eq_true rfl⟩ (Nat.le_of_ble_eq_true rfl) dX8_oddsOf_11 rfl rfl rfl ?_
  refine V.iload_n (j := 3) dX8_oddsOf_14 rfl rfl rfl ?_
  refine V.i2l dX8_oddsOf_15 rfl ?_
  refine V.iload_n (j := 1) dX8_oddsOf_16 rfl rfl rfl ?_
  obtain ⟨v6, q5, hx⟩ := ob_some hx
  refine U.callS (As := [.int a0]) (rest := [.long a2.toInt64, .long v4]) (st' := [.int v6, .long a2.toInt64, .long v4]) hE.1 (mJ6_bitCount_0f7a4 hE q5) mic_J6_bitCount_0f7a4 rfl wq_m_X8_206 wq_t_yJ6_bitCount_0f7a4 ⟨Nat.le_of_ble_eq_true rfl, Nat.le_of_ble_eq_true rfl⟩ (Nat.le_of_ble_eq_true rfl) dX8_oddsOf_17 rfl rfl rfl ?_
  refine V.iload_n (j := 0) dX8_oddsOf_20 rfl rfl rfl ?_
  refine V.isub dX8_oddsOf_21 rfl ?_
  obtain ⟨v8, q7, hx⟩ := ob_some hx
  refine U.callS (As := [.long a2.toInt64, .int (v6 - v2)]) (rest := [.long v4]) (st' := [.long v8, .long v4]) hE.1 (mX8_power hE q7) mic_X8_power rfl wq_m_X8_284 wq_t_yX8_power ⟨Nat.le_of_ble_eq_true rfl, Nat.le_of_ble_eq_true rfl⟩ (Nat.le_of_ble_eq_true rfl) dX8_oddsOf_22 rfl rfl rfl ?_
  refine V.lmul dX8_oddsOf_25 rfl ?_
  obtain rfl := Option.some.inj hx
  exact U.retJ rfl rfl rfl dX8_oddsOf_26
set_option maxRecDepth 100000 in
set_option maxHeartbeats 4000000 in
theorem vX8_keepFraction_44 {l : Launch} {G : GG} {EX : State → Prop} (hE : EXB G EX) {r : AH} : ∀ (l0 : Nat) (l1 : Int64) (l3 : Int64) (l7 : Int64) (h : AH) (t0 : KD l0 = 7), fX8_keepFraction_44 l0 l1 l3 l7 h = some r → U l G EX mi_X8_keepFraction 0 0 none r 44 [(0, .ref (G.1 + l0)), (1, .long l1), (3, .long l3), (7, .long l7)] [] h := by
  intro l0 l1 l3 l7 h t0 hx
  unfold fX8_keepFraction_44 at hx
  refine V.lload (j := 3) dX8_keepFraction_44 rfl rfl ?_
  refine V.lconst dX8_keepFraction_46 rfl kl_0 ?_
  refine V.lcmp dX8_keepFraction_47 rfl ?_
  refine V.if_le (tgt := 67) hx dX8_keepFraction_48 (by decide) rfl (fun hx => ?_) (fun hx => ?_)
  · obtain rfl := Option.some.inj hx
    exact U.ret0 rfl rfl rfl dX8_keepFraction_67
  · refine V.aload_n (j := 0) dX8_keepFraction_51 rfl rfl rfl ?_
    refine V.lload_n (j := 1) dX8_keepFraction_52 rfl rfl rfl ?_
    refine V.lload (j := 3) dX8_keepFraction_53 rfl rfl ?_
    obtain ⟨g1, hx⟩ := oG_some hx
    refine V.ldiv dX8_keepFraction_55 rfl (of_decide_eq_true g1) ?_
    refine U.putJ hx fl_X8_303 t0 rfl rfl dX8_keepFraction_56 rfl (fun h2 hx => ?_)
    refine V.aload_n (j := 0) dX8_keepFraction_59 rfl rfl rfl ?_
    refine V.lload_n (j := 2) dX8_keepFraction_60 rfl rfl rfl ?_
    refine V.lload (j := 3) dX8_keepFraction_61 rfl rfl ?_
    obtain ⟨g3, hx⟩ := oG_some hx
    refine V.ldiv dX8_keepFraction_63 rfl (of_decide_eq_true g3) ?_
    refine U.putJ hx fl_X8_56 t0 rfl rfl dX8_keepFraction_64 rfl (fun h4 hx => ?_)
    obtain rfl := Option.some.inj hx
    exact U.ret0 rfl rfl rfl dX8_keepFraction_67
set_option maxRecDepth 100000 in
set_option maxHeartbeats 4000000 in
theorem vX8_keepFraction_9 {l : Launch} {G : GG} {EX : State → Prop} (hE : EXB G EX) {r : AH} : ∀ (n : Nat) (l0 : Nat) (l1 : Int64) (l3 : Int64) (l5 : Int64) (l7 : Int64) (l9 : Int32) (h : AH) (t0 : KD l0 = 7), fX8_keepFraction_9 n l0 l1 l3 l5 l7 l9 h = some r → U l G EX mi_X8_keepFraction 0 0 none r 9 [(0, .ref (G.1 + l0)), (1, .long l1), (3, .long l3), (5, .long l5), (7, .long l7), (9, .int l9)] [] h := by
  intro n
  induction n with
  | zero =>
    intro l0 l1 l3 l5 l7 l9 h t0 hx
    have hx : none = some r := hx
    cases hx
  | succ n ih =>
    intro l0 l1 l3 l5 l7 l9 h t0 hx
    rw [fX8_keepFraction_9] at hx
    refine V.iload (j := 5) dX8_keepFraction_9 rfl rfl ?_
    refine V.bipush dX8_keepFraction_11 rfl kb_100 ?_
    refine V.icmp_ge (tgt := 44) hx dX8_keepFraction_13 (by decide) rfl (fun hx => ?_) (fun hx => ?_)
    · refine V.pick [0, 1, 2, 4] rfl ?_
      exact vX8_keepFraction_44 hE l0 l1 l3 l7 h t0 hx
    · refine V.lload (j := 3) dX8_keepFraction_16 rfl rfl ?_
      refine V.lconst dX8_keepFraction_18 rfl kl_0 ?_
      refine V.lcmp dX8_keepFraction_19 rfl ?_
      refine V.if_eq (tgt := 44) hx dX8_keepFraction_20 (by decide) rfl (fun hx => ?_) (fun hx => ?_)
      · refine V.pick [0, 1, 2, 4] rfl ?_
        exact vX8_keepFraction_44 hE l0 l1 l3 l7 h t0 hx
      · refine V.lload (j := 4) dX8_keepFraction_23 rfl rfl ?_
        refine V.lload (j := 3) dX8_keepFraction_25 rfl rfl ?_
        obtain ⟨g5, hx⟩ := oG_some hx
        refine V.lrem dX8_keepFraction_27 rfl (of_decide_eq_true g5) ?_
        refine U.letJ hx (fun v6 hx => ?_)
        refine V.lstore [(10, .long v6), (0, .ref (G.1 + l0)), (1, .long l1), (3, .long l3), (5, .long l5), (7, .long l7), (9, .int l9)] dX8_keepFraction_28 rfl (Nat.le_of_ble_eq_true rfl) rfl ?_
        refine V.lload (j := 4) dX8_keepFraction_30 rfl rfl ?_
        refine V.lstore [(7, .long l5), (10, .long v6), (0, .ref (G.1 + l0)), (1, .long l1), (3, .long l3), (5, .long l5), (9, .int l9)] dX8_keepFraction_32 rfl (Nat.le_of_ble_eq_true rfl) rfl ?_
        refine V.lload (j := 1) dX8_keepFraction_34 rfl rfl ?_
        refine V.lstore [(5, .long v6), (7, .long l5), (10, .long v6), (0, .ref (G.1 + l0)), (1, .long l1), (3, .long l3), (9, .int l9)] dX8_keepFraction_36 rfl (Nat.le_of_ble_eq_true rfl) rfl ?_
        refine U.iinc hx (fun v7 => [(9, .int v7), (5, .long v6), (7, .long l5), (10, .long v6), (0, .ref (G.1 + l0)), (1, .long l1), (3, .long l3)]) (j := 6) rfl (by decide) (Nat.le_of_ble_eq_true rfl) (fun _ => rfl) dX8_keepFraction_38 rfl (fun v7 hx => ?_)
        refine V.goto (q := 9) dX8_keepFraction_41 (by decide) ?_
        refine V.pick [4, 5, 6, 1, 2, 0] rfl ?_
        exact ih l0 l1 l3 v6 l5 v7 h t0 hx
set_option maxRecDepth 100000 in
set_option maxHeartbeats 4000000 in
theorem mX8_keepFraction {l : Launch} {G : GG} {EX : State → Prop} (hE : EXB G EX) {th : Nat} {a1 : Int64} {a2 : Int64} {h : AH} (t0 : KD th = 7) {r : AH} (hx : fX8_keepFraction th a1 a2 h = some r) : MetU l G EX mi_X8_keepFraction 0 0 [.ref (G.1 + th), .long a1, .long a2] h none r := by
  refine MetU.of mic_X8_keepFraction.1 (Nat.le_of_ble_eq_true rfl) ?_
  refine show U l G EX mi_X8_keepFraction 0 0 none r 0 [(0, .ref (G.1 + th)), (1, .long a1), (3, .long a2)] [] h from ?_
  unfold fX8_keepFraction at hx
  refine V.lload_n (j := 1) dX8_keepFraction_0 rfl rfl rfl ?_
  refine V.lstore [(5, .long a1), (0, .ref (G.1 + th)), (1, .long a1), (3, .long a2)] dX8_keepFraction_1 rfl (Nat.le_of_ble_eq_true rfl) rfl ?_
  refine V.lload_n (j := 3) dX8_keepFraction_3 rfl rfl rfl ?_
  refine V.lstore [(7, .long a2), (5, .long a1), (0, .ref (G.1 + th)), (1, .long a1), (3, .long a2)] dX8_keepFraction_4 rfl (Nat.le_of_ble_eq_true rfl) rfl ?_
  refine V.iconst dX8_keepFraction_6 rfl ki_0 ?_
  refine V.istore [(9, .int (0 : Int32)), (7, .long a2), (5, .long a1), (0, .ref (G.1 + th)), (1, .long a1), (3, .long a2)] dX8_keepFraction_7 rfl (Nat.le_of_ble_eq_true rfl) rfl ?_
  refine V.pick [3, 4, 5, 2, 1, 0] rfl ?_
  exact vX8_keepFraction_9 hE FU th a1 a2 a1 a2 (0 : Int32) h t0 hx
set_option maxRecDepth 100000 in
set_option maxHeartbeats 4000000 in
theorem vX8_fails_17 {l : Launch} {G : GG} {EX : State → Prop} (hE : EXB G EX) {r : Int32 × AH} : ∀ (l0 : Nat) (h : AH) (t0 : KD l0 = 7), fX8_fails_17 l0 h = some r → U l G EX mi_X8_fails 4 98 (some (.int r.1)) r.2 17 [(0, .ref (G.1 + l0))] [] h := by
  intro l0 h t0 hx
  unfold fX8_fails_17 at hx
  refine V.aload_n (j := 0) dX8_fails_17 rfl rfl rfl ?_
  refine V.bipush dX8_fails_18 rfl kb_m2 ?_
  obtain ⟨v5, h4, q3, hx⟩ := ob2_some hx
  refine U.callV (As := [.int (-2 : Int32)]) (rest := []) (st' := [.int v5]) hE.1 (mX8_refuse hE t0 q3) mic_X8_refuse rfl t0 (by decide) rfl rfl wq_m_X8_80 wq_i_yX8_refuse wq_s_yX8_refuse ⟨Nat.le_of_ble_eq_true rfl, Nat.le_of_ble_eq_true rfl⟩ (Nat.le_of_ble_eq_true rfl) dX8_fails_20 rfl rfl rfl ?_
  obtain rfl := Option.some.inj hx
  exact U.retI rfl rfl rfl rfl dX8_fails_23
set_option maxRecDepth 100000 in
set_option maxHeartbeats 4000000 in
theorem vX8_fails_126 {l : Launch} {G : GG} {EX : State → Prop} (hE : EXB G EX) {r : Int32 × AH} : ∀ (l0 : Nat) (l3 : Int32) (l4 : Int64) (h : AH) (t0 : KD l0 = 7), fX8_fails_126 l0 l3 l4 h = some r → U l G EX mi_X8_fails 4 98 (some (.int r.1)) r.2 126 [(0, .ref (G.1 + l0)), (3, .int l3), (4, .long l4)] [] h := by
  intro l0 l3 l4 h t0 hx
  unfold fX8_fails_126 at hx
  refine V.aload_n (j := 0) dX8_fails_126 rfl rfl rfl ?_
  refine V.lload (j := 2) dX8_fails_127 rfl rfl ?_
  refine V.ldc2_w dX8_fails_129 rfl wq_l_X8_282 ?_
  refine V.iload_n (j := 1) dX8_fails_132 rfl rfl rfl ?_
  obtain ⟨v11, q10, hx⟩ := ob_some hx
  refine U.callS (As := [.int l3]) (rest := [.long (10 : Int64), .long l4, .ref (G.1 + l0)]) (st' := [.int v11, .long (10 : Int64), .long l4, .ref (G.1 + l0)]) hE.1 (mJ6_bitCount_0f7a4 hE q10) mic_J6_bitCount_0f7a4 rfl wq_m_X8_206 wq_t_yJ6_bitCount_0f7a4 ⟨Nat.le_of_ble_eq_true rfl, Nat.le_of_ble_eq_true rfl⟩ (Nat.le_of_ble_eq_true rfl) dX8_fails_133 rfl rfl rfl ?_
  obtain ⟨v13, q12, hx⟩ := ob_some hx
  refine U.callS (As := [.long (10 : Int64), .int v11]) (rest := [.long l4, .ref (G.1 + l0)]) (st' := [.long v13, .long l4, .ref (G.1 + l0)]) hE.1 (mX8_power hE q12) mic_X8_power rfl wq_m_X8_284 wq_t_yX8_power ⟨Nat.le_of_ble_eq_true rfl, Nat.le_of_ble_eq_true rfl⟩ (Nat.le_of_ble_eq_true rfl) dX8_fails_136 rfl rfl rfl ?_
  obtain ⟨h15, q14, hx⟩ := ob_some hx
  refine U.callV (As := [.long l4, .long v13]) (rest := []) (st' := []) hE.1 (mX8_keepFraction hE t0 q14) mic_X8_keepFraction rfl t0 (by decide) rfl rfl wq_m_X8_288 wq_i_yX8_keepFraction wq_s_yX8_keepFraction ⟨Nat.le_of_ble_eq_true rfl, Nat.le_of_ble_eq_true rfl⟩ (Nat.le_of_ble_eq_true rfl) dX8_fails_139 rfl rfl rfl ?_
  refine V.iconst dX8_fails_142 rfl ki_1 ?_
  obtain rfl := Option.some.inj hx
  exact U.retI rfl rfl rfl rfl dX8_fails_143
set_option maxRecDepth 100000 in
set_option maxHeartbeats 4000000 in
theorem vX8_fails_41 {l : Launch} {G : GG} {EX : State → Prop} (hE : EXB G EX) {r : Int32 × AH} : ∀ (n : Nat) (l0 : Nat) (l1 : Int32) (l2 : Int32) (l3 : Int32) (l4 : Int64) (l6 : Int32) (h : AH) (t0 : KD l0 = 7), fX8_fails_41 n l0 l1 l2 l3 l4 l6 h = some r → U l G EX mi_X8_fails 4 98 (some (.int r.1)) r.2 41 [(0, .ref (G.1 + l0)), (1, .int l1), (2, .int l2), (3, .int l3), (4, .long l4), (6, .int l6)] [] h := by
  intro n
  induction n with
  | zero =>
    intro l0 l1 l2 l3 l4 l6 h t0 hx
    have hx : none = some r := hx
    cases hx
  | succ n ih =>
    intro l0 l1 l2 l3 l4 l6 h t0 hx
    rw [fX8_fails_41] at hx
    refine V.iload (j := 5) dX8_fails_41 rfl rfl ?_
    refine V.bipush dX8_fails_43 rfl kb_32 ?_
    refine V.icmp_ge (tgt := 126) hx dX8_fails_45 (by decide) rfl (fun hx => ?_) (fun hx => ?_)
    · refine V.pick [0, 3, 4] rfl ?_
      exact vX8_fails_126 hE l0 l3 l4 h t0 hx
    · refine V.iload (j := 5) dX8_fails_48 rfl rfl ?_
      refine V.iload_n (j := 3) dX8_fails_50 rfl rfl rfl ?_
      refine V.iconst dX8_fails_51 rfl ki_m1 ?_
      refine V.ixor dX8_fails_52 rfl ?_
      refine V.iand dX8_fails_53 rfl ?_
      refine V.if_ne (tgt := 120) hx dX8_fails_54 (by decide) rfl (fun hx => ?_) (fun hx => ?_)
      · refine U.iinc hx (fun v16 => [(6, .int v16), (0, .ref (G.1 + l0)), (1, .int l1), (2, .int l2), (3, .int l3), (4, .long l4)]) (j := 5) rfl (by decide) (Nat.le_of_ble_eq_true rfl) (fun _ => rfl) dX8_fails_120 rfl (fun v16 hx => ?_)
        refine V.goto (q := 41) dX8_fails_123 (by decide) ?_
        refine V.pick [1, 2, 3, 4, 5, 0] rfl ?_
        exact ih l0 l1 l2 l3 l4 v16 h t0 hx
      · refine V.aload_n (j := 0) dX8_fails_57 rfl rfl rfl ?_
        refine U.getP fl_X8_34 t0 dX8_fails_58 rfl ?_
        refine V.aload_n (j := 0) dX8_fails_61 rfl rfl rfl ?_
        refine U.getP fl_X8_10 t0 dX8_fails_62 rfl ?_
        refine U.getP fl_X8_60 (ty_X8_0 t0) dX8_fails_65 rfl ?_
        refine V.iload (j := 5) dX8_fails_68 rfl rfl ?_
        refine V.aload_n (j := 0) dX8_fails_70 rfl rfl rfl ?_
        refine U.getP fl_X8_10 t0 dX8_fails_71 rfl ?_
        refine U.getP fl_X8_60 (ty_X8_0 t0) dX8_fails_74 rfl ?_
        refine V.iconst dX8_fails_77 rfl ki_0 ?_
        obtain ⟨v18, q17, hx⟩ := ob_some hx
        refine U.callV (As := [.int (0 : Int32)]) (rest := [.int l6, .ref (G.1 + (PC (PC l0 0) 0)), .ref (G.1 + (PC l0 4))]) (st' := [.int v18, .int l6, .ref (G.1 + (PC (PC l0 0) 0)), .ref (G.1 + (PC l0 4))]) hE.1 (mX2_dayStep hE (ty_X0_0 (ty_X8_0 t0)) q17) mic_X2_dayStep rfl (ty_X0_0 (ty_X8_0 t0)) (by decide) rfl rfl wq_m_X8_160 wq_i_yX2_dayStep wq_s_yX2_dayStep ⟨Nat.le_of_ble_eq_true rfl, Nat.le_of_ble_eq_true rfl⟩ (Nat.le_of_ble_eq_true rfl) dX8_fails_78 rfl rfl rfl ?_
        obtain ⟨h20, q19, hx⟩ := ob_some hx
        refine U.callV (As := [.ref (G.1 + (PC (PC l0 0) 0)), .int l6, .int v18]) (rest := []) (st' := []) hE.1 (mX7_gauge hE (ty_X8_4 t0) (ty_X0_0 (ty_X8_0 t0)) q19) mic_X7_gauge rfl (ty_X8_4 t0) (by decide) rfl rfl wq_m_X8_191 wq_i_yX7_gauge wq_s_yX7_gauge ⟨Nat.le_of_ble_eq_true rfl, Nat.le_of_ble_eq_true rfl⟩ (Nat.le_of_ble_eq_true rfl) dX8_fails_81 rfl rfl rfl ?_
        refine V.aload_n (j := 0) dX8_fails_84 rfl rfl rfl ?_
        refine U.getP fl_X8_34 t0 dX8_fails_85 rfl ?_
        refine V.aload_n (j := 0) dX8_fails_88 rfl rfl rfl ?_
        refine U.getP fl_X8_10 t0 dX8_fails_89 rfl ?_
        refine U.getP fl_X8_60 (ty_X8_0 t0) dX8_fails_92 rfl ?_
        refine V.iload_n (j := 1) dX8_fails_95 rfl rfl rfl ?_
        obtain ⟨v22, q21, hx⟩ := ob_some hx
        refine U.callV (As := [.ref (G.1 + (PC (PC l0 0) 0)), .int l1]) (rest := []) (st' := [.int v22]) hE.1 (mX7_witnesses hE (ty_X8_4 t0) (ty_X0_0 (ty_X8_0 t0)) q21) mic_X7_witnesses rfl (ty_X8_4 t0) (by decide) rfl rfl wq_m_X8_195 wq_i_yX7_witnesses wq_s_yX7_witnesses ⟨Nat.le_of_ble_eq_true rfl, Nat.le_of_ble_eq_true rfl⟩ (Nat.le_of_ble_eq_true rfl) dX8_fails_96 rfl rfl rfl ?_
        obtain ⟨v24, q23, hx⟩ := ob_some hx
        refine U.callS (As := [.int v22]) (rest := []) (st' := [.int v24]) hE.1 (mJ6_bitCount_0f7a4 hE q23) mic_J6_bitCount_0f7a4 rfl wq_m_X8_206 wq_t_yJ6_bitCount_0f7a4 ⟨Nat.le_of_ble_eq_true rfl, Nat.le_of_ble_eq_true rfl⟩ (Nat.le_of_ble_eq_true rfl) dX8_fails_99 rfl rfl rfl ?_
        refine V.istore [(7, .int v24), (0, .ref (G.1 + l0)), (1, .int l1), (2, .int l2), (3, .int l3), (4, .long l4), (6, .int l6)] dX8_fails_102 rfl (Nat.le_of_ble_eq_true rfl) rfl ?_
        refine V.lload (j := 5) dX8_fails_104 rfl rfl ?_
        refine V.iload (j := 0) dX8_fails_106 rfl rfl ?_
        refine V.i2l dX8_fails_108 rfl ?_
        refine V.iload_n (j := 4) dX8_fails_109 rfl rfl rfl ?_
        refine V.iload (j := 6) dX8_fails_110 rfl rfl ?_
        refine V.iload_n (j := 3) dX8_fails_112 rfl rfl rfl ?_
        obtain ⟨v26, q25, hx⟩ := ob_some hx
        refine U.callS (As := [.int l3, .int l6, .int l2]) (rest := [.long v24.toInt64, .long l4]) (st' := [.long v26, .long v24.toInt64, .long l4]) hE.1 (mX8_oddsOf hE q25) mic_X8_oddsOf rfl wq_m_X8_278 wq_t_yX8_oddsOf ⟨Nat.le_of_ble_eq_true rfl, Nat.le_of_ble_eq_true rfl⟩ (Nat.le_of_ble_eq_true rfl) dX8_fails_113 rfl rfl rfl ?_
        refine V.lmul dX8_fails_116 rfl ?_
        refine V.ladd dX8_fails_117 rfl ?_
        refine U.letJ hx (fun v27 hx => ?_)
        refine V.lstore [(4, .long v27), (7, .int v24), (0, .ref (G.1 + l0)), (1, .int l1), (2, .int l2), (3, .int l3), (6, .int l6)] dX8_fails_118 rfl (Nat.le_of_ble_eq_true rfl) rfl ?_
        refine U.iinc hx (fun v28 => [(6, .int v28), (4, .long v27), (7, .int v24), (0, .ref (G.1 + l0)), (1, .int l1), (2, .int l2), (3, .int l3)]) (j := 6) rfl (by decide) (Nat.le_of_ble_eq_true rfl) (fun _ => rfl) dX8_fails_120 rfl (fun v28 hx => ?_)
        refine V.goto (q := 41) dX8_fails_123 (by decide) ?_
        refine V.pick [3, 4, 5, 6, 1, 0] rfl ?_
        exact ih l0 l1 l2 l3 v27 v28 h20 t0 hx
set_option maxRecDepth 100000 in
set_option maxHeartbeats 4000000 in
theorem mX8_fails {l : Launch} {G : GG} {EX : State → Prop} (hE : EXB G EX) {th : Nat} {a1 : Int32} {a2 : Int32} {h : AH} (t0 : KD th = 7) {r : Int32 × AH} (hx : fX8_fails th a1 a2 h = some r) : MetU l G EX mi_X8_fails 4 98 [.ref (G.1 + th), .int a1, .int a2] h (some (.int r.1)) r.2 := by
  refine MetU.of mic_X8_fails.1 (Nat.le_of_ble_eq_true rfl) ?_
  refine show U l G EX mi_X8_fails 4 98 (some (.int r.1)) r.2 0 [(0, .ref (G.1 + th)), (1, .int a1), (2, .int a2)] [] h from ?_
  unfold fX8_fails at hx
  refine V.iload_n (j := 1) dX8_fails_0 rfl rfl rfl ?_
  obtain ⟨v2, q1, hx⟩ := ob_some hx
  refine U.callS (As := [.int a1]) (rest := []) (st' := [.int v2]) hE.1 (mX8_isCell hE q1) mic_X8_isCell rfl wq_m_X8_74 wq_t_yX8_isCell ⟨Nat.le_of_ble_eq_true rfl, Nat.le_of_ble_eq_true rfl⟩ (Nat.le_of_ble_eq_true rfl) dX8_fails_1 rfl rfl rfl ?_
  refine V.if_eq (tgt := 17) hx dX8_fails_4 (by decide) rfl (fun hx => ?_) (fun hx => ?_)
  · refine V.pick [0] rfl ?_
    exact vX8_fails_17 hE th h t0 hx
  · refine V.iload_n (j := 2) dX8_fails_7 rfl rfl rfl ?_
    refine V.iconst dX8_fails_8 rfl ki_0 ?_
    refine V.bipush dX8_fails_9 rfl kb_10 ?_
    obtain ⟨v7, q6, hx⟩ := ob_some hx
    refine U.callS (As := [.int a2, .int (0 : Int32), .int (10 : Int32)]) (rest := []) (st' := [.int v7]) hE.1 (mX8_within hE q6) mic_X8_within rfl wq_m_X8_104 wq_t_yX8_within ⟨Nat.le_of_ble_eq_true rfl, Nat.le_of_ble_eq_true rfl⟩ (Nat.le_of_ble_eq_true rfl) dX8_fails_11 rfl rfl rfl ?_
    refine V.if_ne (tgt := 24) hx dX8_fails_14 (by decide) rfl (fun hx => ?_) (fun hx => ?_)
    · refine V.aload_n (j := 0) dX8_fails_24 rfl rfl rfl ?_
      refine U.getP fl_X8_10 t0 dX8_fails_25 rfl ?_
      refine U.getP fl_X8_60 (ty_X8_0 t0) dX8_fails_28 rfl ?_
      obtain ⟨v9, q8, hx⟩ := ob_some hx
      refine U.callV (As := []) (rest := []) (st' := [.int v9]) hE.1 (mX2_onBits hE (ty_X0_0 (ty_X8_0 t0)) q8) mic_X2_onBits rfl (ty_X0_0 (ty_X8_0 t0)) (by decide) rfl rfl wq_m_X8_166 wq_i_yX2_onBits wq_s_yX2_onBits ⟨Nat.le_of_ble_eq_true rfl, Nat.le_of_ble_eq_true rfl⟩ (Nat.le_of_ble_eq_true rfl) dX8_fails_31 rfl rfl rfl ?_
      refine V.istore_n [(3, .int v9), (0, .ref (G.1 + th)), (1, .int a1), (2, .int a2)] dX8_fails_34 rfl rfl (Nat.le_of_ble_eq_true rfl) rfl ?_
      refine V.lconst dX8_fails_35 rfl kl_0 ?_
      refine V.lstore [(4, .long (0 : Int64)), (3, .int v9), (0, .ref (G.1 + th)), (1, .int a1), (2, .int a2)] dX8_fails_36 rfl (Nat.le_of_ble_eq_true rfl) rfl ?_
      refine V.iconst dX8_fails_38 rfl ki_0 ?_
      refine V.istore [(6, .int (0 : Int32)), (4, .long (0 : Int64)), (3, .int v9), (0, .ref (G.1 + th)), (1, .int a1), (2, .int a2)] dX8_fails_39 rfl (Nat.le_of_ble_eq_true rfl) rfl ?_
      refine V.pick [3, 4, 5, 2, 1, 0] rfl ?_
      exact vX8_fails_41 hE FU th a1 a2 v9 (0 : Int64) (0 : Int32) h t0 hx
    · refine V.pick [0] rfl ?_
      exact vX8_fails_17 hE th h t0 hx
set_option maxRecDepth 100000 in
set_option maxHeartbeats 4000000 in
theorem vX8_years_21 {l : Launch} {G : GG} {EX : State → Prop} (hE : EXB G EX) {r : Int32 × AH} : ∀ (l0 : Nat) (h : AH) (t0 : KD l0 = 7), fX8_years_21 l0 h = some r → U l G EX mi_X8_years 5 121 (some (.int r.1)) r.2 21 [(0, .ref (G.1 + l0))] [] h := by
  intro l0 h t0 hx
  unfold fX8_years_21 at hx
  refine V.aload_n (j := 0) dX8_years_21 rfl rfl rfl ?_
  refine V.bipush dX8_years_22 rfl kb_m2 ?_
  obtain ⟨v5, h4, q3, hx⟩ := ob2_some hx
  refine U.callV (As := [.int (-2 : Int32)]) (rest := []) (st' := [.int v5]) hE.1 (mX8_refuse hE t0 q3) mic_X8_refuse rfl t0 (by decide) rfl rfl wq_m_X8_80 wq_i_yX8_refuse wq_s_yX8_refuse ⟨Nat.le_of_ble_eq_true rfl, Nat.le_of_ble_eq_true rfl⟩ (Nat.le_of_ble_eq_true rfl) dX8_years_24 rfl rfl rfl ?_
  obtain rfl := Option.some.inj hx
  exact U.retI rfl rfl rfl rfl dX8_years_27
set_option maxRecDepth 100000 in
set_option maxHeartbeats 4000000 in
theorem vX8_years_37 {l : Launch} {G : GG} {EX : State → Prop} (hE : EXB G EX) {r : Int32 × AH} : ∀ (n : Nat) (l0 : Nat) (l2 : Int32) (l3 : Int64) (l5 : Int32) (l6 : Int32) (h : AH) (t0 : KD l0 = 7), fX8_years_37 n l0 l2 l3 l5 l6 h = some r → U l G EX mi_X8_years 5 121 (some (.int r.1)) r.2 37 [(0, .ref (G.1 + l0)), (2, .int l2), (3, .long l3), (5, .int l5), (6, .int l6)] [] h := by
  intro n
  induction n with
  | zero =>
    intro l0 l2 l3 l5 l6 h t0 hx
    have hx : none = some r := hx
    cases hx
  | succ n ih =>
    intro l0 l2 l3 l5 l6 h t0 hx
    rw [fX8_years_37] at hx
    refine V.iload (j := 4) dX8_years_37 rfl rfl ?_
    refine V.iload_n (j := 1) dX8_years_39 rfl rfl rfl ?_
    refine V.icmp_ge (tgt := 111) hx dX8_years_40 (by decide) rfl (fun hx => ?_) (fun hx => ?_)
    · refine V.iload (j := 3) dX8_years_111 rfl rfl ?_
      obtain rfl := Option.some.inj hx
      exact U.retI rfl rfl rfl rfl dX8_years_113
    · refine V.lload_n (j := 2) dX8_years_43 rfl rfl rfl ?_
      refine V.ldc2_w dX8_years_44 rfl wq_l_X8_293 ?_
      refine V.lmul dX8_years_47 rfl ?_
      refine V.ldc2_w dX8_years_48 rfl wq_l_X8_295 ?_
      refine V.ladd dX8_years_51 rfl ?_
      refine V.ldc2_w dX8_years_52 rfl wq_l_X8_297 ?_
      refine V.lrem dX8_years_55 rfl (by decide) ?_
      refine U.letJ hx (fun v9 hx => ?_)
      refine V.lstore_n [(3, .long v9), (0, .ref (G.1 + l0)), (2, .int l2), (5, .int l5), (6, .int l6)] dX8_years_56 rfl rfl (Nat.le_of_ble_eq_true rfl) rfl ?_
      refine V.lload_n (j := 0) dX8_years_57 rfl rfl rfl ?_
      refine V.ldc2_w dX8_years_58 rfl wq_l_X8_299 ?_
      refine V.ldiv dX8_years_61 rfl (by decide) ?_
      refine V.ldc2_w dX8_years_62 rfl wq_l_X8_301 ?_
      refine V.lrem dX8_years_65 rfl (by decide) ?_
      refine V.l2i dX8_years_66 rfl ?_
      refine U.letI hx (fun v10 hx => ?_)
      refine V.istore [(7, .int v10), (3, .long v9), (0, .ref (G.1 + l0)), (2, .int l2), (5, .int l5), (6, .int l6)] dX8_years_67 rfl (Nat.le_of_ble_eq_true rfl) rfl ?_
      refine V.iload (j := 4) dX8_years_69 rfl rfl ?_
      refine V.aload_n (j := 2) dX8_years_71 rfl rfl rfl ?_
      refine U.getP fl_X8_34 t0 dX8_years_72 rfl ?_
      refine V.aload_n (j := 2) dX8_years_75 rfl rfl rfl ?_
      refine U.getP fl_X8_10 t0 dX8_years_76 rfl ?_
      refine U.getP fl_X8_60 (ty_X8_0 t0) dX8_years_79 rfl ?_
      refine V.iload (j := 0) dX8_years_82 rfl rfl ?_
      refine V.aload_n (j := 2) dX8_years_84 rfl rfl rfl ?_
      refine U.getP fl_X8_10 t0 dX8_years_85 rfl ?_
      refine U.getP fl_X8_60 (ty_X8_0 t0) dX8_years_88 rfl ?_
      refine V.iload (j := 5) dX8_years_91 rfl rfl ?_
      obtain ⟨v12, q11, hx⟩ := ob_some hx
      refine U.callV (As := [.int l6]) (rest := [.int v10, .ref (G.1 + (PC (PC l0 0) 0)), .ref (G.1 + (PC l0 4)), .int l5]) (st' := [.int v12, .int v10, .ref (G.1 + (PC (PC l0 0) 0)), .ref (G.1 + (PC l0 4)), .int l5]) hE.1 (mX2_dayStep hE (ty_X0_0 (ty_X8_0 t0)) q11) mic_X2_dayStep rfl (ty_X0_0 (ty_X8_0 t0)) (by decide) rfl rfl wq_m_X8_160 wq_i_yX2_dayStep wq_s_yX2_dayStep ⟨Nat.le_of_ble_eq_true rfl, Nat.le_of_ble_eq_true rfl⟩ (Nat.le_of_ble_eq_true rfl) dX8_years_93 rfl rfl rfl ?_
      obtain ⟨v15, h14, q13, hx⟩ := ob2_some hx
      refine U.callV (As := [.ref (G.1 + (PC (PC l0 0) 0)), .int v10, .int v12]) (rest := [.int l5]) (st' := [.int v15, .int l5]) hE.1 (mX7_whoSees hE (ty_X8_4 t0) (ty_X0_0 (ty_X8_0 t0)) q13) mic_X7_whoSees rfl (ty_X8_4 t0) (by decide) rfl rfl wq_m_X8_184 wq_i_yX7_whoSees wq_s_yX7_whoSees ⟨Nat.le_of_ble_eq_true rfl, Nat.le_of_ble_eq_true rfl⟩ (Nat.le_of_ble_eq_true rfl) dX8_years_96 rfl rfl rfl ?_
      obtain ⟨v17, q16, hx⟩ := ob_some hx
      refine U.callS (As := [.int v15]) (rest := [.int l5]) (st' := [.int v17, .int l5]) hE.1 (mJ6_bitCount_0f7a4 hE q16) mic_J6_bitCount_0f7a4 rfl wq_m_X8_206 wq_t_yJ6_bitCount_0f7a4 ⟨Nat.le_of_ble_eq_true rfl, Nat.le_of_ble_eq_true rfl⟩ (Nat.le_of_ble_eq_true rfl) dX8_years_99 rfl rfl rfl ?_
      refine V.iadd dX8_years_102 rfl ?_
      refine U.letI hx (fun v18 hx => ?_)
      refine V.istore [(5, .int v18), (7, .int v10), (3, .long v9), (0, .ref (G.1 + l0)), (2, .int l2), (6, .int l6)] dX8_years_103 rfl (Nat.le_of_ble_eq_true rfl) rfl ?_
      refine U.iinc hx (fun v19 => [(6, .int v19), (5, .int v18), (7, .int v10), (3, .long v9), (0, .ref (G.1 + l0)), (2, .int l2)]) (j := 5) rfl (by decide) (Nat.le_of_ble_eq_true rfl) (fun _ => rfl) dX8_years_105 rfl (fun v19 hx => ?_)
      refine V.goto (q := 37) dX8_years_108 (by decide) ?_
      refine V.pick [4, 5, 3, 1, 0] rfl ?_
      exact ih l0 l2 v9 v18 v19 h14 t0 hx
set_option maxRecDepth 100000 in
set_option maxHeartbeats 4000000 in
theorem mX8_years {l : Launch} {G : GG} {EX : State → Prop} (hE : EXB G EX) {th : Nat} {a1 : Int32} {a2 : Int32} {h : AH} (t0 : KD th = 7) {r : Int32 × AH} (hx : fX8_years th a1 a2 h = some r) : MetU l G EX mi_X8_years 5 121 [.ref (G.1 + th), .int a1, .int a2] h (some (.int r.1)) r.2 := by
  refine MetU.of mic_X8_years.1 (Nat.le_of_ble_eq_true rfl) ?_
  refine show U l G EX mi_X8_years 5 121 (some (.int r.1)) r.2 0 [(0, .ref (G.1 + th)), (1, .int a1), (2, .int a2)] [] h from ?_
  unfold fX8_years at hx
  refine V.iload_n (j := 1) dX8_years_0 rfl rfl rfl ?_
  refine V.iconst dX8_years_1 rfl ki_0 ?_
  refine V.ldc_w dX8_years_2 rfl wq_k_X8_292 ?_
  obtain ⟨v2, q1, hx⟩ := ob_some hx
  refine U.callS (As := [.int a1, .int (0 : Int32), .int (999999 : Int32)]) (rest := []) (st' := [.int v2]) hE.1 (mX8_within hE q1) mic_X8_within rfl wq_m_X8_104 wq_t_yX8_within ⟨Nat.le_of_ble_eq_true rfl, Nat.le_of_ble_eq_true rfl⟩ (Nat.le_of_ble_eq_true rfl) dX8_years_5 rfl rfl rfl ?_
  refine V.if_eq (tgt := 21) hx dX8_years_8 (by decide) rfl (fun hx => ?_) (fun hx => ?_)
  · refine V.pick [0] rfl ?_
    exact vX8_years_21 hE th h t0 hx
  · refine V.iload_n (j := 2) dX8_years_11 rfl rfl rfl ?_
    refine V.iconst dX8_years_12 rfl ki_0 ?_
    refine V.bipush dX8_years_13 rfl kb_60 ?_
    obtain ⟨v7, q6, hx⟩ := ob_some hx
    refine U.callS (As := [.int a2, .int (0 : Int32), .int (60 : Int32)]) (rest := []) (st' := [.int v7]) hE.1 (mX8_within hE q6) mic_X8_within rfl wq_m_X8_104 wq_t_yX8_within ⟨Nat.le_of_ble_eq_true rfl, Nat.le_of_ble_eq_true rfl⟩ (Nat.le_of_ble_eq_true rfl) dX8_years_15 rfl rfl rfl ?_
    refine V.if_ne (tgt := 28) hx dX8_years_18 (by decide) rfl (fun hx => ?_) (fun hx => ?_)
    · refine V.iload_n (j := 1) dX8_years_28 rfl rfl rfl ?_
      refine V.i2l dX8_years_29 rfl ?_
      refine U.letJ hx (fun v8 hx => ?_)
      refine V.lstore_n [(3, .long v8), (0, .ref (G.1 + th)), (1, .int a1), (2, .int a2)] dX8_years_30 rfl rfl (Nat.le_of_ble_eq_true rfl) rfl ?_
      refine V.iconst dX8_years_31 rfl ki_0 ?_
      refine V.istore [(5, .int (0 : Int32)), (3, .long v8), (0, .ref (G.1 + th)), (1, .int a1), (2, .int a2)] dX8_years_32 rfl (Nat.le_of_ble_eq_true rfl) rfl ?_
      refine V.iconst dX8_years_34 rfl ki_0 ?_
      refine V.istore [(6, .int (0 : Int32)), (5, .int (0 : Int32)), (3, .long v8), (0, .ref (G.1 + th)), (1, .int a1), (2, .int a2)] dX8_years_35 rfl (Nat.le_of_ble_eq_true rfl) rfl ?_
      refine V.pick [3, 5, 2, 1, 0] rfl ?_
      exact vX8_years_37 hE FU th a2 v8 (0 : Int32) (0 : Int32) h t0 hx
    · refine V.pick [0] rfl ?_
      exact vX8_years_21 hE th h t0 hx
set_option maxRecDepth 100000 in
set_option maxHeartbeats 4000000 in
theorem mX8_part {l : Launch} {G : GG} {EX : State → Prop} (hE : EXB G EX) {th : Nat} {a1 : Int32} {h : AH} (t0 : KD th = 7) {r : Int64 × AH} (hx : fX8_part th a1 h = some r) : MetU l G EX mi_X8_part 1 22 [.ref (G.1 + th), .int a1] h (some (.long r.1)) r.2 := by
  refine MetU.of mic_X8_part.1 (Nat.le_of_ble_eq_true rfl) ?_
  refine show U l G EX mi_X8_part 1 22 (some (.long r.1)) r.2 0 [(0, .ref (G.1 + th)), (1, .int a1)] [] h from ?_
  unfold fX8_part at hx
  refine V.iload_n (j := 1) dX8_part_0 rfl rfl rfl ?_
  refine V.iconst dX8_part_1 rfl ki_0 ?_
  refine V.iconst dX8_part_2 rfl ki_1 ?_
  obtain ⟨v2, q1, hx⟩ := ob_some hx
  refine U.callS (As := [.int a1, .int (0 : Int32), .int (1 : Int32)]) (rest := []) (st' := [.int v2]) hE.1 (mX8_within hE q1) mic_X8_within rfl wq_m_X8_104 wq_t_yX8_within ⟨Nat.le_of_ble_eq_true rfl, Nat.le_of_ble_eq_true rfl⟩ (Nat.le_of_ble_eq_true rfl) dX8_part_3 rfl rfl rfl ?_
  refine V.if_ne (tgt := 17) hx dX8_part_6 (by decide) rfl (fun hx => ?_) (fun hx => ?_)
  · refine V.iload_n (j := 1) dX8_part_17 rfl rfl rfl ?_
    refine V.if_ne (tgt := 28) hx dX8_part_18 (by decide) rfl (fun hx => ?_) (fun hx => ?_)
    · refine V.aload_n (j := 0) dX8_part_28 rfl rfl rfl ?_
      refine U.getJ fl_X8_56 t0 dX8_part_29 rfl ?_
      obtain rfl := Option.some.inj hx
      exact U.retJ rfl rfl rfl dX8_part_32
    · refine V.aload_n (j := 0) dX8_part_21 rfl rfl rfl ?_
      refine U.getJ fl_X8_303 t0 dX8_part_22 rfl ?_
      refine V.goto (q := 32) dX8_part_25 (by decide) ?_
      obtain rfl := Option.some.inj hx
      exact U.retJ rfl rfl rfl dX8_part_32
  · refine V.aload_n (j := 0) dX8_part_9 rfl rfl rfl ?_
    refine V.bipush dX8_part_10 rfl kb_m2 ?_
    obtain ⟨v5, h4, q3, hx⟩ := ob2_some hx
    refine U.callV (As := [.int (-2 : Int32)]) (rest := []) (st' := [.int v5]) hE.1 (mX8_refuse hE t0 q3) mic_X8_refuse rfl t0 (by decide) rfl rfl wq_m_X8_80 wq_i_yX8_refuse wq_s_yX8_refuse ⟨Nat.le_of_ble_eq_true rfl, Nat.le_of_ble_eq_true rfl⟩ (Nat.le_of_ble_eq_true rfl) dX8_part_12 rfl rfl rfl ?_
    refine V.i2l dX8_part_15 rfl ?_
    obtain rfl := Option.some.inj hx
    exact U.retJ rfl rfl rfl dX8_part_16
set_option maxRecDepth 100000 in
set_option maxHeartbeats 4000000 in
theorem mX8_isImage {l : Launch} {G : GG} {EX : State → Prop} (hE : EXB G EX) {th : Nat} {a1 : Int32} {h : AH} (t0 : KD th = 7) {r : Int32} (hx : fX8_isImage th a1 h = some r) : MetU l G EX mi_X8_isImage 0 0 [.ref (G.1 + th), .int a1] h (some (.int r)) h := by
  refine MetU.of mic_X8_isImage.1 (Nat.le_of_ble_eq_true rfl) ?_
  refine show U l G EX mi_X8_isImage 0 0 (some (.int r)) h 0 [(0, .ref (G.1 + th)), (1, .int a1)] [] h from ?_
  unfold fX8_isImage at hx
  refine V.iload_n (j := 1) dX8_isImage_0 rfl rfl rfl ?_
  refine V.if_lt (tgt := 35) hx dX8_isImage_1 (by decide) rfl (fun hx => ?_) (fun hx => ?_)
  · refine V.iconst dX8_isImage_35 rfl ki_0 ?_
    obtain rfl := Option.some.inj hx
    exact U.retI rfl rfl rfl rfl dX8_isImage_36
  · refine V.iload_n (j := 1) dX8_isImage_4 rfl rfl rfl ?_
    refine V.aload_n (j := 0) dX8_isImage_5 rfl rfl rfl ?_
    refine U.getP fl_X8_16 t0 dX8_isImage_6 rfl ?_
    refine U.alen (ty_X8_1 t0) (by decide) dX8_isImage_9 rfl ?_
    refine V.icmp_ge (tgt := 35) hx dX8_isImage_10 (by decide) rfl (fun hx => ?_) (fun hx => ?_)
    · refine V.iconst dX8_isImage_35 rfl ki_0 ?_
      obtain rfl := Option.some.inj hx
      exact U.retI rfl rfl rfl rfl dX8_isImage_36
    · refine V.iload_n (j := 1) dX8_isImage_13 rfl rfl rfl ?_
      refine V.aload_n (j := 0) dX8_isImage_14 rfl rfl rfl ?_
      refine U.getP fl_X8_20 t0 dX8_isImage_15 rfl ?_
      refine U.alen (ty_X8_2 t0) (by decide) dX8_isImage_18 rfl ?_
      refine V.icmp_ge (tgt := 35) hx dX8_isImage_19 (by decide) rfl (fun hx => ?_) (fun hx => ?_)
      · refine V.iconst dX8_isImage_35 rfl ki_0 ?_
        obtain rfl := Option.some.inj hx
        exact U.retI rfl rfl rfl rfl dX8_isImage_36
      · refine V.aload_n (j := 0) dX8_isImage_22 rfl rfl rfl ?_
        refine U.getP fl_X8_16 t0 dX8_isImage_23 rfl ?_
        refine V.iload_n (j := 1) dX8_isImage_26 rfl rfl rfl ?_
        refine U.aald hx (ty_X8_1 t0) (by decide) dX8_isImage_27 rfl (fun g1 hx => ?_)
        refine V.ifnull dX8_isImage_28 rfl ?_
        refine V.iconst dX8_isImage_31 rfl ki_1 ?_
        refine V.goto (q := 36) dX8_isImage_32 (by decide) ?_
        obtain rfl := Option.some.inj hx
        exact U.retI rfl rfl rfl rfl dX8_isImage_36
set_option maxRecDepth 100000 in
set_option maxHeartbeats 4000000 in
theorem vX3_copyOf_10 {l : Launch} {G : GG} {EX : State → Prop} (hE : EXB G EX) {r : AH} : ∀ (n : Nat) (l0 : Nat) (l1 : Nat) (l2 : Int32) (h : AH) (t0 : KD l0 = 2) (t1 : KD l1 = 2), fX3_copyOf_10 n l0 l1 l2 h = some r → U l G EX mi_X3_copyOf 2 44 none r 10 [(0, .ref (G.1 + l0)), (1, .ref (G.1 + l1)), (2, .int l2)] [] h := by
  intro n
  induction n with
  | zero =>
    intro l0 l1 l2 h t0 t1 hx
    have hx : none = some r := hx
    cases hx
  | succ n ih =>
    intro l0 l1 l2 h t0 t1 hx
    rw [fX3_copyOf_10] at hx
    refine V.iload_n (j := 2) dX3_copyOf_10 rfl rfl rfl ?_
    refine V.aload_n (j := 0) dX3_copyOf_11 rfl rfl rfl ?_
    refine U.getI fl_X3_18 t0 dX3_copyOf_12 rfl ?_
    refine V.icmp_ge (tgt := 44) hx dX3_copyOf_15 (by decide) rfl (fun hx => ?_) (fun hx => ?_)
    · obtain rfl := Option.some.inj hx
      exact U.ret0 rfl rfl rfl dX3_copyOf_44
    · refine V.iload_n (j := 2) dX3_copyOf_18 rfl rfl rfl ?_
      refine V.aload_n (j := 1) dX3_copyOf_19 rfl rfl rfl ?_
      refine U.getP fl_X3_11 t1 dX3_copyOf_20 rfl ?_
      refine U.alen (ty_X3_0 t1) (by decide) dX3_copyOf_23 rfl ?_
      refine V.icmp_ge (tgt := 44) hx dX3_copyOf_24 (by decide) rfl (fun hx => ?_) (fun hx => ?_)
      · obtain rfl := Option.some.inj hx
        exact U.ret0 rfl rfl rfl dX3_copyOf_44
      · refine V.aload_n (j := 0) dX3_copyOf_27 rfl rfl rfl ?_
        refine V.iload_n (j := 2) dX3_copyOf_28 rfl rfl rfl ?_
        refine V.aload_n (j := 1) dX3_copyOf_29 rfl rfl rfl ?_
        refine U.getP fl_X3_11 t1 dX3_copyOf_30 rfl ?_
        refine V.iload_n (j := 2) dX3_copyOf_33 rfl rfl rfl ?_
        refine U.aald hx (ty_X3_0 t1) (by decide) dX3_copyOf_34 rfl (fun g2 hx => ?_)
        obtain ⟨h4, q3, hx⟩ := ob_some hx
        refine U.callV (As := [.int l2, .ref (G.1 + (hQ h (PC l1 0) (ix l2)))]) (rest := []) (st' := []) hE.1 (mX3_keepAt hE t0 g2 q3) mic_X3_keepAt rfl t0 (by decide) rfl rfl wq_m_X3_25 wq_i_yX3_keepAt wq_s_yX3_keepAt ⟨Nat.le_of_ble_eq_true rfl, Nat.le_of_ble_eq_true rfl⟩ (Nat.le_of_ble_eq_true rfl) dX3_copyOf_35 rfl rfl rfl ?_
        refine U.iinc hx (fun v5 => [(2, .int v5), (0, .ref (G.1 + l0)), (1, .ref (G.1 + l1))]) (j := 2) rfl (by decide) (Nat.le_of_ble_eq_true rfl) (fun _ => rfl) dX3_copyOf_38 rfl (fun v5 hx => ?_)
        refine V.goto (q := 10) dX3_copyOf_41 (by decide) ?_
        refine V.pick [1, 2, 0] rfl ?_
        exact ih l0 l1 v5 h4 t0 t1 hx
set_option maxRecDepth 100000 in
set_option maxHeartbeats 4000000 in
theorem mX3_copyOf {l : Launch} {G : GG} {EX : State → Prop} (hE : EXB G EX) {th : Nat} {a1 : Nat} {h : AH} (t0 : KD th = 2) (t1 : KD a1 = 2) {r : AH} (hx : fX3_copyOf th a1 h = some r) : MetU l G EX mi_X3_copyOf 2 44 [.ref (G.1 + th), .ref (G.1 + a1)] h none r := by
  refine MetU.of mic_X3_copyOf.1 (Nat.le_of_ble_eq_true rfl) ?_
  refine show U l G EX mi_X3_copyOf 2 44 none r 0 [(0, .ref (G.1 + th)), (1, .ref (G.1 + a1))] [] h from ?_
  unfold fX3_copyOf at hx
  refine V.aload_n (j := 0) dX3_copyOf_0 rfl rfl rfl ?_
  refine V.aload_n (j := 1) dX3_copyOf_1 rfl rfl rfl ?_
  refine U.getI fl_X3_18 t1 dX3_copyOf_2 rfl ?_
  refine U.putI hx fl_X3_18 t0 rfl rfl dX3_copyOf_5 rfl (fun h1 hx => ?_)
  refine V.iconst dX3_copyOf_8 rfl ki_0 ?_
  refine V.istore_n [(2, .int (0 : Int32)), (0, .ref (G.1 + th)), (1, .ref (G.1 + a1))] dX3_copyOf_9 rfl rfl (Nat.le_of_ble_eq_true rfl) rfl ?_
  refine V.pick [1, 2, 0] rfl ?_
  exact vX3_copyOf_10 hE FU th a1 (0 : Int32) h1 t0 t1 hx
set_option maxRecDepth 100000 in
set_option maxHeartbeats 4000000 in
theorem vX6_copyOf_10 {l : Launch} {G : GG} {EX : State → Prop} (hE : EXB G EX) {r : AH} : ∀ (n : Nat) (l0 : Nat) (l1 : Nat) (l2 : Int32) (h : AH) (t0 : KD l0 = 5) (t1 : KD l1 = 5), fX6_copyOf_10 n l0 l1 l2 h = some r → U l G EX mi_X6_copyOf 0 0 none r 10 [(0, .ref (G.1 + l0)), (1, .ref (G.1 + l1)), (2, .int l2)] [] h := by
  intro n
  induction n with
  | zero =>
    intro l0 l1 l2 h t0 t1 hx
    have hx : none = some r := hx
    cases hx
  | succ n ih =>
    intro l0 l1 l2 h t0 t1 hx
    rw [fX6_copyOf_10] at hx
    refine V.iload_n (j := 2) dX6_copyOf_10 rfl rfl rfl ?_
    refine V.aload_n (j := 0) dX6_copyOf_11 rfl rfl rfl ?_
    refine U.getP fl_X6_9 t0 dX6_copyOf_12 rfl ?_
    refine U.alen (ty_X6_0 t0) (by decide) dX6_copyOf_15 rfl ?_
    refine V.icmp_ge (tgt := 37) hx dX6_copyOf_16 (by decide) rfl (fun hx => ?_) (fun hx => ?_)
    · obtain rfl := Option.some.inj hx
      exact U.ret0 rfl rfl rfl dX6_copyOf_37
    · refine V.aload_n (j := 0) dX6_copyOf_19 rfl rfl rfl ?_
      refine U.getP fl_X6_9 t0 dX6_copyOf_20 rfl ?_
      refine V.iload_n (j := 2) dX6_copyOf_23 rfl rfl rfl ?_
      refine V.aload_n (j := 1) dX6_copyOf_24 rfl rfl rfl ?_
      refine U.getP fl_X6_9 t1 dX6_copyOf_25 rfl ?_
      refine V.iload_n (j := 2) dX6_copyOf_28 rfl rfl rfl ?_
      refine U.iald hx (ty_X6_0 t1) dX6_copyOf_29 rfl (fun hx => ?_)
      refine U.iast hx (ty_X6_0 t0) dX6_copyOf_30 rfl (fun h2 hx => ?_)
      refine U.iinc hx (fun v3 => [(2, .int v3), (0, .ref (G.1 + l0)), (1, .ref (G.1 + l1))]) (j := 2) rfl (by decide) (Nat.le_of_ble_eq_true rfl) (fun _ => rfl) dX6_copyOf_31 rfl (fun v3 hx => ?_)
      refine V.goto (q := 10) dX6_copyOf_34 (by decide) ?_
      refine V.pick [1, 2, 0] rfl ?_
      exact ih l0 l1 v3 h2 t0 t1 hx
set_option maxRecDepth 100000 in
set_option maxHeartbeats 4000000 in
theorem mX6_copyOf {l : Launch} {G : GG} {EX : State → Prop} (hE : EXB G EX) {th : Nat} {a1 : Nat} {h : AH} (t0 : KD th = 5) (t1 : KD a1 = 5) {r : AH} (hx : fX6_copyOf th a1 h = some r) : MetU l G EX mi_X6_copyOf 0 0 [.ref (G.1 + th), .ref (G.1 + a1)] h none r := by
  refine MetU.of mic_X6_copyOf.1 (Nat.le_of_ble_eq_true rfl) ?_
  refine show U l G EX mi_X6_copyOf 0 0 none r 0 [(0, .ref (G.1 + th)), (1, .ref (G.1 + a1))] [] h from ?_
  unfold fX6_copyOf at hx
  refine V.aload_n (j := 0) dX6_copyOf_0 rfl rfl rfl ?_
  refine V.aload_n (j := 1) dX6_copyOf_1 rfl rfl rfl ?_
  refine U.getI fl_X6_15 t1 dX6_copyOf_2 rfl ?_
  refine U.putI hx fl_X6_15 t0 rfl rfl dX6_copyOf_5 rfl (fun h1 hx => ?_)
  refine V.iconst dX6_copyOf_8 rfl ki_0 ?_
  refine V.istore_n [(2, .int (0 : Int32)), (0, .ref (G.1 + th)), (1, .ref (G.1 + a1))] dX6_copyOf_9 rfl rfl (Nat.le_of_ble_eq_true rfl) rfl ?_
  refine V.pick [1, 2, 0] rfl ?_
  exact vX6_copyOf_10 hE FU th a1 (0 : Int32) h1 t0 t1 hx
set_option maxRecDepth 100000 in
set_option maxHeartbeats 4000000 in
theorem mX0_copyOf {l : Launch} {G : GG} {EX : State → Prop} (hE : EXB G EX) {th : Nat} {a1 : Nat} {h : AH} (t0 : KD th = 0) (t1 : KD a1 = 0) {r : AH} (hx : fX0_copyOf th a1 h = some r) : MetU l G EX mi_X0_copyOf 3 66 [.ref (G.1 + th), .ref (G.1 + a1)] h none r := by
  refine MetU.of mic_X0_copyOf.1 (Nat.le_of_ble_eq_true rfl) ?_
  refine show U l G EX mi_X0_copyOf 3 66 none r 0 [(0, .ref (G.1 + th)), (1, .ref (G.1 + a1))] [] h from ?_
  unfold fX0_copyOf at hx
  refine V.aload_n (j := 0) dX0_copyOf_0 rfl rfl rfl ?_
  refine U.getP fl_X0_10 t0 dX0_copyOf_1 rfl ?_
  refine V.aload_n (j := 1) dX0_copyOf_4 rfl rfl rfl ?_
  refine U.getP fl_X0_10 t1 dX0_copyOf_5 rfl ?_
  obtain ⟨h2, q1, hx⟩ := ob_some hx
  refine U.callV (As := [.ref (G.1 + (PC a1 0))]) (rest := []) (st' := []) hE.1 (mX2_copyOf hE (ty_X0_0 t0) (ty_X0_0 t1) q1) mic_X2_copyOf rfl (ty_X0_0 t0) (by decide) rfl rfl wq_m_X0_44 wq_i_yX2_copyOf wq_s_yX2_copyOf ⟨Nat.le_of_ble_eq_true rfl, Nat.le_of_ble_eq_true rfl⟩ (Nat.le_of_ble_eq_true rfl) dX0_copyOf_8 rfl rfl rfl ?_
  refine V.aload_n (j := 0) dX0_copyOf_11 rfl rfl rfl ?_
  refine U.getP fl_X0_19 t0 dX0_copyOf_12 rfl ?_
  refine V.aload_n (j := 1) dX0_copyOf_15 rfl rfl rfl ?_
  refine U.getP fl_X0_19 t1 dX0_copyOf_16 rfl ?_
  obtain ⟨h4, q3, hx⟩ := ob_some hx
  refine U.callV (As := [.ref (G.1 + (PC a1 1))]) (rest := []) (st' := []) hE.1 (mX3_copyOf hE (ty_X0_1 t0) (ty_X0_1 t1) q3) mic_X3_copyOf rfl (ty_X0_1 t0) (by decide) rfl rfl wq_m_X0_48 wq_i_yX3_copyOf wq_s_yX3_copyOf ⟨Nat.le_of_ble_eq_true rfl, Nat.le_of_ble_eq_true rfl⟩ (Nat.le_of_ble_eq_true rfl) dX0_copyOf_19 rfl rfl rfl ?_
  refine V.aload_n (j := 0) dX0_copyOf_22 rfl rfl rfl ?_
  refine U.getP fl_X0_26 t0 dX0_copyOf_23 rfl ?_
  refine V.aload_n (j := 1) dX0_copyOf_26 rfl rfl rfl ?_
  refine U.getP fl_X0_26 t1 dX0_copyOf_27 rfl ?_
  obtain ⟨h6, q5, hx⟩ := ob_some hx
  refine U.callV (As := [.ref (G.1 + (PC a1 2))]) (rest := []) (st' := []) hE.1 (mX6_copyOf hE (ty_X0_2 t0) (ty_X0_2 t1) q5) mic_X6_copyOf rfl (ty_X0_2 t0) (by decide) rfl rfl wq_m_X0_51 wq_i_yX6_copyOf wq_s_yX6_copyOf ⟨Nat.le_of_ble_eq_true rfl, Nat.le_of_ble_eq_true rfl⟩ (Nat.le_of_ble_eq_true rfl) dX0_copyOf_30 rfl rfl rfl ?_
  refine V.aload_n (j := 0) dX0_copyOf_33 rfl rfl rfl ?_
  refine U.getP fl_X0_30 t0 dX0_copyOf_34 rfl ?_
  refine V.aload_n (j := 1) dX0_copyOf_37 rfl rfl rfl ?_
  refine U.getP fl_X0_30 t1 dX0_copyOf_38 rfl ?_
  obtain ⟨h8, q7, hx⟩ := ob_some hx
  refine U.callV (As := [.ref (G.1 + (PC a1 3))]) (rest := []) (st' := []) hE.1 (mX6_copyOf hE (ty_X0_3 t0) (ty_X0_3 t1) q7) mic_X6_copyOf rfl (ty_X0_3 t0) (by decide) rfl rfl wq_m_X0_51 wq_i_yX6_copyOf wq_s_yX6_copyOf ⟨Nat.le_of_ble_eq_true rfl, Nat.le_of_ble_eq_true rfl⟩ (Nat.le_of_ble_eq_true rfl) dX0_copyOf_41 rfl rfl rfl ?_
  refine V.aload_n (j := 0) dX0_copyOf_44 rfl rfl rfl ?_
  refine U.getP fl_X0_33 t0 dX0_copyOf_45 rfl ?_
  refine V.aload_n (j := 1) dX0_copyOf_48 rfl rfl rfl ?_
  refine U.getP fl_X0_33 t1 dX0_copyOf_49 rfl ?_
  obtain ⟨h10, q9, hx⟩ := ob_some hx
  refine U.callV (As := [.ref (G.1 + (PC a1 4))]) (rest := []) (st' := []) hE.1 (mX6_copyOf hE (ty_X0_4 t0) (ty_X0_4 t1) q9) mic_X6_copyOf rfl (ty_X0_4 t0) (by decide) rfl rfl wq_m_X0_51 wq_i_yX6_copyOf wq_s_yX6_copyOf ⟨Nat.le_of_ble_eq_true rfl, Nat.le_of_ble_eq_true rfl⟩ (Nat.le_of_ble_eq_true rfl) dX0_copyOf_52 rfl rfl rfl ?_
  obtain rfl := Option.some.inj hx
  exact U.ret0 rfl rfl rfl dX0_copyOf_55
set_option maxRecDepth 100000 in
set_option maxHeartbeats 4000000 in
theorem mX8_image {l : Launch} {G : GG} {EX : State → Prop} (hE : EXB G EX) {th : Nat} {a1 : Int32} {h : AH} (t0 : KD th = 7) {r : Int32 × AH} (hx : fX8_image th a1 h = some r) : MetU l G EX mi_X8_image 4 87 [.ref (G.1 + th), .int a1] h (some (.int r.1)) r.2 := by
  refine MetU.of mic_X8_image.1 (Nat.le_of_ble_eq_true rfl) ?_
  refine show U l G EX mi_X8_image 4 87 (some (.int r.1)) r.2 0 [(0, .ref (G.1 + th)), (1, .int a1)] [] h from ?_
  unfold fX8_image at hx
  refine V.aload_n (j := 0) dX8_image_0 rfl rfl rfl ?_
  refine V.iload_n (j := 1) dX8_image_1 rfl rfl rfl ?_
  obtain ⟨v2, q1, hx⟩ := ob_some hx
  refine U.callV (As := [.int a1]) (rest := []) (st' := [.int v2]) hE.1 (mX8_isImage hE t0 q1) mic_X8_isImage rfl t0 (by decide) rfl rfl wq_m_X8_306 wq_i_yX8_isImage wq_s_yX8_isImage ⟨Nat.le_of_ble_eq_true rfl, Nat.le_of_ble_eq_true rfl⟩ (Nat.le_of_ble_eq_true rfl) dX8_image_2 rfl rfl rfl ?_
  refine V.if_ne (tgt := 15) hx dX8_image_5 (by decide) rfl (fun hx => ?_) (fun hx => ?_)
  · refine V.aload_n (j := 0) dX8_image_15 rfl rfl rfl ?_
    refine U.getP fl_X8_16 t0 dX8_image_16 rfl ?_
    refine V.iload_n (j := 1) dX8_image_19 rfl rfl rfl ?_
    refine U.aald hx (ty_X8_1 t0) (by decide) dX8_image_20 rfl (fun g3 hx => ?_)
    refine V.aload_n (j := 0) dX8_image_21 rfl rfl rfl ?_
    refine U.getP fl_X8_10 t0 dX8_image_22 rfl ?_
    obtain ⟨h5, q4, hx⟩ := ob_some hx
    refine U.callV (As := [.ref (G.1 + (PC th 0))]) (rest := []) (st' := []) hE.1 (mX0_copyOf hE g3 (ty_X8_0 t0) q4) mic_X0_copyOf rfl g3 (by decide) rfl rfl wq_m_X8_309 wq_i_yX0_copyOf wq_s_yX0_copyOf ⟨Nat.le_of_ble_eq_true rfl, Nat.le_of_ble_eq_true rfl⟩ (Nat.le_of_ble_eq_true rfl) dX8_image_25 rfl rfl rfl ?_
    refine V.aload_n (j := 0) dX8_image_28 rfl rfl rfl ?_
    refine U.getP fl_X8_20 t0 dX8_image_29 rfl ?_
    refine V.iload_n (j := 1) dX8_image_32 rfl rfl rfl ?_
    refine V.iconst dX8_image_33 rfl ki_1 ?_
    refine U.zast hx (ty_X8_2 t0) dX8_image_34 rfl (fun h6 hx => ?_)
    refine V.iconst dX8_image_35 rfl ki_1 ?_
    obtain rfl := Option.some.inj hx
    exact U.retI rfl rfl rfl rfl dX8_image_36
  · refine V.aload_n (j := 0) dX8_image_8 rfl rfl rfl ?_
    refine V.bipush dX8_image_9 rfl kb_m2 ?_
    obtain ⟨v9, h8, q7, hx⟩ := ob2_some hx
    refine U.callV (As := [.int (-2 : Int32)]) (rest := []) (st' := [.int v9]) hE.1 (mX8_refuse hE t0 q7) mic_X8_refuse rfl t0 (by decide) rfl rfl wq_m_X8_80 wq_i_yX8_refuse wq_s_yX8_refuse ⟨Nat.le_of_ble_eq_true rfl, Nat.le_of_ble_eq_true rfl⟩ (Nat.le_of_ble_eq_true rfl) dX8_image_11 rfl rfl rfl ?_
    obtain rfl := Option.some.inj hx
    exact U.retI rfl rfl rfl rfl dX8_image_14
set_option maxRecDepth 100000 in
set_option maxHeartbeats 4000000 in
theorem mX8_from {l : Launch} {G : GG} {EX : State → Prop} (hE : EXB G EX) {th : Nat} {a1 : Int32} {h : AH} (t0 : KD th = 7) {r : Int32 × AH} (hx : fX8_from th a1 h = some r) : MetU l G EX mi_X8_from 4 87 [.ref (G.1 + th), .int a1] h (some (.int r.1)) r.2 := by
  refine MetU.of mic_X8_from.1 (Nat.le_of_ble_eq_true rfl) ?_
  refine show U l G EX mi_X8_from 4 87 (some (.int r.1)) r.2 0 [(0, .ref (G.1 + th)), (1, .int a1)] [] h from ?_
  unfold fX8_from at hx
  refine V.aload_n (j := 0) dX8_from_0 rfl rfl rfl ?_
  refine V.iload_n (j := 1) dX8_from_1 rfl rfl rfl ?_
  obtain ⟨v2, q1, hx⟩ := ob_some hx
  refine U.callV (As := [.int a1]) (rest := []) (st' := [.int v2]) hE.1 (mX8_isImage hE t0 q1) mic_X8_isImage rfl t0 (by decide) rfl rfl wq_m_X8_306 wq_i_yX8_isImage wq_s_yX8_isImage ⟨Nat.le_of_ble_eq_true rfl, Nat.le_of_ble_eq_true rfl⟩ (Nat.le_of_ble_eq_true rfl) dX8_from_2 rfl rfl rfl ?_
  refine V.if_ne (tgt := 15) hx dX8_from_5 (by decide) rfl (fun hx => ?_) (fun hx => ?_)
  · refine V.aload_n (j := 0) dX8_from_15 rfl rfl rfl ?_
    refine U.getP fl_X8_20 t0 dX8_from_16 rfl ?_
    refine V.iload_n (j := 1) dX8_from_19 rfl rfl rfl ?_
    refine U.zald hx (ty_X8_2 t0) dX8_from_20 rfl (fun hx => ?_)
    refine V.if_ne (tgt := 31) hx dX8_from_21 (by decide) rfl (fun hx => ?_) (fun hx => ?_)
    · refine V.aload_n (j := 0) dX8_from_31 rfl rfl rfl ?_
      refine U.getP fl_X8_10 t0 dX8_from_32 rfl ?_
      refine V.aload_n (j := 0) dX8_from_35 rfl rfl rfl ?_
      refine U.getP fl_X8_16 t0 dX8_from_36 rfl ?_
      refine V.iload_n (j := 1) dX8_from_39 rfl rfl rfl ?_
      refine U.aald hx (ty_X8_1 t0) (by decide) dX8_from_40 rfl (fun g3 hx => ?_)
      obtain ⟨h5, q4, hx⟩ := ob_some hx
      refine U.callV (As := [.ref (G.1 + (hQ h (PC th 1) (ix a1)))]) (rest := []) (st' := []) hE.1 (mX0_copyOf hE (ty_X8_0 t0) g3 q4) mic_X0_copyOf rfl (ty_X8_0 t0) (by decide) rfl rfl wq_m_X8_309 wq_i_yX0_copyOf wq_s_yX0_copyOf ⟨Nat.le_of_ble_eq_true rfl, Nat.le_of_ble_eq_true rfl⟩ (Nat.le_of_ble_eq_true rfl) dX8_from_41 rfl rfl rfl ?_
      refine V.iconst dX8_from_44 rfl ki_1 ?_
      obtain rfl := Option.some.inj hx
      exact U.retI rfl rfl rfl rfl dX8_from_45
    · refine V.aload_n (j := 0) dX8_from_24 rfl rfl rfl ?_
      refine V.bipush dX8_from_25 rfl kb_m3 ?_
      obtain ⟨v8, h7, q6, hx⟩ := ob2_some hx
      refine U.callV (As := [.int (-3 : Int32)]) (rest := []) (st' := [.int v8]) hE.1 (mX8_refuse hE t0 q6) mic_X8_refuse rfl t0 (by decide) rfl rfl wq_m_X8_80 wq_i_yX8_refuse wq_s_yX8_refuse ⟨Nat.le_of_ble_eq_true rfl, Nat.le_of_ble_eq_true rfl⟩ (Nat.le_of_ble_eq_true rfl) dX8_from_27 rfl rfl rfl ?_
      obtain rfl := Option.some.inj hx
      exact U.retI rfl rfl rfl rfl dX8_from_30
  · refine V.aload_n (j := 0) dX8_from_8 rfl rfl rfl ?_
    refine V.bipush dX8_from_9 rfl kb_m2 ?_
    obtain ⟨v11, h10, q9, hx⟩ := ob2_some hx
    refine U.callV (As := [.int (-2 : Int32)]) (rest := []) (st' := [.int v11]) hE.1 (mX8_refuse hE t0 q9) mic_X8_refuse rfl t0 (by decide) rfl rfl wq_m_X8_80 wq_i_yX8_refuse wq_s_yX8_refuse ⟨Nat.le_of_ble_eq_true rfl, Nat.le_of_ble_eq_true rfl⟩ (Nat.le_of_ble_eq_true rfl) dX8_from_11 rfl rfl rfl ?_
    obtain rfl := Option.some.inj hx
    exact U.retI rfl rfl rfl rfl dX8_from_14
set_option maxRecDepth 100000 in
set_option maxHeartbeats 4000000 in
theorem mX8_status {l : Launch} {G : GG} {EX : State → Prop} (hE : EXB G EX) {th : Nat} {a1 : Int32} {h : AH} (t0 : KD th = 7) {r : Int32 × AH} (hx : fX8_status th a1 h = some r) : MetU l G EX mi_X8_status 1 21 [.ref (G.1 + th), .int a1] h (some (.int r.1)) r.2 := by
  refine MetU.of mic_X8_status.1 (Nat.le_of_ble_eq_true rfl) ?_
  refine show U l G EX mi_X8_status 1 21 (some (.int r.1)) r.2 0 [(0, .ref (G.1 + th)), (1, .int a1)] [] h from ?_
  unfold fX8_status at hx
  refine V.iload_n (j := 1) dX8_status_0 rfl rfl rfl ?_
  refine sw_case (ci := 0) hx (by decide) (fun c0 hx => ?_) (fun c0 hx => ?_)
  · refine V.tableIn (tgt := 28) dX8_status_1 (by rw [c0]; decide) (by rw [c0]; decide) (by rw [c0]; rfl) (by decide) ?_
    refine V.aload_n (j := 0) dX8_status_28 rfl rfl rfl ?_
    refine U.getI fl_X8_312 t0 dX8_status_29 rfl ?_
    obtain rfl := Option.some.inj hx
    exact U.retI rfl rfl rfl rfl dX8_status_32
  refine sw_case (ci := 1) hx (by decide) (fun c1 hx => ?_) (fun c1 hx => ?_)
  · refine V.tableIn (tgt := 33) dX8_status_1 (by rw [c1]; decide) (by rw [c1]; decide) (by rw [c1]; rfl) (by decide) ?_
    refine V.aload_n (j := 0) dX8_status_33 rfl rfl rfl ?_
    refine U.getI fl_X8_315 t0 dX8_status_34 rfl ?_
    obtain rfl := Option.some.inj hx
    exact U.retI rfl rfl rfl rfl dX8_status_37
  refine sw_case (ci := 2) hx (by decide) (fun c2 hx => ?_) (fun c2 hx => ?_)
  · refine V.tableIn (tgt := 38) dX8_status_1 (by rw [c2]; decide) (by rw [c2]; decide) (by rw [c2]; rfl) (by decide) ?_
    refine V.aload_n (j := 0) dX8_status_38 rfl rfl rfl ?_
    refine U.getI fl_X8_318 t0 dX8_status_39 rfl ?_
    obtain rfl := Option.some.inj hx
    exact U.retI rfl rfl rfl rfl dX8_status_42
  refine V.tableOut (tgt := 43) dX8_status_1 (by omega) (by decide) ?_
  refine V.aload_n (j := 0) dX8_status_43 rfl rfl rfl ?_
  refine V.bipush dX8_status_44 rfl kb_m2 ?_
  obtain ⟨v6, h5, q4, hx⟩ := ob2_some hx
  refine U.callV (As := [.int (-2 : Int32)]) (rest := []) (st' := [.int v6]) hE.1 (mX8_refuse hE t0 q4) mic_X8_refuse rfl t0 (by decide) rfl rfl wq_m_X8_80 wq_i_yX8_refuse wq_s_yX8_refuse ⟨Nat.le_of_ble_eq_true rfl, Nat.le_of_ble_eq_true rfl⟩ (Nat.le_of_ble_eq_true rfl) dX8_status_46 rfl rfl rfl ?_
  refine V.pop dX8_status_49 rfl rfl ?_
  refine V.iconst dX8_status_50 rfl ki_m1 ?_
  obtain rfl := Option.some.inj hx
  exact U.retI rfl rfl rfl rfl dX8_status_51
set_option maxRecDepth 100000 in
set_option maxHeartbeats 4000000 in
theorem vX2_knownTogether_4 {l : Launch} {G : GG} {EX : State → Prop} (hE : EXB G EX) {h : AH} {r : Int32} : ∀ (n : Nat) (l0 : Nat) (l1 : Int32) (l2 : Int32) (t0 : KD l0 = 1), fX2_knownTogether_4 h n l0 l1 l2 = some r → U l G EX mi_X2_knownTogether 0 0 (some (.int r)) h 4 [(0, .ref (G.1 + l0)), (1, .int l1), (2, .int l2)] [] h := by
  intro n
  induction n with
  | zero =>
    intro l0 l1 l2 t0 hx
    have hx : none = some r := hx
    cases hx
  | succ n ih =>
    intro l0 l1 l2 t0 hx
    rw [fX2_knownTogether_4] at hx
    refine V.iload_n (j := 2) dX2_knownTogether_4 rfl rfl rfl ?_
    refine V.aload_n (j := 0) dX2_knownTogether_5 rfl rfl rfl ?_
    refine U.getI fl_X2_43 t0 dX2_knownTogether_6 rfl ?_
    refine V.icmp_ge (tgt := 27) hx dX2_knownTogether_9 (by decide) rfl (fun hx => ?_) (fun hx => ?_)
    · refine V.iload_n (j := 1) dX2_knownTogether_27 rfl rfl rfl ?_
      obtain rfl := Option.some.inj hx
      exact U.retI rfl rfl rfl rfl dX2_knownTogether_28
    · refine V.iload_n (j := 1) dX2_knownTogether_12 rfl rfl rfl ?_
      refine V.aload_n (j := 0) dX2_knownTogether_13 rfl rfl rfl ?_
      refine U.getP fl_X2_30 t0 dX2_knownTogether_14 rfl ?_
      refine V.iload_n (j := 2) dX2_knownTogether_17 rfl rfl rfl ?_
      refine U.iald hx (ty_X2_10 t0) dX2_knownTogether_18 rfl (fun hx => ?_)
      refine V.iadd dX2_knownTogether_19 rfl ?_
      refine U.letI hx (fun v1 hx => ?_)
      refine V.istore_n [(1, .int v1), (0, .ref (G.1 + l0)), (2, .int l2)] dX2_knownTogether_20 rfl rfl (Nat.le_of_ble_eq_true rfl) rfl ?_
      refine U.iinc hx (fun v2 => [(2, .int v2), (1, .int v1), (0, .ref (G.1 + l0))]) (j := 2) rfl (by decide) (Nat.le_of_ble_eq_true rfl) (fun _ => rfl) dX2_knownTogether_21 rfl (fun v2 hx => ?_)
      refine V.goto (q := 4) dX2_knownTogether_24 (by decide) ?_
      refine V.pick [2, 1, 0] rfl ?_
      exact ih l0 v1 v2 t0 hx
set_option maxRecDepth 100000 in
set_option maxHeartbeats 4000000 in
theorem mX2_knownTogether {l : Launch} {G : GG} {EX : State → Prop} (hE : EXB G EX) {th : Nat} {h : AH} (t0 : KD th = 1) {r : Int32} (hx : fX2_knownTogether th h = some r) : MetU l G EX mi_X2_knownTogether 0 0 [.ref (G.1 + th)] h (some (.int r)) h := by
  refine MetU.of mic_X2_knownTogether.1 (Nat.le_of_ble_eq_true rfl) ?_
  refine show U l G EX mi_X2_knownTogether 0 0 (some (.int r)) h 0 [(0, .ref (G.1 + th))] [] h from ?_
  unfold fX2_knownTogether at hx
  refine V.iconst dX2_knownTogether_0 rfl ki_0 ?_
  refine V.istore_n [(1, .int (0 : Int32)), (0, .ref (G.1 + th))] dX2_knownTogether_1 rfl rfl (Nat.le_of_ble_eq_true rfl) rfl ?_
  refine V.iconst dX2_knownTogether_2 rfl ki_0 ?_
  refine V.istore_n [(2, .int (0 : Int32)), (1, .int (0 : Int32)), (0, .ref (G.1 + th))] dX2_knownTogether_3 rfl rfl (Nat.le_of_ble_eq_true rfl) rfl ?_
  refine V.pick [2, 1, 0] rfl ?_
  exact vX2_knownTogether_4 hE FU th (0 : Int32) (0 : Int32) t0 hx
set_option maxRecDepth 100000 in
set_option maxHeartbeats 4000000 in
theorem mX8_tally {l : Launch} {G : GG} {EX : State → Prop} (hE : EXB G EX) {th : Nat} {a1 : Int32} {h : AH} (t0 : KD th = 7) {r : Int32} (hx : fX8_tally th a1 h = some r) : MetU l G EX mi_X8_tally 1 22 [.ref (G.1 + th), .int a1] h (some (.int r)) h := by
  refine MetU.of mic_X8_tally.1 (Nat.le_of_ble_eq_true rfl) ?_
  refine show U l G EX mi_X8_tally 1 22 (some (.int r)) h 0 [(0, .ref (G.1 + th)), (1, .int a1)] [] h from ?_
  unfold fX8_tally at hx
  refine V.iload_n (j := 1) dX8_tally_0 rfl rfl rfl ?_
  refine sw_case (ci := 0) hx (by decide) (fun c0 hx => ?_) (fun c0 hx => ?_)
  · refine V.tableIn (tgt := 56) dX8_tally_1 (by rw [c0]; decide) (by rw [c0]; decide) (by rw [c0]; rfl) (by decide) ?_
    refine V.aload_n (j := 0) dX8_tally_56 rfl rfl rfl ?_
    refine U.getP fl_X8_10 t0 dX8_tally_57 rfl ?_
    refine U.getP fl_X8_60 (ty_X8_0 t0) dX8_tally_60 rfl ?_
    refine U.getI fl_X8_84 (ty_X0_0 (ty_X8_0 t0)) dX8_tally_63 rfl ?_
    obtain rfl := Option.some.inj hx
    exact U.retI rfl rfl rfl rfl dX8_tally_66
  refine sw_case (ci := 1) hx (by decide) (fun c1 hx => ?_) (fun c1 hx => ?_)
  · refine V.tableIn (tgt := 67) dX8_tally_1 (by rw [c1]; decide) (by rw [c1]; decide) (by rw [c1]; rfl) (by decide) ?_
    refine V.aload_n (j := 0) dX8_tally_67 rfl rfl rfl ?_
    refine U.getP fl_X8_10 t0 dX8_tally_68 rfl ?_
    refine U.getP fl_X8_60 (ty_X8_0 t0) dX8_tally_71 rfl ?_
    refine U.getI fl_X8_63 (ty_X0_0 (ty_X8_0 t0)) dX8_tally_74 rfl ?_
    obtain rfl := Option.some.inj hx
    exact U.retI rfl rfl rfl rfl dX8_tally_77
  refine sw_case (ci := 2) hx (by decide) (fun c2 hx => ?_) (fun c2 hx => ?_)
  · refine V.tableIn (tgt := 78) dX8_tally_1 (by rw [c2]; decide) (by rw [c2]; decide) (by rw [c2]; rfl) (by decide) ?_
    refine V.aload_n (j := 0) dX8_tally_78 rfl rfl rfl ?_
    refine U.getP fl_X8_10 t0 dX8_tally_79 rfl ?_
    refine U.getP fl_X8_60 (ty_X8_0 t0) dX8_tally_82 rfl ?_
    refine U.getI fl_X8_133 (ty_X0_0 (ty_X8_0 t0)) dX8_tally_85 rfl ?_
    obtain rfl := Option.some.inj hx
    exact U.retI rfl rfl rfl rfl dX8_tally_88
  refine sw_case (ci := 3) hx (by decide) (fun c3 hx => ?_) (fun c3 hx => ?_)
  · refine V.tableIn (tgt := 89) dX8_tally_1 (by rw [c3]; decide) (by rw [c3]; decide) (by rw [c3]; rfl) (by decide) ?_
    refine V.aload_n (j := 0) dX8_tally_89 rfl rfl rfl ?_
    refine U.getP fl_X8_10 t0 dX8_tally_90 rfl ?_
    refine U.getP fl_X8_60 (ty_X8_0 t0) dX8_tally_93 rfl ?_
    refine U.getI fl_X8_348 (ty_X0_0 (ty_X8_0 t0)) dX8_tally_96 rfl ?_
    obtain rfl := Option.some.inj hx
    exact U.retI rfl rfl rfl rfl dX8_tally_99
  refine sw_case (ci := 4) hx (by decide) (fun c8 hx => ?_) (fun c8 hx => ?_)
  · refine V.tableIn (tgt := 100) dX8_tally_1 (by rw [c8]; decide) (by rw [c8]; decide) (by rw [c8]; rfl) (by decide) ?_
    refine V.aload_n (j := 0) dX8_tally_100 rfl rfl rfl ?_
    refine U.getP fl_X8_10 t0 dX8_tally_101 rfl ?_
    refine U.getP fl_X8_60 (ty_X8_0 t0) dX8_tally_104 rfl ?_
    obtain ⟨v6, q5, hx⟩ := ob_some hx
    refine U.callV (As := []) (rest := []) (st' := [.int v6]) hE.1 (mX2_onBits hE (ty_X0_0 (ty_X8_0 t0)) q5) mic_X2_onBits rfl (ty_X0_0 (ty_X8_0 t0)) (by decide) rfl rfl wq_m_X8_166 wq_i_yX2_onBits wq_s_yX2_onBits ⟨Nat.le_of_ble_eq_true rfl, Nat.le_of_ble_eq_true rfl⟩ (Nat.le_of_ble_eq_true rfl) dX8_tally_107 rfl rfl rfl ?_
    obtain ⟨v8, q7, hx⟩ := ob_some hx
    refine U.callS (As := [.int v6]) (rest := []) (st' := [.int v8]) hE.1 (mJ6_bitCount_0f7a4 hE q7) mic_J6_bitCount_0f7a4 rfl wq_m_X8_206 wq_t_yJ6_bitCount_0f7a4 ⟨Nat.le_of_ble_eq_true rfl, Nat.le_of_ble_eq_true rfl⟩ (Nat.le_of_ble_eq_true rfl) dX8_tally_110 rfl rfl rfl ?_
    obtain rfl := Option.some.inj hx
    exact U.retI rfl rfl rfl rfl dX8_tally_113
  refine sw_case (ci := 5) hx (by decide) (fun c11 hx => ?_) (fun c11 hx => ?_)
  · refine V.tableIn (tgt := 114) dX8_tally_1 (by rw [c11]; decide) (by rw [c11]; decide) (by rw [c11]; rfl) (by decide) ?_
    refine V.aload_n (j := 0) dX8_tally_114 rfl rfl rfl ?_
    refine U.getP fl_X8_10 t0 dX8_tally_115 rfl ?_
    refine U.getP fl_X8_60 (ty_X8_0 t0) dX8_tally_118 rfl ?_
    obtain ⟨v11, q10, hx⟩ := ob_some hx
    refine U.callV (As := []) (rest := []) (st' := [.int v11]) hE.1 (mX2_knownTogether hE (ty_X0_0 (ty_X8_0 t0)) q10) mic_X2_knownTogether rfl (ty_X0_0 (ty_X8_0 t0)) (by decide) rfl rfl wq_m_X8_351 wq_i_yX2_knownTogether wq_s_yX2_knownTogether ⟨Nat.le_of_ble_eq_true rfl, Nat.le_of_ble_eq_true rfl⟩ (Nat.le_of_ble_eq_true rfl) dX8_tally_121 rfl rfl rfl ?_
    obtain rfl := Option.some.inj hx
    exact U.retI rfl rfl rfl rfl dX8_tally_124
  refine sw_case (ci := 6) hx (by decide) (fun c12 hx => ?_) (fun c12 hx => ?_)
  · refine V.tableIn (tgt := 125) dX8_tally_1 (by rw [c12]; decide) (by rw [c12]; decide) (by rw [c12]; rfl) (by decide) ?_
    refine V.aload_n (j := 0) dX8_tally_125 rfl rfl rfl ?_
    refine U.getP fl_X8_10 t0 dX8_tally_126 rfl ?_
    refine U.getP fl_X8_232 (ty_X8_0 t0) dX8_tally_129 rfl ?_
    refine U.getI fl_X8_236 (ty_X0_2 (ty_X8_0 t0)) dX8_tally_132 rfl ?_
    obtain rfl := Option.some.inj hx
    exact U.retI rfl rfl rfl rfl dX8_tally_135
  refine sw_case (ci := 7) hx (by decide) (fun c13 hx => ?_) (fun c13 hx => ?_)
  · refine V.tableIn (tgt := 136) dX8_tally_1 (by rw [c13]; decide) (by rw [c13]; decide) (by rw [c13]; rfl) (by decide) ?_
    refine V.aload_n (j := 0) dX8_tally_136 rfl rfl rfl ?_
    refine U.getP fl_X8_10 t0 dX8_tally_137 rfl ?_
    refine U.getP fl_X8_253 (ty_X8_0 t0) dX8_tally_140 rfl ?_
    refine U.getI fl_X8_236 (ty_X0_3 (ty_X8_0 t0)) dX8_tally_143 rfl ?_
    obtain rfl := Option.some.inj hx
    exact U.retI rfl rfl rfl rfl dX8_tally_146
  refine sw_case (ci := 8) hx (by decide) (fun c14 hx => ?_) (fun c14 hx => ?_)
  · refine V.tableIn (tgt := 147) dX8_tally_1 (by rw [c14]; decide) (by rw [c14]; decide) (by rw [c14]; rfl) (by decide) ?_
    refine V.aload_n (j := 0) dX8_tally_147 rfl rfl rfl ?_
    refine U.getP fl_X8_10 t0 dX8_tally_148 rfl ?_
    refine U.getP fl_X8_256 (ty_X8_0 t0) dX8_tally_151 rfl ?_
    refine U.getI fl_X8_236 (ty_X0_4 (ty_X8_0 t0)) dX8_tally_154 rfl ?_
    obtain rfl := Option.some.inj hx
    exact U.retI rfl rfl rfl rfl dX8_tally_157
  refine sw_case (ci := 9) hx (by decide) (fun c15 hx => ?_) (fun c15 hx => ?_)
  · refine V.tableIn (tgt := 158) dX8_tally_1 (by rw [c15]; decide) (by rw [c15]; decide) (by rw [c15]; rfl) (by decide) ?_
    refine V.aload_n (j := 0) dX8_tally_158 rfl rfl rfl ?_
    refine U.getP fl_X8_10 t0 dX8_tally_159 rfl ?_
    refine U.getP fl_X8_87 (ty_X8_0 t0) dX8_tally_162 rfl ?_
    refine U.getI fl_X8_91 (ty_X0_1 (ty_X8_0 t0)) dX8_tally_165 rfl ?_
    obtain rfl := Option.some.inj hx
    exact U.retI rfl rfl rfl rfl dX8_tally_168
  refine V.tableOut (tgt := 169) dX8_tally_1 (by omega) (by decide) ?_
  refine V.aload_n (j := 0) dX8_tally_169 rfl rfl rfl ?_
  refine U.getP fl_X8_41 t0 dX8_tally_170 rfl ?_
  refine U.getI fl_X8_108 (ty_X8_5 t0) dX8_tally_173 rfl ?_
  obtain rfl := Option.some.inj hx
  exact U.retI rfl rfl rfl rfl dX8_tally_176
set_option maxRecDepth 100000 in
set_option maxHeartbeats 4000000 in
theorem mX8_count {l : Launch} {G : GG} {EX : State → Prop} (hE : EXB G EX) {th : Nat} {a1 : Int32} {h : AH} (t0 : KD th = 7) {r : Int32 × AH} (hx : fX8_count th a1 h = some r) : MetU l G EX mi_X8_count 2 43 [.ref (G.1 + th), .int a1] h (some (.int r.1)) r.2 := by
  refine MetU.of mic_X8_count.1 (Nat.le_of_ble_eq_true rfl) ?_
  refine show U l G EX mi_X8_count 2 43 (some (.int r.1)) r.2 0 [(0, .ref (G.1 + th)), (1, .int a1)] [] h from ?_
  unfold fX8_count at hx
  refine V.iload_n (j := 1) dX8_count_0 rfl rfl rfl ?_
  refine V.iconst dX8_count_1 rfl ki_0 ?_
  refine V.bipush dX8_count_2 rfl kb_10 ?_
  obtain ⟨v2, q1, hx⟩ := ob_some hx
  refine U.callS (As := [.int a1, .int (0 : Int32), .int (10 : Int32)]) (rest := []) (st' := [.int v2]) hE.1 (mX8_within hE q1) mic_X8_within rfl wq_m_X8_104 wq_t_yX8_within ⟨Nat.le_of_ble_eq_true rfl, Nat.le_of_ble_eq_true rfl⟩ (Nat.le_of_ble_eq_true rfl) dX8_count_4 rfl rfl rfl ?_
  refine V.if_eq (tgt := 18) hx dX8_count_7 (by decide) rfl (fun hx => ?_) (fun hx => ?_)
  · refine V.aload_n (j := 0) dX8_count_18 rfl rfl rfl ?_
    refine V.bipush dX8_count_19 rfl kb_m2 ?_
    obtain ⟨v5, h4, q3, hx⟩ := ob2_some hx
    refine U.callV (As := [.int (-2 : Int32)]) (rest := []) (st' := [.int v5]) hE.1 (mX8_refuse hE t0 q3) mic_X8_refuse rfl t0 (by decide) rfl rfl wq_m_X8_80 wq_i_yX8_refuse wq_s_yX8_refuse ⟨Nat.le_of_ble_eq_true rfl, Nat.le_of_ble_eq_true rfl⟩ (Nat.le_of_ble_eq_true rfl) dX8_count_21 rfl rfl rfl ?_
    obtain rfl := Option.some.inj hx
    exact U.retI rfl rfl rfl rfl dX8_count_24
  · refine V.aload_n (j := 0) dX8_count_10 rfl rfl rfl ?_
    refine V.iload_n (j := 1) dX8_count_11 rfl rfl rfl ?_
    obtain ⟨v7, q6, hx⟩ := ob_some hx
    refine U.callV (As := [.int a1]) (rest := []) (st' := [.int v7]) hE.1 (mX8_tally hE t0 q6) mic_X8_tally rfl t0 (by decide) rfl rfl wq_m_X8_321 wq_i_yX8_tally wq_s_yX8_tally ⟨Nat.le_of_ble_eq_true rfl, Nat.le_of_ble_eq_true rfl⟩ (Nat.le_of_ble_eq_true rfl) dX8_count_12 rfl rfl rfl ?_
    refine V.goto (q := 24) dX8_count_15 (by decide) ?_
    obtain rfl := Option.some.inj hx
    exact U.retI rfl rfl rfl rfl dX8_count_24
set_option maxRecDepth 100000 in
set_option maxHeartbeats 4000000 in
theorem vX6_mixInto_18 {l : Launch} {G : GG} {EX : State → Prop} (hE : EXB G EX) {h : AH} {r : Int64} {k48 : Nat → Int32 → Int64 → Int32 → Option (Int64)} (hk48 : ∀ (l0 : Nat) (l3 : Int32) (l4 : Int64) (l6 : Int32) (t0 : KD l0 = 5), k48 l0 l3 l4 l6 = some r → U l G EX mi_X6_mixInto 1 23 (some (.long r)) h 48 [(0, .ref (G.1 + l0)), (3, .int l3), (4, .long l4), (6, .int l6)] [] h) : ∀ (n : Nat) (l0 : Nat) (l3 : Int32) (l4 : Int64) (l6 : Int32) (l7 : Int32) (t0 : KD l0 = 5), fX6_mixInto_18 h k48 n l0 l3 l4 l6 l7 = some r → U l G EX mi_X6_mixInto 1 23 (some (.long r)) h 18 [(0, .ref (G.1 + l0)), (3, .int l3), (4, .long l4), (6, .int l6), (7, .int l7)] [] h := by
  intro n
  induction n with
  | zero =>
    intro l0 l3 l4 l6 l7 t0 hx
    have hx : none = some r := hx
    cases hx
  | succ n ih =>
    intro l0 l3 l4 l6 l7 t0 hx
    rw [fX6_mixInto_18] at hx
    refine V.iload (j := 4) dX6_mixInto_18 rfl rfl ?_
    refine V.iload_n (j := 1) dX6_mixInto_20 rfl rfl rfl ?_
    refine V.icmp_ge (tgt := 48) hx dX6_mixInto_21 (by decide) rfl (fun hx => ?_) (fun hx => ?_)
    · refine V.pick [0, 1, 2, 3] rfl ?_
      exact hk48 l0 l3 l4 l6 t0 hx
    · refine V.ldc2_w dX6_mixInto_24 rfl wq_l_X6_19 ?_
      refine V.lload (j := 2) dX6_mixInto_27 rfl rfl ?_
      refine V.lmul dX6_mixInto_29 rfl ?_
      refine V.aload_n (j := 0) dX6_mixInto_30 rfl rfl rfl ?_
      refine V.iload (j := 3) dX6_mixInto_31 rfl rfl ?_
      refine V.iload (j := 4) dX6_mixInto_33 rfl rfl ?_
      obtain ⟨v2, q1, hx⟩ := ob_some hx
      refine U.callV (As := [.int l6, .int l7]) (rest := [.long ((31 : Int64) * l4)]) (st' := [.int v2, .long ((31 : Int64) * l4)]) hE.1 (mX6_told hE t0 q1) mic_X6_told rfl t0 (by decide) rfl rfl wq_m_X6_21 wq_i_yX6_told wq_s_yX6_told ⟨Nat.le_of_ble_eq_true rfl, Nat.le_of_ble_eq_true rfl⟩ (Nat.le_of_ble_eq_true rfl) dX6_mixInto_35 rfl rfl rfl ?_
      refine V.i2l dX6_mixInto_38 rfl ?_
      refine V.ladd dX6_mixInto_39 rfl ?_
      refine U.letJ hx (fun v3 hx => ?_)
      refine V.lstore [(4, .long v3), (0, .ref (G.1 + l0)), (3, .int l3), (6, .int l6), (7, .int l7)] dX6_mixInto_40 rfl (Nat.le_of_ble_eq_true rfl) rfl ?_
      refine U.iinc hx (fun v4 => [(7, .int v4), (4, .long v3), (0, .ref (G.1 + l0)), (3, .int l3), (6, .int l6)]) (j := 4) rfl (by decide) (Nat.le_of_ble_eq_true rfl) (fun _ => rfl) dX6_mixInto_42 rfl (fun v4 hx => ?_)
      refine V.goto (q := 18) dX6_mixInto_45 (by decide) ?_
      refine V.pick [2, 3, 1, 4, 0] rfl ?_
      exact ih l0 l3 v3 l6 v4 t0 hx
set_option maxRecDepth 100000 in
set_option maxHeartbeats 4000000 in
theorem vX6_mixInto_6 {l : Launch} {G : GG} {EX : State → Prop} (hE : EXB G EX) {h : AH} {r : Int64} : ∀ (n : Nat) (l0 : Nat) (l3 : Int32) (l4 : Int64) (l6 : Int32) (t0 : KD l0 = 5), fX6_mixInto_6 h n l0 l3 l4 l6 = some r → U l G EX mi_X6_mixInto 1 23 (some (.long r)) h 6 [(0, .ref (G.1 + l0)), (3, .int l3), (4, .long l4), (6, .int l6)] [] h := by
  intro n
  induction n with
  | zero =>
    intro l0 l3 l4 l6 t0 hx
    have hx : none = some r := hx
    cases hx
  | succ n ih =>
    intro l0 l3 l4 l6 t0 hx
    rw [fX6_mixInto_6] at hx
    refine V.iload (j := 3) dX6_mixInto_6 rfl rfl ?_
    refine V.aload_n (j := 0) dX6_mixInto_8 rfl rfl rfl ?_
    refine U.getI fl_X6_15 t0 dX6_mixInto_9 rfl ?_
    refine V.icmp_ge (tgt := 54) hx dX6_mixInto_12 (by decide) rfl (fun hx => ?_) (fun hx => ?_)
    · refine V.lload (j := 2) dX6_mixInto_54 rfl rfl ?_
      obtain rfl := Option.some.inj hx
      exact U.retJ rfl rfl rfl dX6_mixInto_56
    · refine V.iconst dX6_mixInto_15 rfl ki_0 ?_
      refine V.istore [(7, .int (0 : Int32)), (0, .ref (G.1 + l0)), (3, .int l3), (4, .long l4), (6, .int l6)] dX6_mixInto_16 rfl (Nat.le_of_ble_eq_true rfl) rfl ?_
      refine V.pick [1, 2, 3, 4, 0] rfl ?_
      refine vX6_mixInto_18 hE (fun w5 w6 w7 w8 t9 hx => ?_) FU l0 l3 l4 l6 (0 : Int32) t0 hx
      · refine U.iinc hx (fun v10 => [(6, .int v10), (0, .ref (G.1 + w5)), (3, .int w6), (4, .long w7)]) (j := 3) rfl (by decide) (Nat.le_of_ble_eq_true rfl) (fun _ => rfl) dX6_mixInto_48 rfl (fun v10 hx => ?_)
        refine V.goto (q := 6) dX6_mixInto_51 (by decide) ?_
        refine V.pick [1, 2, 3, 0] rfl ?_
        exact ih w5 w6 w7 v10 t9 hx
set_option maxRecDepth 100000 in
set_option maxHeartbeats 4000000 in
theorem mX6_mixInto {l : Launch} {G : GG} {EX : State → Prop} (hE : EXB G EX) {th : Nat} {a1 : Int64} {a2 : Int32} {h : AH} (t0 : KD th = 5) {r : Int64} (hx : fX6_mixInto th a1 a2 h = some r) : MetU l G EX mi_X6_mixInto 1 23 [.ref (G.1 + th), .long a1, .int a2] h (some (.long r)) h := by
  refine MetU.of mic_X6_mixInto.1 (Nat.le_of_ble_eq_true rfl) ?_
  refine show U l G EX mi_X6_mixInto 1 23 (some (.long r)) h 0 [(0, .ref (G.1 + th)), (1, .long a1), (3, .int a2)] [] h from ?_
  unfold fX6_mixInto at hx
  refine V.lload_n (j := 1) dX6_mixInto_0 rfl rfl rfl ?_
  refine V.lstore [(4, .long a1), (0, .ref (G.1 + th)), (1, .long a1), (3, .int a2)] dX6_mixInto_1 rfl (Nat.le_of_ble_eq_true rfl) rfl ?_
  refine V.iconst dX6_mixInto_3 rfl ki_0 ?_
  refine V.istore [(6, .int (0 : Int32)), (4, .long a1), (0, .ref (G.1 + th)), (1, .long a1), (3, .int a2)] dX6_mixInto_4 rfl (Nat.le_of_ble_eq_true rfl) rfl ?_
  refine V.pick [2, 4, 1, 0] rfl ?_
  exact vX6_mixInto_6 hE FU th a2 a1 (0 : Int32) t0 hx
