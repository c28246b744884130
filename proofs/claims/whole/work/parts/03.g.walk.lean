set_option maxRecDepth 100000 in
set_option maxHeartbeats 4000000 in
theorem vX8_digest_147 {l : Launch} {G : GG} {EX : State → Prop} (hE : EXB G EX) {h : AH} {r : Int64} : ∀ (l0 : Nat) (l1 : Int64) (t0 : KD l0 = 7), fX8_digest_147 h l0 l1 = some r → U l G EX mi_X8_digest 2 50 (some (.long r)) h 147 [(0, .ref (G.1 + l0)), (1, .long l1)] [] h := by
  intro l0 l1 t0 hx
  unfold fX8_digest_147 at hx
  refine V.aload_n (j := 0) dX8_digest_147 rfl rfl rfl ?_
  refine U.getP fl_X8_10 t0 dX8_digest_148 rfl ?_
  refine U.getP fl_X8_232 (ty_X8_0 t0) dX8_digest_151 rfl ?_
  refine V.lload_n (j := 1) dX8_digest_154 rfl rfl rfl ?_
  refine V.iconst dX8_digest_155 rfl ki_2 ?_
  obtain ⟨v2, q1, hx⟩ := ob_some hx
  refine U.callV (As := [.long l1, .int (2 : Int32)]) (rest := []) (st' := [.long v2]) hE.1 (mX6_mixInto hE (ty_X0_2 (ty_X8_0 t0)) q1) mic_X6_mixInto rfl (ty_X0_2 (ty_X8_0 t0)) (by decide) rfl rfl wq_m_X8_328 wq_i_yX6_mixInto wq_s_yX6_mixInto ⟨Nat.le_of_ble_eq_true rfl, Nat.le_of_ble_eq_true rfl⟩ (Nat.le_of_ble_eq_true rfl) dX8_digest_156 rfl rfl rfl ?_
  refine V.lstore_n [(1, .long v2), (0, .ref (G.1 + l0))] dX8_digest_159 rfl rfl (Nat.le_of_ble_eq_true rfl) rfl ?_
  refine V.aload_n (j := 1) dX8_digest_160 rfl rfl rfl ?_
  refine U.getP fl_X8_10 t0 dX8_digest_161 rfl ?_
  refine U.getP fl_X8_253 (ty_X8_0 t0) dX8_digest_164 rfl ?_
  refine V.lload_n (j := 0) dX8_digest_167 rfl rfl rfl ?_
  refine V.iconst dX8_digest_168 rfl ki_5 ?_
  obtain ⟨v4, q3, hx⟩ := ob_some hx
  refine U.callV (As := [.long v2, .int (5 : Int32)]) (rest := []) (st' := [.long v4]) hE.1 (mX6_mixInto hE (ty_X0_3 (ty_X8_0 t0)) q3) mic_X6_mixInto rfl (ty_X0_3 (ty_X8_0 t0)) (by decide) rfl rfl wq_m_X8_328 wq_i_yX6_mixInto wq_s_yX6_mixInto ⟨Nat.le_of_ble_eq_true rfl, Nat.le_of_ble_eq_true rfl⟩ (Nat.le_of_ble_eq_true rfl) dX8_digest_169 rfl rfl rfl ?_
  refine V.lstore_n [(1, .long v4), (0, .ref (G.1 + l0))] dX8_digest_172 rfl rfl (Nat.le_of_ble_eq_true rfl) rfl ?_
  refine V.aload_n (j := 1) dX8_digest_173 rfl rfl rfl ?_
  refine U.getP fl_X8_10 t0 dX8_digest_174 rfl ?_
  refine U.getP fl_X8_256 (ty_X8_0 t0) dX8_digest_177 rfl ?_
  refine V.lload_n (j := 0) dX8_digest_180 rfl rfl rfl ?_
  refine V.iconst dX8_digest_181 rfl ki_4 ?_
  obtain ⟨v6, q5, hx⟩ := ob_some hx
  refine U.callV (As := [.long v4, .int (4 : Int32)]) (rest := []) (st' := [.long v6]) hE.1 (mX6_mixInto hE (ty_X0_4 (ty_X8_0 t0)) q5) mic_X6_mixInto rfl (ty_X0_4 (ty_X8_0 t0)) (by decide) rfl rfl wq_m_X8_328 wq_i_yX6_mixInto wq_s_yX6_mixInto ⟨Nat.le_of_ble_eq_true rfl, Nat.le_of_ble_eq_true rfl⟩ (Nat.le_of_ble_eq_true rfl) dX8_digest_182 rfl rfl rfl ?_
  refine V.lstore_n [(1, .long v6), (0, .ref (G.1 + l0))] dX8_digest_185 rfl rfl (Nat.le_of_ble_eq_true rfl) rfl ?_
  refine V.ldc2_w dX8_digest_186 rfl wq_l_X8_326 ?_
  refine V.ldc2_w dX8_digest_189 rfl wq_l_X8_326 ?_
  refine V.lload_n (j := 0) dX8_digest_192 rfl rfl rfl ?_
  refine V.lmul dX8_digest_193 rfl ?_
  refine V.aload_n (j := 1) dX8_digest_194 rfl rfl rfl ?_
  refine U.getJ fl_X8_303 t0 dX8_digest_195 rfl ?_
  refine V.ladd dX8_digest_198 rfl ?_
  refine V.lmul dX8_digest_199 rfl ?_
  refine V.aload_n (j := 1) dX8_digest_200 rfl rfl rfl ?_
  refine U.getJ fl_X8_56 t0 dX8_digest_201 rfl ?_
  refine V.ladd dX8_digest_204 rfl ?_
  obtain rfl := Option.some.inj hx
  exact U.retJ rfl rfl rfl dX8_digest_205
set_option maxRecDepth 100000 in
set_option maxHeartbeats 4000000 in
theorem vX8_digest_108 {l : Launch} {G : GG} {EX : State → Prop} (hE : EXB G EX) {h : AH} {r : Int64} {k141 : Nat → Int64 → Int32 → Option (Int64)} (hk141 : ∀ (l0 : Nat) (l1 : Int64) (l3 : Int32) (t0 : KD l0 = 7), k141 l0 l1 l3 = some r → U l G EX mi_X8_digest 2 50 (some (.long r)) h 141 [(0, .ref (G.1 + l0)), (1, .long l1), (3, .int l3)] [] h) : ∀ (n : Nat) (l0 : Nat) (l1 : Int64) (l3 : Int32) (l4 : Int32) (t0 : KD l0 = 7), fX8_digest_108 h k141 n l0 l1 l3 l4 = some r → U l G EX mi_X8_digest 2 50 (some (.long r)) h 108 [(0, .ref (G.1 + l0)), (1, .long l1), (3, .int l3), (4, .int l4)] [] h := by
  intro n
  induction n with
  | zero =>
    intro l0 l1 l3 l4 t0 hx
    have hx : none = some r := hx
    cases hx
  | succ n ih =>
    intro l0 l1 l3 l4 t0 hx
    rw [fX8_digest_108] at hx
    refine V.iload (j := 3) dX8_digest_108 rfl rfl ?_
    refine V.iconst dX8_digest_110 rfl ki_2 ?_
    refine V.icmp_gt (tgt := 141) hx dX8_digest_111 (by decide) rfl (fun hx => ?_) (fun hx => ?_)
    · refine V.pick [0, 1, 2] rfl ?_
      exact hk141 l0 l1 l3 t0 hx
    · refine V.ldc2_w dX8_digest_114 rfl wq_l_X8_326 ?_
      refine V.lload_n (j := 1) dX8_digest_117 rfl rfl rfl ?_
      refine V.lmul dX8_digest_118 rfl ?_
      refine V.aload_n (j := 0) dX8_digest_119 rfl rfl rfl ?_
      refine U.getP fl_X8_10 t0 dX8_digest_120 rfl ?_
      refine U.getP fl_X8_60 (ty_X8_0 t0) dX8_digest_123 rfl ?_
      refine V.iload_n (j := 2) dX8_digest_126 rfl rfl rfl ?_
      refine V.iload (j := 3) dX8_digest_127 rfl rfl ?_
      obtain ⟨v8, q7, hx⟩ := ob_some hx
      refine U.callV (As := [.int l3, .int l4]) (rest := [.long ((31 : Int64) * l1)]) (st' := [.int v8, .long ((31 : Int64) * l1)]) hE.1 (mX2_watcherPart hE (ty_X0_0 (ty_X8_0 t0)) q7) mic_X2_watcherPart rfl (ty_X0_0 (ty_X8_0 t0)) (by decide) rfl rfl wq_m_X8_157 wq_i_yX2_watcherPart wq_s_yX2_watcherPart ⟨Nat.le_of_ble_eq_true rfl, Nat.le_of_ble_eq_true rfl⟩ (Nat.le_of_ble_eq_true rfl) dX8_digest_129 rfl rfl rfl ?_
      refine V.i2l dX8_digest_132 rfl ?_
      refine V.ladd dX8_digest_133 rfl ?_
      refine U.letJ hx (fun v9 hx => ?_)
      refine V.lstore_n [(1, .long v9), (0, .ref (G.1 + l0)), (3, .int l3), (4, .int l4)] dX8_digest_134 rfl rfl (Nat.le_of_ble_eq_true rfl) rfl ?_
      refine U.iinc hx (fun v10 => [(4, .int v10), (1, .long v9), (0, .ref (G.1 + l0)), (3, .int l3)]) (j := 3) rfl (by decide) (Nat.le_of_ble_eq_true rfl) (fun _ => rfl) dX8_digest_135 rfl (fun v10 hx => ?_)
      refine V.goto (q := 108) dX8_digest_138 (by decide) ?_
      refine V.pick [2, 1, 3, 0] rfl ?_
      exact ih l0 v9 l3 v10 t0 hx
set_option maxRecDepth 100000 in
set_option maxHeartbeats 4000000 in
theorem vX8_digest_91 {l : Launch} {G : GG} {EX : State → Prop} (hE : EXB G EX) {h : AH} {r : Int64} : ∀ (n : Nat) (l0 : Nat) (l1 : Int64) (l3 : Int32) (t0 : KD l0 = 7), fX8_digest_91 h n l0 l1 l3 = some r → U l G EX mi_X8_digest 2 50 (some (.long r)) h 91 [(0, .ref (G.1 + l0)), (1, .long l1), (3, .int l3)] [] h := by
  intro n
  induction n with
  | zero =>
    intro l0 l1 l3 t0 hx
    have hx : none = some r := hx
    cases hx
  | succ n ih =>
    intro l0 l1 l3 t0 hx
    rw [fX8_digest_91] at hx
    refine V.iload_n (j := 2) dX8_digest_91 rfl rfl rfl ?_
    refine V.aload_n (j := 0) dX8_digest_92 rfl rfl rfl ?_
    refine U.getP fl_X8_10 t0 dX8_digest_93 rfl ?_
    refine U.getP fl_X8_60 (ty_X8_0 t0) dX8_digest_96 rfl ?_
    refine U.getI fl_X8_63 (ty_X0_0 (ty_X8_0 t0)) dX8_digest_99 rfl ?_
    refine V.icmp_ge (tgt := 147) hx dX8_digest_102 (by decide) rfl (fun hx => ?_) (fun hx => ?_)
    · refine V.pick [0, 1] rfl ?_
      exact vX8_digest_147 hE l0 l1 t0 hx
    · refine V.iconst dX8_digest_105 rfl ki_0 ?_
      refine V.istore [(4, .int (0 : Int32)), (0, .ref (G.1 + l0)), (1, .long l1), (3, .int l3)] dX8_digest_106 rfl (Nat.le_of_ble_eq_true rfl) rfl ?_
      refine V.pick [1, 2, 3, 0] rfl ?_
      refine vX8_digest_108 hE (fun w11 w12 w13 t14 hx => ?_) FU l0 l1 l3 (0 : Int32) t0 hx
      · refine U.iinc hx (fun v15 => [(3, .int v15), (0, .ref (G.1 + w11)), (1, .long w12)]) (j := 2) rfl (by decide) (Nat.le_of_ble_eq_true rfl) (fun _ => rfl) dX8_digest_141 rfl (fun v15 hx => ?_)
        refine V.goto (q := 91) dX8_digest_144 (by decide) ?_
        refine V.pick [1, 2, 0] rfl ?_
        exact ih w11 w12 v15 t14 hx
set_option maxRecDepth 100000 in
set_option maxHeartbeats 4000000 in
theorem vX8_digest_89 {l : Launch} {G : GG} {EX : State → Prop} (hE : EXB G EX) {h : AH} {r : Int64} : ∀ (l0 : Nat) (l1 : Int64) (t0 : KD l0 = 7), fX8_digest_89 h l0 l1 = some r → U l G EX mi_X8_digest 2 50 (some (.long r)) h 89 [(0, .ref (G.1 + l0)), (1, .long l1)] [] h := by
  intro l0 l1 t0 hx
  unfold fX8_digest_89 at hx
  refine V.iconst dX8_digest_89 rfl ki_0 ?_
  refine V.istore_n [(3, .int (0 : Int32)), (0, .ref (G.1 + l0)), (1, .long l1)] dX8_digest_90 rfl rfl (Nat.le_of_ble_eq_true rfl) rfl ?_
  refine V.pick [1, 2, 0] rfl ?_
  exact vX8_digest_91 hE FU l0 l1 (0 : Int32) t0 hx
set_option maxRecDepth 100000 in
set_option maxHeartbeats 4000000 in
theorem vX8_digest_50 {l : Launch} {G : GG} {EX : State → Prop} (hE : EXB G EX) {h : AH} {r : Int64} {k83 : Nat → Int64 → Int32 → Option (Int64)} (hk83 : ∀ (l0 : Nat) (l1 : Int64) (l3 : Int32) (t0 : KD l0 = 7), k83 l0 l1 l3 = some r → U l G EX mi_X8_digest 2 50 (some (.long r)) h 83 [(0, .ref (G.1 + l0)), (1, .long l1), (3, .int l3)] [] h) : ∀ (n : Nat) (l0 : Nat) (l1 : Int64) (l3 : Int32) (l4 : Int32) (t0 : KD l0 = 7), fX8_digest_50 h k83 n l0 l1 l3 l4 = some r → U l G EX mi_X8_digest 2 50 (some (.long r)) h 50 [(0, .ref (G.1 + l0)), (1, .long l1), (3, .int l3), (4, .int l4)] [] h := by
  intro n
  induction n with
  | zero =>
    intro l0 l1 l3 l4 t0 hx
    have hx : none = some r := hx
    cases hx
  | succ n ih =>
    intro l0 l1 l3 l4 t0 hx
    rw [fX8_digest_50] at hx
    refine V.iload (j := 3) dX8_digest_50 rfl rfl ?_
    refine V.iconst dX8_digest_52 rfl ki_3 ?_
    refine V.icmp_gt (tgt := 83) hx dX8_digest_53 (by decide) rfl (fun hx => ?_) (fun hx => ?_)
    · refine V.pick [0, 1, 2] rfl ?_
      exact hk83 l0 l1 l3 t0 hx
    · refine V.ldc2_w dX8_digest_56 rfl wq_l_X8_326 ?_
      refine V.lload_n (j := 1) dX8_digest_59 rfl rfl rfl ?_
      refine V.lmul dX8_digest_60 rfl ?_
      refine V.aload_n (j := 0) dX8_digest_61 rfl rfl rfl ?_
      refine U.getP fl_X8_10 t0 dX8_digest_62 rfl ?_
      refine U.getP fl_X8_60 (ty_X8_0 t0) dX8_digest_65 rfl ?_
      refine V.iload_n (j := 2) dX8_digest_68 rfl rfl rfl ?_
      refine V.iload (j := 3) dX8_digest_69 rfl rfl ?_
      obtain ⟨v17, q16, hx⟩ := ob_some hx
      refine U.callV (As := [.int l3, .int l4]) (rest := [.long ((31 : Int64) * l1)]) (st' := [.int v17, .long ((31 : Int64) * l1)]) hE.1 (mX2_showPart hE (ty_X0_0 (ty_X8_0 t0)) q16) mic_X2_showPart rfl (ty_X0_0 (ty_X8_0 t0)) (by decide) rfl rfl wq_m_X8_154 wq_i_yX2_showPart wq_s_yX2_showPart ⟨Nat.le_of_ble_eq_true rfl, Nat.le_of_ble_eq_true rfl⟩ (Nat.le_of_ble_eq_true rfl) dX8_digest_71 rfl rfl rfl ?_
      refine V.i2l dX8_digest_74 rfl ?_
      refine V.ladd dX8_digest_75 rfl ?_
      refine U.letJ hx (fun v18 hx => ?_)
      refine V.lstore_n [(1, .long v18), (0, .ref (G.1 + l0)), (3, .int l3), (4, .int l4)] dX8_digest_76 rfl rfl (Nat.le_of_ble_eq_true rfl) rfl ?_
      refine U.iinc hx (fun v19 => [(4, .int v19), (1, .long v18), (0, .ref (G.1 + l0)), (3, .int l3)]) (j := 3) rfl (by decide) (Nat.le_of_ble_eq_true rfl) (fun _ => rfl) dX8_digest_77 rfl (fun v19 hx => ?_)
      refine V.goto (q := 50) dX8_digest_80 (by decide) ?_
      refine V.pick [2, 1, 3, 0] rfl ?_
      exact ih l0 v18 l3 v19 t0 hx
set_option maxRecDepth 100000 in
set_option maxHeartbeats 4000000 in
theorem vX8_digest_33 {l : Launch} {G : GG} {EX : State → Prop} (hE : EXB G EX) {h : AH} {r : Int64} : ∀ (n : Nat) (l0 : Nat) (l1 : Int64) (l3 : Int32) (t0 : KD l0 = 7), fX8_digest_33 h n l0 l1 l3 = some r → U l G EX mi_X8_digest 2 50 (some (.long r)) h 33 [(0, .ref (G.1 + l0)), (1, .long l1), (3, .int l3)] [] h := by
  intro n
  induction n with
  | zero =>
    intro l0 l1 l3 t0 hx
    have hx : none = some r := hx
    cases hx
  | succ n ih =>
    intro l0 l1 l3 t0 hx
    rw [fX8_digest_33] at hx
    refine V.iload_n (j := 2) dX8_digest_33 rfl rfl rfl ?_
    refine V.aload_n (j := 0) dX8_digest_34 rfl rfl rfl ?_
    refine U.getP fl_X8_10 t0 dX8_digest_35 rfl ?_
    refine U.getP fl_X8_60 (ty_X8_0 t0) dX8_digest_38 rfl ?_
    refine U.getI fl_X8_84 (ty_X0_0 (ty_X8_0 t0)) dX8_digest_41 rfl ?_
    refine V.icmp_ge (tgt := 89) hx dX8_digest_44 (by decide) rfl (fun hx => ?_) (fun hx => ?_)
    · refine V.pick [0, 1] rfl ?_
      exact vX8_digest_89 hE l0 l1 t0 hx
    · refine V.iconst dX8_digest_47 rfl ki_0 ?_
      refine V.istore [(4, .int (0 : Int32)), (0, .ref (G.1 + l0)), (1, .long l1), (3, .int l3)] dX8_digest_48 rfl (Nat.le_of_ble_eq_true rfl) rfl ?_
      refine V.pick [1, 2, 3, 0] rfl ?_
      refine vX8_digest_50 hE (fun w20 w21 w22 t23 hx => ?_) FU l0 l1 l3 (0 : Int32) t0 hx
      · refine U.iinc hx (fun v24 => [(3, .int v24), (0, .ref (G.1 + w20)), (1, .long w21)]) (j := 2) rfl (by decide) (Nat.le_of_ble_eq_true rfl) (fun _ => rfl) dX8_digest_83 rfl (fun v24 hx => ?_)
        refine V.goto (q := 33) dX8_digest_86 (by decide) ?_
        refine V.pick [1, 2, 0] rfl ?_
        exact ih w20 w21 v24 t23 hx
set_option maxRecDepth 100000 in
set_option maxHeartbeats 4000000 in
theorem vX8_digest_31 {l : Launch} {G : GG} {EX : State → Prop} (hE : EXB G EX) {h : AH} {r : Int64} : ∀ (l0 : Nat) (l1 : Int64) (t0 : KD l0 = 7), fX8_digest_31 h l0 l1 = some r → U l G EX mi_X8_digest 2 50 (some (.long r)) h 31 [(0, .ref (G.1 + l0)), (1, .long l1)] [] h := by
  intro l0 l1 t0 hx
  unfold fX8_digest_31 at hx
  refine V.iconst dX8_digest_31 rfl ki_0 ?_
  refine V.istore_n [(3, .int (0 : Int32)), (0, .ref (G.1 + l0)), (1, .long l1)] dX8_digest_32 rfl rfl (Nat.le_of_ble_eq_true rfl) rfl ?_
  refine V.pick [1, 2, 0] rfl ?_
  exact vX8_digest_33 hE FU l0 l1 (0 : Int32) t0 hx
set_option maxRecDepth 100000 in
set_option maxHeartbeats 4000000 in
theorem vX8_digest_6 {l : Launch} {G : GG} {EX : State → Prop} (hE : EXB G EX) {h : AH} {r : Int64} : ∀ (n : Nat) (l0 : Nat) (l1 : Int64) (l3 : Int32) (t0 : KD l0 = 7), fX8_digest_6 h n l0 l1 l3 = some r → U l G EX mi_X8_digest 2 50 (some (.long r)) h 6 [(0, .ref (G.1 + l0)), (1, .long l1), (3, .int l3)] [] h := by
  intro n
  induction n with
  | zero =>
    intro l0 l1 l3 t0 hx
    have hx : none = some r := hx
    cases hx
  | succ n ih =>
    intro l0 l1 l3 t0 hx
    rw [fX8_digest_6] at hx
    refine V.iload_n (j := 2) dX8_digest_6 rfl rfl rfl ?_
    refine V.bipush dX8_digest_7 rfl kb_10 ?_
    refine V.icmp_gt (tgt := 31) hx dX8_digest_9 (by decide) rfl (fun hx => ?_) (fun hx => ?_)
    · refine V.pick [0, 1] rfl ?_
      exact vX8_digest_31 hE l0 l1 t0 hx
    · refine V.ldc2_w dX8_digest_12 rfl wq_l_X8_326 ?_
      refine V.lload_n (j := 1) dX8_digest_15 rfl rfl rfl ?_
      refine V.lmul dX8_digest_16 rfl ?_
      refine V.aload_n (j := 0) dX8_digest_17 rfl rfl rfl ?_
      refine V.iload_n (j := 2) dX8_digest_18 rfl rfl rfl ?_
      obtain ⟨v26, q25, hx⟩ := ob_some hx
      refine U.callV (As := [.int l3]) (rest := [.long ((31 : Int64) * l1)]) (st' := [.int v26, .long ((31 : Int64) * l1)]) hE.1 (mX8_tally hE t0 q25) mic_X8_tally rfl t0 (by decide) rfl rfl wq_m_X8_321 wq_i_yX8_tally wq_s_yX8_tally ⟨Nat.le_of_ble_eq_true rfl, Nat.le_of_ble_eq_true rfl⟩ (Nat.le_of_ble_eq_true rfl) dX8_digest_19 rfl rfl rfl ?_
      refine V.i2l dX8_digest_22 rfl ?_
      refine V.ladd dX8_digest_23 rfl ?_
      refine U.letJ hx (fun v27 hx => ?_)
      refine V.lstore_n [(1, .long v27), (0, .ref (G.1 + l0)), (3, .int l3)] dX8_digest_24 rfl rfl (Nat.le_of_ble_eq_true rfl) rfl ?_
      refine U.iinc hx (fun v28 => [(3, .int v28), (1, .long v27), (0, .ref (G.1 + l0))]) (j := 2) rfl (by decide) (Nat.le_of_ble_eq_true rfl) (fun _ => rfl) dX8_digest_25 rfl (fun v28 hx => ?_)
      refine V.goto (q := 6) dX8_digest_28 (by decide) ?_
      refine V.pick [2, 1, 0] rfl ?_
      exact ih l0 v27 v28 t0 hx
set_option maxRecDepth 100000 in
set_option maxHeartbeats 4000000 in
theorem mX8_digest {l : Launch} {G : GG} {EX : State → Prop} (hE : EXB G EX) {th : Nat} {h : AH} (t0 : KD th = 7) {r : Int64} (hx : fX8_digest th h = some r) : MetU l G EX mi_X8_digest 2 50 [.ref (G.1 + th)] h (some (.long r)) h := by
  refine MetU.of mic_X8_digest.1 (Nat.le_of_ble_eq_true rfl) ?_
  refine show U l G EX mi_X8_digest 2 50 (some (.long r)) h 0 [(0, .ref (G.1 + th))] [] h from ?_
  unfold fX8_digest at hx
  refine V.ldc2_w dX8_digest_0 rfl wq_l_X8_324 ?_
  refine V.lstore_n [(1, .long (1487 : Int64)), (0, .ref (G.1 + th))] dX8_digest_3 rfl rfl (Nat.le_of_ble_eq_true rfl) rfl ?_
  refine V.iconst dX8_digest_4 rfl ki_0 ?_
  refine V.istore_n [(3, .int (0 : Int32)), (1, .long (1487 : Int64)), (0, .ref (G.1 + th))] dX8_digest_5 rfl rfl (Nat.le_of_ble_eq_true rfl) rfl ?_
  refine V.pick [2, 1, 0] rfl ?_
  exact vX8_digest_6 hE FU th (1487 : Int64) (0 : Int32) t0 hx
set_option maxRecDepth 100000 in
set_option maxHeartbeats 4000000 in
theorem mX9_in {l : Launch} {G : GG} {EX : State → Prop} (hE : EXB G EX) {a0 : Int64} {a1 : Int64} {a2 : Int64} {h : AH} {r : Int32} (hx : fX9_in a0 a1 a2 = some r) : MetU l G EX mi_X9_in 0 0 [.long a0, .long a1, .long a2] h (some (.int r)) h := by
  refine MetU.of mic_X9_in.1 (Nat.le_of_ble_eq_true rfl) ?_
  refine show U l G EX mi_X9_in 0 0 (some (.int r)) h 0 [(0, .long a0), (2, .long a1), (4, .long a2)] [] h from ?_
  unfold fX9_in at hx
  refine V.lload_n (j := 0) dX9_in_0 rfl rfl rfl ?_
  refine V.lload_n (j := 1) dX9_in_1 rfl rfl rfl ?_
  refine V.lcmp dX9_in_2 rfl ?_
  refine V.if_lt (tgt := 17) hx dX9_in_3 (by decide) rfl (fun hx => ?_) (fun hx => ?_)
  · refine V.iconst dX9_in_17 rfl ki_0 ?_
    obtain rfl := Option.some.inj hx
    exact U.retI rfl rfl rfl rfl dX9_in_18
  · refine V.lload_n (j := 0) dX9_in_6 rfl rfl rfl ?_
    refine V.lload (j := 2) dX9_in_7 rfl rfl ?_
    refine V.lcmp dX9_in_9 rfl ?_
    refine V.if_gt (tgt := 17) hx dX9_in_10 (by decide) rfl (fun hx => ?_) (fun hx => ?_)
    · refine V.iconst dX9_in_17 rfl ki_0 ?_
      obtain rfl := Option.some.inj hx
      exact U.retI rfl rfl rfl rfl dX9_in_18
    · refine V.iconst dX9_in_13 rfl ki_1 ?_
      refine V.goto (q := 18) dX9_in_14 (by decide) ?_
      obtain rfl := Option.some.inj hx
      exact U.retI rfl rfl rfl rfl dX9_in_18
set_option maxRecDepth 100000 in
set_option maxHeartbeats 4000000 in
theorem mX9_bad {l : Launch} {G : GG} {EX : State → Prop} (hE : EXB G EX) {th : Nat} {a1 : Int32} {h : AH} (t0 : KD th = 8) {r : Int32 × AH} (hx : fX9_bad th a1 h = some r) : MetU l G EX mi_X9_bad 0 0 [.ref (G.1 + th), .int a1] h (some (.int r.1)) r.2 := by
  refine MetU.of mic_X9_bad.1 (Nat.le_of_ble_eq_true rfl) ?_
  refine show U l G EX mi_X9_bad 0 0 (some (.int r.1)) r.2 0 [(0, .ref (G.1 + th)), (1, .int a1)] [] h from ?_
  unfold fX9_bad at hx
  refine V.aload_n (j := 0) dX9_bad_0 rfl rfl rfl ?_
  refine U.getP fl_X9_20 t0 dX9_bad_1 rfl ?_
  refine V.iconst dX9_bad_4 rfl ki_0 ?_
  refine V.dup2 dX9_bad_5 rfl rfl rfl ?_
  refine U.iald hx (ty_X9_3 t0) dX9_bad_6 rfl (fun hx => ?_)
  refine V.iconst dX9_bad_7 rfl ki_1 ?_
  refine V.iadd dX9_bad_8 rfl ?_
  refine U.iast hx (ty_X9_3 t0) dX9_bad_9 rfl (fun h1 hx => ?_)
  refine V.iload_n (j := 1) dX9_bad_10 rfl rfl rfl ?_
  obtain rfl := Option.some.inj hx
  exact U.retI rfl rfl rfl rfl dX9_bad_11
set_option maxRecDepth 100000 in
set_option maxHeartbeats 4000000 in
theorem mX9_no {l : Launch} {G : GG} {EX : State → Prop} (hE : EXB G EX) {th : Nat} {h : AH} (t0 : KD th = 8) {r : Int32 × AH} (hx : fX9_no th h = some r) : MetU l G EX mi_X9_no 0 0 [.ref (G.1 + th)] h (some (.int r.1)) r.2 := by
  refine MetU.of mic_X9_no.1 (Nat.le_of_ble_eq_true rfl) ?_
  refine show U l G EX mi_X9_no 0 0 (some (.int r.1)) r.2 0 [(0, .ref (G.1 + th))] [] h from ?_
  unfold fX9_no at hx
  refine V.aload_n (j := 0) dX9_no_0 rfl rfl rfl ?_
  refine U.getP fl_X9_20 t0 dX9_no_1 rfl ?_
  refine V.iconst dX9_no_4 rfl ki_1 ?_
  refine V.dup2 dX9_no_5 rfl rfl rfl ?_
  refine U.iald hx (ty_X9_3 t0) dX9_no_6 rfl (fun hx => ?_)
  refine V.iconst dX9_no_7 rfl ki_1 ?_
  refine V.iadd dX9_no_8 rfl ?_
  refine U.iast hx (ty_X9_3 t0) dX9_no_9 rfl (fun h1 hx => ?_)
  refine V.bipush dX9_no_10 rfl kb_m3 ?_
  obtain rfl := Option.some.inj hx
  exact U.retI rfl rfl rfl rfl dX9_no_12
set_option maxRecDepth 100000 in
set_option maxHeartbeats 4000000 in
theorem mX9_full {l : Launch} {G : GG} {EX : State → Prop} (hE : EXB G EX) {th : Nat} {h : AH} (t0 : KD th = 8) {r : Int32 × AH} (hx : fX9_full th h = some r) : MetU l G EX mi_X9_full 0 0 [.ref (G.1 + th)] h (some (.int r.1)) r.2 := by
  refine MetU.of mic_X9_full.1 (Nat.le_of_ble_eq_true rfl) ?_
  refine show U l G EX mi_X9_full 0 0 (some (.int r.1)) r.2 0 [(0, .ref (G.1 + th))] [] h from ?_
  unfold fX9_full at hx
  refine V.aload_n (j := 0) dX9_full_0 rfl rfl rfl ?_
  refine U.getP fl_X9_20 t0 dX9_full_1 rfl ?_
  refine V.iconst dX9_full_4 rfl ki_2 ?_
  refine V.dup2 dX9_full_5 rfl rfl rfl ?_
  refine U.iald hx (ty_X9_3 t0) dX9_full_6 rfl (fun hx => ?_)
  refine V.iconst dX9_full_7 rfl ki_1 ?_
  refine V.iadd dX9_full_8 rfl ?_
  refine U.iast hx (ty_X9_3 t0) dX9_full_9 rfl (fun h1 hx => ?_)
  refine V.bipush dX9_full_10 rfl kb_m4 ?_
  obtain rfl := Option.some.inj hx
  exact U.retI rfl rfl rfl rfl dX9_full_12
set_option maxRecDepth 100000 in
set_option maxHeartbeats 4000000 in
theorem vX9_bits_4 {l : Launch} {G : GG} {EX : State → Prop} (hE : EXB G EX) {h : AH} {r : Int32} : ∀ (n : Nat) (l1 : Int32) (l2 : Int32), fX9_bits_4 n l1 l2 = some r → U l G EX mi_X9_bits 0 0 (some (.int r)) h 4 [(1, .int l1), (2, .int l2)] [] h := by
  intro n
  induction n with
  | zero =>
    intro l1 l2 hx
    have hx : none = some r := hx
    cases hx
  | succ n ih =>
    intro l1 l2 hx
    rw [fX9_bits_4] at hx
    refine V.iload_n (j := 1) dX9_bits_4 rfl rfl rfl ?_
    refine V.if_le (tgt := 21) hx dX9_bits_5 (by decide) rfl (fun hx => ?_) (fun hx => ?_)
    · refine V.iload_n (j := 0) dX9_bits_21 rfl rfl rfl ?_
      obtain rfl := Option.some.inj hx
      exact U.retI rfl rfl rfl rfl dX9_bits_22
    · refine V.iload_n (j := 0) dX9_bits_8 rfl rfl rfl ?_
      refine V.iload_n (j := 1) dX9_bits_9 rfl rfl rfl ?_
      refine V.iconst dX9_bits_10 rfl ki_1 ?_
      refine V.iand dX9_bits_11 rfl ?_
      refine V.iadd dX9_bits_12 rfl ?_
      refine U.letI hx (fun v1 hx => ?_)
      refine V.istore_n [(1, .int v1), (2, .int l2)] dX9_bits_13 rfl rfl (Nat.le_of_ble_eq_true rfl) rfl ?_
      refine V.iload_n (j := 1) dX9_bits_14 rfl rfl rfl ?_
      refine V.iconst dX9_bits_15 rfl ki_1 ?_
      refine V.ishr dX9_bits_16 rfl ?_
      refine U.letI hx (fun v2 hx => ?_)
      refine V.istore_n [(2, .int v2), (1, .int v1)] dX9_bits_17 rfl rfl (Nat.le_of_ble_eq_true rfl) rfl ?_
      refine V.goto (q := 4) dX9_bits_18 (by decide) ?_
      refine V.pick [1, 0] rfl ?_
      exact ih v1 v2 hx
set_option maxRecDepth 100000 in
set_option maxHeartbeats 4000000 in
theorem mX9_bits {l : Launch} {G : GG} {EX : State → Prop} (hE : EXB G EX) {a0 : Int32} {h : AH} {r : Int32} (hx : fX9_bits a0 = some r) : MetU l G EX mi_X9_bits 0 0 [.int a0] h (some (.int r)) h := by
  refine MetU.of mic_X9_bits.1 (Nat.le_of_ble_eq_true rfl) ?_
  refine show U l G EX mi_X9_bits 0 0 (some (.int r)) h 0 [(0, .int a0)] [] h from ?_
  unfold fX9_bits at hx
  refine V.iconst dX9_bits_0 rfl ki_0 ?_
  refine V.istore_n [(1, .int (0 : Int32)), (0, .int a0)] dX9_bits_1 rfl rfl (Nat.le_of_ble_eq_true rfl) rfl ?_
  refine V.iload_n (j := 1) dX9_bits_2 rfl rfl rfl ?_
  refine V.istore_n [(2, .int a0), (1, .int (0 : Int32)), (0, .int a0)] dX9_bits_3 rfl rfl (Nat.le_of_ble_eq_true rfl) rfl ?_
  refine V.pick [1, 0] rfl ?_
  exact vX9_bits_4 hE FU (0 : Int32) a0 hx
set_option maxRecDepth 100000 in
set_option maxHeartbeats 4000000 in
theorem mX9_has {l : Launch} {G : GG} {EX : State → Prop} (hE : EXB G EX) {a0 : Int32} {a1 : Int32} {h : AH} {r : Int32} (hx : fX9_has a0 a1 = some r) : MetU l G EX mi_X9_has 0 0 [.int a0, .int a1] h (some (.int r)) h := by
  refine MetU.of mic_X9_has.1 (Nat.le_of_ble_eq_true rfl) ?_
  refine show U l G EX mi_X9_has 0 0 (some (.int r)) h 0 [(0, .int a0), (1, .int a1)] [] h from ?_
  unfold fX9_has at hx
  refine V.iload_n (j := 0) dX9_has_0 rfl rfl rfl ?_
  refine V.iload_n (j := 1) dX9_has_1 rfl rfl rfl ?_
  refine V.ishr dX9_has_2 rfl ?_
  refine V.iconst dX9_has_3 rfl ki_1 ?_
  refine V.iand dX9_has_4 rfl ?_
  refine V.iconst dX9_has_5 rfl ki_1 ?_
  refine V.icmp_ne (tgt := 13) hx dX9_has_6 (by decide) rfl (fun hx => ?_) (fun hx => ?_)
  · refine V.iconst dX9_has_13 rfl ki_0 ?_
    obtain rfl := Option.some.inj hx
    exact U.retI rfl rfl rfl rfl dX9_has_14
  · refine V.iconst dX9_has_9 rfl ki_1 ?_
    refine V.goto (q := 14) dX9_has_10 (by decide) ?_
    obtain rfl := Option.some.inj hx
    exact U.retI rfl rfl rfl rfl dX9_has_14
set_option maxRecDepth 100000 in
set_option maxHeartbeats 4000000 in
theorem vX9_begin_2 {l : Launch} {G : GG} {EX : State → Prop} (hE : EXB G EX) {r : AH} : ∀ (n : Nat) (l0 : Nat) (l1 : Int32) (h : AH) (t0 : KD l0 = 9), fX9_begin_2 n l0 l1 h = some r → U l G EX mi_X9_begin 0 0 none r 2 [(0, .ref (G.1 + l0)), (1, .int l1)] [] h := by
  intro n
  induction n with
  | zero =>
    intro l0 l1 h t0 hx
    have hx : none = some r := hx
    cases hx
  | succ n ih =>
    intro l0 l1 h t0 hx
    rw [fX9_begin_2] at hx
    refine V.iload_n (j := 1) dX9_begin_2 rfl rfl rfl ?_
    refine V.bipush dX9_begin_3 rfl kb_112 ?_
    refine V.icmp_ge (tgt := 18) hx dX9_begin_5 (by decide) rfl (fun hx => ?_) (fun hx => ?_)
    · obtain rfl := Option.some.inj hx
      exact U.ret0 rfl rfl rfl dX9_begin_18
    · refine V.aload_n (j := 0) dX9_begin_8 rfl rfl rfl ?_
      refine V.iload_n (j := 1) dX9_begin_9 rfl rfl rfl ?_
      refine V.iconst dX9_begin_10 rfl ki_0 ?_
      refine U.iast hx t0 dX9_begin_11 rfl (fun h1 hx => ?_)
      refine U.iinc hx (fun v2 => [(1, .int v2), (0, .ref (G.1 + l0))]) (j := 1) rfl (by decide) (Nat.le_of_ble_eq_true rfl) (fun _ => rfl) dX9_begin_12 rfl (fun v2 hx => ?_)
      refine V.goto (q := 2) dX9_begin_15 (by decide) ?_
      refine V.pick [1, 0] rfl ?_
      exact ih l0 v2 h1 t0 hx
set_option maxRecDepth 100000 in
set_option maxHeartbeats 4000000 in
theorem mX9_begin {l : Launch} {G : GG} {EX : State → Prop} (hE : EXB G EX) {a0 : Nat} {h : AH} (t0 : KD a0 = 9) {r : AH} (hx : fX9_begin a0 h = some r) : MetU l G EX mi_X9_begin 0 0 [.ref (G.1 + a0)] h none r := by
  refine MetU.of mic_X9_begin.1 (Nat.le_of_ble_eq_true rfl) ?_
  refine show U l G EX mi_X9_begin 0 0 none r 0 [(0, .ref (G.1 + a0))] [] h from ?_
  unfold fX9_begin at hx
  refine V.iconst dX9_begin_0 rfl ki_0 ?_
  refine V.istore_n [(1, .int (0 : Int32)), (0, .ref (G.1 + a0))] dX9_begin_1 rfl rfl (Nat.le_of_ble_eq_true rfl) rfl ?_
  refine V.pick [1, 0] rfl ?_
  exact vX9_begin_2 hE FU a0 (0 : Int32) h t0 hx
set_option maxRecDepth 100000 in
set_option maxHeartbeats 4000000 in
theorem mX9_many {l : Launch} {G : GG} {EX : State → Prop} (hE : EXB G EX) {th : Nat} {h : AH} (t0 : KD th = 8) {r : Int32} (hx : fX9_many th h = some r) : MetU l G EX mi_X9_many 0 0 [.ref (G.1 + th)] h (some (.int r)) h := by
  refine MetU.of mic_X9_many.1 (Nat.le_of_ble_eq_true rfl) ?_
  refine show U l G EX mi_X9_many 0 0 (some (.int r)) h 0 [(0, .ref (G.1 + th))] [] h from ?_
  unfold fX9_many at hx
  refine V.aload_n (j := 0) dX9_many_0 rfl rfl rfl ?_
  refine U.getP fl_X9_7 t0 dX9_many_1 rfl ?_
  refine V.iconst dX9_many_4 rfl ki_0 ?_
  refine U.iald hx (ty_X9_0 t0) dX9_many_5 rfl (fun hx => ?_)
  obtain rfl := Option.some.inj hx
  exact U.retI rfl rfl rfl rfl dX9_many_6
set_option maxRecDepth 100000 in
set_option maxHeartbeats 4000000 in
theorem mX9_manyWatchers {l : Launch} {G : GG} {EX : State → Prop} (hE : EXB G EX) {th : Nat} {h : AH} (t0 : KD th = 8) {r : Int32} (hx : fX9_manyWatchers th h = some r) : MetU l G EX mi_X9_manyWatchers 0 0 [.ref (G.1 + th)] h (some (.int r)) h := by
  refine MetU.of mic_X9_manyWatchers.1 (Nat.le_of_ble_eq_true rfl) ?_
  refine show U l G EX mi_X9_manyWatchers 0 0 (some (.int r)) h 0 [(0, .ref (G.1 + th))] [] h from ?_
  unfold fX9_manyWatchers at hx
  refine V.aload_n (j := 0) dX9_manyWatchers_0 rfl rfl rfl ?_
  refine U.getP fl_X9_7 t0 dX9_manyWatchers_1 rfl ?_
  refine V.iconst dX9_manyWatchers_4 rfl ki_1 ?_
  refine U.iald hx (ty_X9_0 t0) dX9_manyWatchers_5 rfl (fun hx => ?_)
  obtain rfl := Option.some.inj hx
  exact U.retI rfl rfl rfl rfl dX9_manyWatchers_6
set_option maxRecDepth 100000 in
set_option maxHeartbeats 4000000 in
theorem mX9_isShow {l : Launch} {G : GG} {EX : State → Prop} (hE : EXB G EX) {th : Nat} {a1 : Int32} {h : AH} (t0 : KD th = 8) {r : Int32} (hx : fX9_isShow th a1 h = some r) : MetU l G EX mi_X9_isShow 1 25 [.ref (G.1 + th), .int a1] h (some (.int r)) h := by
  refine MetU.of mic_X9_isShow.1 (Nat.le_of_ble_eq_true rfl) ?_
  refine show U l G EX mi_X9_isShow 1 25 (some (.int r)) h 0 [(0, .ref (G.1 + th)), (1, .int a1)] [] h from ?_
  unfold fX9_isShow at hx
  refine V.iload_n (j := 1) dX9_isShow_0 rfl rfl rfl ?_
  refine V.i2l dX9_isShow_1 rfl ?_
  refine V.lconst dX9_isShow_2 rfl kl_0 ?_
  refine V.aload_n (j := 0) dX9_isShow_3 rfl rfl rfl ?_
  obtain ⟨v2, q1, hx⟩ := ob_some hx
  refine U.callV (As := []) (rest := [.long (0 : Int64), .long a1.toInt64]) (st' := [.int v2, .long (0 : Int64), .long a1.toInt64]) hE.1 (mX9_many hE t0 q1) mic_X9_many rfl t0 (by decide) rfl rfl wq_m_X9_55 wq_i_yX9_many wq_s_yX9_many ⟨Nat.le_of_ble_eq_true rfl, Nat.le_of_ble_eq_true rfl⟩ (Nat.le_of_ble_eq_true rfl) dX9_isShow_4 rfl rfl rfl ?_
  refine V.iconst dX9_isShow_7 rfl ki_1 ?_
  refine V.isub dX9_isShow_8 rfl ?_
  refine V.i2l dX9_isShow_9 rfl ?_
  obtain ⟨v4, q3, hx⟩ := ob_some hx
  refine U.callS (As := [.long a1.toInt64, .long (0 : Int64), .long ((v2 - (1 : Int32)).toInt64)]) (rest := []) (st' := [.int v4]) hE.1 (mX9_in hE q3) mic_X9_in rfl wq_m_X9_59 wq_t_yX9_in ⟨Nat.le_of_ble_eq_true rfl, Nat.le_of_ble_eq_true rfl⟩ (Nat.le_of_ble_eq_true rfl) dX9_isShow_10 rfl rfl rfl ?_
  obtain ⟨g5, hx⟩ := oG_some hx
  obtain rfl := Option.some.inj hx
  exact U.retI rfl rfl rfl (isB_nar g5) dX9_isShow_13
set_option maxRecDepth 100000 in
set_option maxHeartbeats 4000000 in
theorem mX9_isWatcher {l : Launch} {G : GG} {EX : State → Prop} (hE : EXB G EX) {th : Nat} {a1 : Int32} {h : AH} (t0 : KD th = 8) {r : Int32} (hx : fX9_isWatcher th a1 h = some r) : MetU l G EX mi_X9_isWatcher 1 25 [.ref (G.1 + th), .int a1] h (some (.int r)) h := by
  refine MetU.of mic_X9_isWatcher.1 (Nat.le_of_ble_eq_true rfl) ?_
  refine show U l G EX mi_X9_isWatcher 1 25 (some (.int r)) h 0 [(0, .ref (G.1 + th)), (1, .int a1)] [] h from ?_
  unfold fX9_isWatcher at hx
  refine V.iload_n (j := 1) dX9_isWatcher_0 rfl rfl rfl ?_
  refine V.i2l dX9_isWatcher_1 rfl ?_
  refine V.lconst dX9_isWatcher_2 rfl kl_0 ?_
  refine V.aload_n (j := 0) dX9_isWatcher_3 rfl rfl rfl ?_
  obtain ⟨v2, q1, hx⟩ := ob_some hx
  refine U.callV (As := []) (rest := [.long (0 : Int64), .long a1.toInt64]) (st' := [.int v2, .long (0 : Int64), .long a1.toInt64]) hE.1 (mX9_manyWatchers hE t0 q1) mic_X9_manyWatchers rfl t0 (by decide) rfl rfl wq_m_X9_63 wq_i_yX9_manyWatchers wq_s_yX9_manyWatchers ⟨Nat.le_of_ble_eq_true rfl, Nat.le_of_ble_eq_true rfl⟩ (Nat.le_of_ble_eq_true rfl) dX9_isWatcher_4 rfl rfl rfl ?_
  refine V.iconst dX9_isWatcher_7 rfl ki_1 ?_
  refine V.isub dX9_isWatcher_8 rfl ?_
  refine V.i2l dX9_isWatcher_9 rfl ?_
  obtain ⟨v4, q3, hx⟩ := ob_some hx
  refine U.callS (As := [.long a1.toInt64, .long (0 : Int64), .long ((v2 - (1 : Int32)).toInt64)]) (rest := []) (st' := [.int v4]) hE.1 (mX9_in hE q3) mic_X9_in rfl wq_m_X9_59 wq_t_yX9_in ⟨Nat.le_of_ble_eq_true rfl, Nat.le_of_ble_eq_true rfl⟩ (Nat.le_of_ble_eq_true rfl) dX9_isWatcher_10 rfl rfl rfl ?_
  obtain ⟨g5, hx⟩ := oG_some hx
  obtain rfl := Option.some.inj hx
  exact U.retI rfl rfl rfl (isB_nar g5) dX9_isWatcher_13
set_option maxRecDepth 100000 in
set_option maxHeartbeats 4000000 in
theorem mX9_isCell {l : Launch} {G : GG} {EX : State → Prop} (hE : EXB G EX) {a0 : Int32} {h : AH} {r : Int32} (hx : fX9_isCell a0 = some r) : MetU l G EX mi_X9_isCell 1 25 [.int a0] h (some (.int r)) h := by
  refine MetU.of mic_X9_isCell.1 (Nat.le_of_ble_eq_true rfl) ?_
  refine show U l G EX mi_X9_isCell 1 25 (some (.int r)) h 0 [(0, .int a0)] [] h from ?_
  unfold fX9_isCell at hx
  refine V.iload_n (j := 0) dX9_isCell_0 rfl rfl rfl ?_
  refine V.i2l dX9_isCell_1 rfl ?_
  refine V.lconst dX9_isCell_2 rfl kl_0 ?_
  refine V.ldc2_w dX9_isCell_3 rfl wq_l_X9_66 ?_
  obtain ⟨v2, q1, hx⟩ := ob_some hx
  refine U.callS (As := [.long a0.toInt64, .long (0 : Int64), .long (29 : Int64)]) (rest := []) (st' := [.int v2]) hE.1 (mX9_in hE q1) mic_X9_in rfl wq_m_X9_59 wq_t_yX9_in ⟨Nat.le_of_ble_eq_true rfl, Nat.le_of_ble_eq_true rfl⟩ (Nat.le_of_ble_eq_true rfl) dX9_isCell_6 rfl rfl rfl ?_
  obtain ⟨g3, hx⟩ := oG_some hx
  obtain rfl := Option.some.inj hx
  exact U.retI rfl rfl rfl (isB_nar g3) dX9_isCell_9
set_option maxRecDepth 100000 in
set_option maxHeartbeats 4000000 in
theorem mX9_isStep {l : Launch} {G : GG} {EX : State → Prop} (hE : EXB G EX) {a0 : Int32} {h : AH} {r : Int32} (hx : fX9_isStep a0 = some r) : MetU l G EX mi_X9_isStep 1 25 [.int a0] h (some (.int r)) h := by
  refine MetU.of mic_X9_isStep.1 (Nat.le_of_ble_eq_true rfl) ?_
  refine show U l G EX mi_X9_isStep 1 25 (some (.int r)) h 0 [(0, .int a0)] [] h from ?_
  unfold fX9_isStep at hx
  refine V.iload_n (j := 0) dX9_isStep_0 rfl rfl rfl ?_
  refine V.i2l dX9_isStep_1 rfl ?_
  refine V.lconst dX9_isStep_2 rfl kl_0 ?_
  refine V.ldc2_w dX9_isStep_3 rfl wq_l_X9_68 ?_
  obtain ⟨v2, q1, hx⟩ := ob_some hx
  refine U.callS (As := [.long a0.toInt64, .long (0 : Int64), .long (11 : Int64)]) (rest := []) (st' := [.int v2]) hE.1 (mX9_in hE q1) mic_X9_in rfl wq_m_X9_59 wq_t_yX9_in ⟨Nat.le_of_ble_eq_true rfl, Nat.le_of_ble_eq_true rfl⟩ (Nat.le_of_ble_eq_true rfl) dX9_isStep_6 rfl rfl rfl ?_
  obtain ⟨g3, hx⟩ := oG_some hx
  obtain rfl := Option.some.inj hx
  exact U.retI rfl rfl rfl (isB_nar g3) dX9_isStep_9
set_option maxRecDepth 100000 in
set_option maxHeartbeats 4000000 in
theorem mX9_isFar {l : Launch} {G : GG} {EX : State → Prop} (hE : EXB G EX) {a0 : Int32} {h : AH} {r : Int32} (hx : fX9_isFar a0 = some r) : MetU l G EX mi_X9_isFar 1 25 [.int a0] h (some (.int r)) h := by
  refine MetU.of mic_X9_isFar.1 (Nat.le_of_ble_eq_true rfl) ?_
  refine show U l G EX mi_X9_isFar 1 25 (some (.int r)) h 0 [(0, .int a0)] [] h from ?_
  unfold fX9_isFar at hx
  refine V.iload_n (j := 0) dX9_isFar_0 rfl rfl rfl ?_
  refine V.i2l dX9_isFar_1 rfl ?_
  refine V.lconst dX9_isFar_2 rfl kl_0 ?_
  refine V.ldc2_w dX9_isFar_3 rfl wq_l_X9_70 ?_
  obtain ⟨v2, q1, hx⟩ := ob_some hx
  refine U.callS (As := [.long a0.toInt64, .long (0 : Int64), .long (9 : Int64)]) (rest := []) (st' := [.int v2]) hE.1 (mX9_in hE q1) mic_X9_in rfl wq_m_X9_59 wq_t_yX9_in ⟨Nat.le_of_ble_eq_true rfl, Nat.le_of_ble_eq_true rfl⟩ (Nat.le_of_ble_eq_true rfl) dX9_isFar_6 rfl rfl rfl ?_
  obtain ⟨g3, hx⟩ := oG_some hx
  obtain rfl := Option.some.inj hx
  exact U.retI rfl rfl rfl (isB_nar g3) dX9_isFar_9
set_option maxRecDepth 100000 in
set_option maxHeartbeats 4000000 in
theorem mX9_land {l : Launch} {G : GG} {EX : State → Prop} (hE : EXB G EX) {th : Nat} {h : AH} (t0 : KD th = 8) {r : Int32 × AH} (hx : fX9_land th h = some r) : MetU l G EX mi_X9_land 1 21 [.ref (G.1 + th)] h (some (.int r.1)) r.2 := by
  refine MetU.of mic_X9_land.1 (Nat.le_of_ble_eq_true rfl) ?_
  refine show U l G EX mi_X9_land 1 21 (some (.int r.1)) r.2 0 [(0, .ref (G.1 + th))] [] h from ?_
  unfold fX9_land at hx
  refine V.aload_n (j := 0) dX9_land_0 rfl rfl rfl ?_
  obtain ⟨v2, q1, hx⟩ := ob_some hx
  refine U.callV (As := []) (rest := []) (st' := [.int v2]) hE.1 (mX9_manyWatchers hE t0 q1) mic_X9_manyWatchers rfl t0 (by decide) rfl rfl wq_m_X9_63 wq_i_yX9_manyWatchers wq_s_yX9_manyWatchers ⟨Nat.le_of_ble_eq_true rfl, Nat.le_of_ble_eq_true rfl⟩ (Nat.le_of_ble_eq_true rfl) dX9_land_1 rfl rfl rfl ?_
  refine V.istore_n [(1, .int v2), (0, .ref (G.1 + th))] dX9_land_4 rfl rfl (Nat.le_of_ble_eq_true rfl) rfl ?_
  refine V.aload_n (j := 1) dX9_land_5 rfl rfl rfl ?_
  refine U.getP fl_X9_7 t0 dX9_land_6 rfl ?_
  obtain ⟨h4, q3, hx⟩ := ob_some hx
  refine U.callS (As := [.ref (G.1 + (PC th 0))]) (rest := []) (st' := []) hE.1 (mX9_begin hE (ty_X9_0 t0) q3) mic_X9_begin rfl wq_m_X9_51 wq_t_yX9_begin ⟨Nat.le_of_ble_eq_true rfl, Nat.le_of_ble_eq_true rfl⟩ (Nat.le_of_ble_eq_true rfl) dX9_land_9 rfl rfl rfl ?_
  refine V.iload_n (j := 0) dX9_land_12 rfl rfl rfl ?_
  obtain rfl := Option.some.inj hx
  exact U.retI rfl rfl rfl rfl dX9_land_13
set_option maxRecDepth 100000 in
set_option maxHeartbeats 4000000 in
theorem mX9_layShow {l : Launch} {G : GG} {EX : State → Prop} (hE : EXB G EX) {a0 : Nat} {a1 : Int32} {a2 : Int32} {a3 : Int32} {h : AH} (t0 : KD a0 = 9) {r : AH} (hx : fX9_layShow a0 a1 a2 a3 h = some r) : MetU l G EX mi_X9_layShow 0 0 [.ref (G.1 + a0), .int a1, .int a2, .int a3] h none r := by
  refine MetU.of mic_X9_layShow.1 (Nat.le_of_ble_eq_true rfl) ?_
  refine show U l G EX mi_X9_layShow 0 0 none r 0 [(0, .ref (G.1 + a0)), (1, .int a1), (2, .int a2), (3, .int a3)] [] h from ?_
  unfold fX9_layShow at hx
  refine V.aload_n (j := 0) dX9_layShow_0 rfl rfl rfl ?_
  refine V.iconst dX9_layShow_1 rfl ki_0 ?_
  refine U.iald hx t0 dX9_layShow_2 rfl (fun hx => ?_)
  refine U.letI hx (fun v1 hx => ?_)
  refine V.istore [(4, .int v1), (0, .ref (G.1 + a0)), (1, .int a1), (2, .int a2), (3, .int a3)] dX9_layShow_3 rfl (Nat.le_of_ble_eq_true rfl) rfl ?_
  refine V.aload_n (j := 1) dX9_layShow_5 rfl rfl rfl ?_
  refine V.bipush dX9_layShow_6 rfl kb_30 ?_
  refine V.iload (j := 0) dX9_layShow_8 rfl rfl ?_
  refine V.iadd dX9_layShow_10 rfl ?_
  refine V.iload_n (j := 2) dX9_layShow_11 rfl rfl rfl ?_
  refine U.iast hx t0 dX9_layShow_12 rfl (fun h2 hx => ?_)
  refine V.aload_n (j := 1) dX9_layShow_13 rfl rfl rfl ?_
  refine V.bipush dX9_layShow_14 rfl kb_14 ?_
  refine V.iload (j := 0) dX9_layShow_16 rfl rfl ?_
  refine V.iadd dX9_layShow_18 rfl ?_
  refine V.iload_n (j := 3) dX9_layShow_19 rfl rfl rfl ?_
  refine U.iast hx t0 dX9_layShow_20 rfl (fun h3 hx => ?_)
  refine V.aload_n (j := 1) dX9_layShow_21 rfl rfl rfl ?_
  refine V.bipush dX9_layShow_22 rfl kb_35 ?_
  refine V.iload (j := 0) dX9_layShow_24 rfl rfl ?_
  refine V.iadd dX9_layShow_26 rfl ?_
  refine V.iload_n (j := 4) dX9_layShow_27 rfl rfl rfl ?_
  refine U.iast hx t0 dX9_layShow_28 rfl (fun h4 hx => ?_)
  refine V.aload_n (j := 1) dX9_layShow_29 rfl rfl rfl ?_
  refine V.bipush dX9_layShow_30 rfl kb_25 ?_
  refine V.iload (j := 0) dX9_layShow_32 rfl rfl ?_
  refine V.iadd dX9_layShow_34 rfl ?_
  refine V.iconst dX9_layShow_35 rfl ki_1 ?_
  refine U.iast hx t0 dX9_layShow_36 rfl (fun h5 hx => ?_)
  refine V.aload_n (j := 1) dX9_layShow_37 rfl rfl rfl ?_
  refine V.iconst dX9_layShow_38 rfl ki_0 ?_
  refine V.dup2 dX9_layShow_39 rfl rfl rfl ?_
  refine U.iald hx t0 dX9_layShow_40 rfl (fun hx => ?_)
  refine V.iconst dX9_layShow_41 rfl ki_1 ?_
  refine V.iadd dX9_layShow_42 rfl ?_
  refine U.iast hx t0 dX9_layShow_43 rfl (fun h6 hx => ?_)
  obtain rfl := Option.some.inj hx
  exact U.ret0 rfl rfl rfl dX9_layShow_44
set_option maxRecDepth 100000 in
set_option maxHeartbeats 4000000 in
theorem vX9_show_31 {l : Launch} {G : GG} {EX : State → Prop} (hE : EXB G EX) {r : Int32 × AH} : ∀ (l0 : Nat) (h : AH) (t0 : KD l0 = 8), fX9_show_31 l0 h = some r → U l G EX mi_X9_show 2 45 (some (.int r.1)) r.2 31 [(0, .ref (G.1 + l0))] [] h := by
  intro l0 h t0 hx
  unfold fX9_show_31 at hx
  refine V.aload_n (j := 0) dX9_show_31 rfl rfl rfl ?_
  refine V.bipush dX9_show_32 rfl kb_m2 ?_
  obtain ⟨v5, h4, q3, hx⟩ := ob2_some hx
  refine U.callV (As := [.int (-2 : Int32)]) (rest := []) (st' := [.int v5]) hE.1 (mX9_bad hE t0 q3) mic_X9_bad rfl t0 (by decide) rfl rfl wq_m_X9_78 wq_i_yX9_bad wq_s_yX9_bad ⟨Nat.le_of_ble_eq_true rfl, Nat.le_of_ble_eq_true rfl⟩ (Nat.le_of_ble_eq_true rfl) dX9_show_34 rfl rfl rfl ?_
  obtain rfl := Option.some.inj hx
  exact U.retI rfl rfl rfl rfl dX9_show_37
set_option maxRecDepth 100000 in
set_option maxHeartbeats 4000000 in
theorem mX9_show {l : Launch} {G : GG} {EX : State → Prop} (hE : EXB G EX) {th : Nat} {a1 : Int32} {a2 : Int32} {a3 : Int32} {h : AH} (t0 : KD th = 8) {r : Int32 × AH} (hx : fX9_show th a1 a2 a3 h = some r) : MetU l G EX mi_X9_show 2 45 [.ref (G.1 + th), .int a1, .int a2, .int a3] h (some (.int r.1)) r.2 := by
  refine MetU.of mic_X9_show.1 (Nat.le_of_ble_eq_true rfl) ?_
  refine show U l G EX mi_X9_show 2 45 (some (.int r.1)) r.2 0 [(0, .ref (G.1 + th)), (1, .int a1), (2, .int a2), (3, .int a3)] [] h from ?_
  unfold fX9_show at hx
  refine V.iload_n (j := 1) dX9_show_0 rfl rfl rfl ?_
  refine V.i2l dX9_show_1 rfl ?_
  refine V.lconst dX9_show_2 rfl kl_0 ?_
  refine V.ldc2_w dX9_show_3 rfl wq_l_X9_72 ?_
  obtain ⟨v2, q1, hx⟩ := ob_some hx
  refine U.callS (As := [.long a1.toInt64, .long (0 : Int64), .long (5 : Int64)]) (rest := []) (st' := [.int v2]) hE.1 (mX9_in hE q1) mic_X9_in rfl wq_m_X9_59 wq_t_yX9_in ⟨Nat.le_of_ble_eq_true rfl, Nat.le_of_ble_eq_true rfl⟩ (Nat.le_of_ble_eq_true rfl) dX9_show_6 rfl rfl rfl ?_
  refine V.if_eq (tgt := 31) hx dX9_show_9 (by decide) rfl (fun hx => ?_) (fun hx => ?_)
  · refine V.pick [0] rfl ?_
    exact vX9_show_31 hE th h t0 hx
  · refine V.iload_n (j := 2) dX9_show_12 rfl rfl rfl ?_
    obtain ⟨v7, q6, hx⟩ := ob_some hx
    refine U.callS (As := [.int a2]) (rest := []) (st' := [.int v7]) hE.1 (mX9_isCell hE q6) mic_X9_isCell rfl wq_m_X9_74 wq_t_yX9_isCell ⟨Nat.le_of_ble_eq_true rfl, Nat.le_of_ble_eq_true rfl⟩ (Nat.le_of_ble_eq_true rfl) dX9_show_13 rfl rfl rfl ?_
    refine V.if_eq (tgt := 31) hx dX9_show_16 (by decide) rfl (fun hx => ?_) (fun hx => ?_)
    · refine V.pick [0] rfl ?_
      exact vX9_show_31 hE th h t0 hx
    · refine V.iload_n (j := 3) dX9_show_19 rfl rfl rfl ?_
      refine V.i2l dX9_show_20 rfl ?_
      refine V.lconst dX9_show_21 rfl kl_1 ?_
      refine V.ldc2_w dX9_show_22 rfl wq_l_X9_70 ?_
      obtain ⟨v9, q8, hx⟩ := ob_some hx
      refine U.callS (As := [.long a3.toInt64, .long (1 : Int64), .long (9 : Int64)]) (rest := []) (st' := [.int v9]) hE.1 (mX9_in hE q8) mic_X9_in rfl wq_m_X9_59 wq_t_yX9_in ⟨Nat.le_of_ble_eq_true rfl, Nat.le_of_ble_eq_true rfl⟩ (Nat.le_of_ble_eq_true rfl) dX9_show_25 rfl rfl rfl ?_
      refine V.if_ne (tgt := 38) hx dX9_show_28 (by decide) rfl (fun hx => ?_) (fun hx => ?_)
      · refine V.aload_n (j := 0) dX9_show_38 rfl rfl rfl ?_
        obtain ⟨v11, q10, hx⟩ := ob_some hx
        refine U.callV (As := []) (rest := []) (st' := [.int v11]) hE.1 (mX9_many hE t0 q10) mic_X9_many rfl t0 (by decide) rfl rfl wq_m_X9_55 wq_i_yX9_many wq_s_yX9_many ⟨Nat.le_of_ble_eq_true rfl, Nat.le_of_ble_eq_true rfl⟩ (Nat.le_of_ble_eq_true rfl) dX9_show_39 rfl rfl rfl ?_
        refine V.iconst dX9_show_42 rfl ki_5 ?_
        refine V.icmp_ne (tgt := 51) hx dX9_show_43 (by decide) rfl (fun hx => ?_) (fun hx => ?_)
        · refine V.aload_n (j := 0) dX9_show_51 rfl rfl rfl ?_
          refine U.getP fl_X9_7 t0 dX9_show_52 rfl ?_
          refine V.iload_n (j := 1) dX9_show_55 rfl rfl rfl ?_
          refine V.iload_n (j := 2) dX9_show_56 rfl rfl rfl ?_
          refine V.iload_n (j := 3) dX9_show_57 rfl rfl rfl ?_
          obtain ⟨h13, q12, hx⟩ := ob_some hx
          refine U.callS (As := [.ref (G.1 + (PC th 0)), .int a1, .int a2, .int a3]) (rest := []) (st' := []) hE.1 (mX9_layShow hE (ty_X9_0 t0) q12) mic_X9_layShow rfl wq_m_X9_85 wq_t_yX9_layShow ⟨Nat.le_of_ble_eq_true rfl, Nat.le_of_ble_eq_true rfl⟩ (Nat.le_of_ble_eq_true rfl) dX9_show_58 rfl rfl rfl ?_
          refine V.aload_n (j := 0) dX9_show_61 rfl rfl rfl ?_
          refine U.getP fl_X9_7 t0 dX9_show_62 rfl ?_
          refine V.iconst dX9_show_65 rfl ki_5 ?_
          refine V.iconst dX9_show_66 rfl ki_0 ?_
          refine U.iast hx (ty_X9_0 t0) dX9_show_67 rfl (fun h14 hx => ?_)
          refine V.aload_n (j := 0) dX9_show_68 rfl rfl rfl ?_
          obtain ⟨v16, q15, hx⟩ := ob_some hx
          refine U.callV (As := []) (rest := []) (st' := [.int v16]) hE.1 (mX9_many hE t0 q15) mic_X9_many rfl t0 (by decide) rfl rfl wq_m_X9_55 wq_i_yX9_many wq_s_yX9_many ⟨Nat.le_of_ble_eq_true rfl, Nat.le_of_ble_eq_true rfl⟩ (Nat.le_of_ble_eq_true rfl) dX9_show_69 rfl rfl rfl ?_
          refine V.iconst dX9_show_72 rfl ki_1 ?_
          refine V.isub dX9_show_73 rfl ?_
          obtain rfl := Option.some.inj hx
          exact U.retI rfl rfl rfl rfl dX9_show_74
        · refine V.aload_n (j := 0) dX9_show_46 rfl rfl rfl ?_
          obtain ⟨v19, h18, q17, hx⟩ := ob2_some hx
          refine U.callV (As := []) (rest := []) (st' := [.int v19]) hE.1 (mX9_full hE t0 q17) mic_X9_full rfl t0 (by decide) rfl rfl wq_m_X9_82 wq_i_yX9_full wq_s_yX9_full ⟨Nat.le_of_ble_eq_true rfl, Nat.le_of_ble_eq_true rfl⟩ (Nat.le_of_ble_eq_true rfl) dX9_show_47 rfl rfl rfl ?_
          obtain rfl := Option.some.inj hx
          exact U.retI rfl rfl rfl rfl dX9_show_50
      · refine V.pick [0] rfl ?_
        exact vX9_show_31 hE th h t0 hx
set_option maxRecDepth 100000 in
set_option maxHeartbeats 4000000 in
theorem mX9_layWatcher {l : Launch} {G : GG} {EX : State → Prop} (hE : EXB G EX) {a0 : Nat} {a1 : Int32} {a2 : Int32} {h : AH} (t0 : KD a0 = 9) {r : AH} (hx : fX9_layWatcher a0 a1 a2 h = some r) : MetU l G EX mi_X9_layWatcher 0 0 [.ref (G.1 + a0), .int a1, .int a2] h none r := by
  refine MetU.of mic_X9_layWatcher.1 (Nat.le_of_ble_eq_true rfl) ?_
  refine show U l G EX mi_X9_layWatcher 0 0 none r 0 [(0, .ref (G.1 + a0)), (1, .int a1), (2, .int a2)] [] h from ?_
  unfold fX9_layWatcher at hx
  refine V.aload_n (j := 0) dX9_layWatcher_0 rfl rfl rfl ?_
  refine V.iconst dX9_layWatcher_1 rfl ki_1 ?_
  refine U.iald hx t0 dX9_layWatcher_2 rfl (fun hx => ?_)
  refine U.letI hx (fun v1 hx => ?_)
  refine V.istore_n [(3, .int v1), (0, .ref (G.1 + a0)), (1, .int a1), (2, .int a2)] dX9_layWatcher_3 rfl rfl (Nat.le_of_ble_eq_true rfl) rfl ?_
  refine V.aload_n (j := 1) dX9_layWatcher_4 rfl rfl rfl ?_
  refine V.bipush dX9_layWatcher_5 rfl kb_40 ?_
  refine V.iload_n (j := 0) dX9_layWatcher_7 rfl rfl rfl ?_
  refine V.iadd dX9_layWatcher_8 rfl ?_
  refine V.iload_n (j := 2) dX9_layWatcher_9 rfl rfl rfl ?_
  refine U.iast hx t0 dX9_layWatcher_10 rfl (fun h2 hx => ?_)
  refine V.aload_n (j := 1) dX9_layWatcher_11 rfl rfl rfl ?_
  refine V.bipush dX9_layWatcher_12 rfl kb_19 ?_
  refine V.iload_n (j := 0) dX9_layWatcher_14 rfl rfl rfl ?_
  refine V.iadd dX9_layWatcher_15 rfl ?_
  refine V.iload_n (j := 3) dX9_layWatcher_16 rfl rfl rfl ?_
  refine U.iast hx t0 dX9_layWatcher_17 rfl (fun h3 hx => ?_)
  refine V.aload_n (j := 1) dX9_layWatcher_18 rfl rfl rfl ?_
  refine V.bipush dX9_layWatcher_19 rfl kb_6 ?_
  refine V.iload_n (j := 0) dX9_layWatcher_21 rfl rfl rfl ?_
  refine V.iadd dX9_layWatcher_22 rfl ?_
  refine V.iconst dX9_layWatcher_23 rfl ki_0 ?_
  refine U.iast hx t0 dX9_layWatcher_24 rfl (fun h4 hx => ?_)
  refine V.aload_n (j := 1) dX9_layWatcher_25 rfl rfl rfl ?_
  refine V.iconst dX9_layWatcher_26 rfl ki_1 ?_
  refine V.dup2 dX9_layWatcher_27 rfl rfl rfl ?_
  refine U.iald hx t0 dX9_layWatcher_28 rfl (fun hx => ?_)
  refine V.iconst dX9_layWatcher_29 rfl ki_1 ?_
  refine V.iadd dX9_layWatcher_30 rfl ?_
  refine U.iast hx t0 dX9_layWatcher_31 rfl (fun h5 hx => ?_)
  obtain rfl := Option.some.inj hx
  exact U.ret0 rfl rfl rfl dX9_layWatcher_32
set_option maxRecDepth 100000 in
set_option maxHeartbeats 4000000 in
theorem vX9_watcher_19 {l : Launch} {G : GG} {EX : State → Prop} (hE : EXB G EX) {r : Int32 × AH} : ∀ (l0 : Nat) (h : AH) (t0 : KD l0 = 8), fX9_watcher_19 l0 h = some r → U l G EX mi_X9_watcher 2 45 (some (.int r.1)) r.2 19 [(0, .ref (G.1 + l0))] [] h := by
  intro l0 h t0 hx
  unfold fX9_watcher_19 at hx
  refine V.aload_n (j := 0) dX9_watcher_19 rfl rfl rfl ?_
  refine V.bipush dX9_watcher_20 rfl kb_m2 ?_
  obtain ⟨v5, h4, q3, hx⟩ := ob2_some hx
  refine U.callV (As := [.int (-2 : Int32)]) (rest := []) (st' := [.int v5]) hE.1 (mX9_bad hE t0 q3) mic_X9_bad rfl t0 (by decide) rfl rfl wq_m_X9_78 wq_i_yX9_bad wq_s_yX9_bad ⟨Nat.le_of_ble_eq_true rfl, Nat.le_of_ble_eq_true rfl⟩ (Nat.le_of_ble_eq_true rfl) dX9_watcher_22 rfl rfl rfl ?_
  obtain rfl := Option.some.inj hx
  exact U.retI rfl rfl rfl rfl dX9_watcher_25
set_option maxRecDepth 100000 in
set_option maxHeartbeats 4000000 in
theorem mX9_watcher {l : Launch} {G : GG} {EX : State → Prop} (hE : EXB G EX) {th : Nat} {a1 : Int32} {a2 : Int32} {h : AH} (t0 : KD th = 8) {r : Int32 × AH} (hx : fX9_watcher th a1 a2 h = some r) : MetU l G EX mi_X9_watcher 2 45 [.ref (G.1 + th), .int a1, .int a2] h (some (.int r.1)) r.2 := by
  refine MetU.of mic_X9_watcher.1 (Nat.le_of_ble_eq_true rfl) ?_
  refine show U l G EX mi_X9_watcher 2 45 (some (.int r.1)) r.2 0 [(0, .ref (G.1 + th)), (1, .int a1), (2, .int a2)] [] h from ?_
  unfold fX9_watcher at hx
  refine V.iload_n (j := 1) dX9_watcher_0 rfl rfl rfl ?_
  refine V.i2l dX9_watcher_1 rfl ?_
  refine V.lconst dX9_watcher_2 rfl kl_0 ?_
  refine V.ldc2_w dX9_watcher_3 rfl wq_l_X9_72 ?_
  obtain ⟨v2, q1, hx⟩ := ob_some hx
  refine U.callS (As := [.long a1.toInt64, .long (0 : Int64), .long (5 : Int64)]) (rest := []) (st' := [.int v2]) hE.1 (mX9_in hE q1) mic_X9_in rfl wq_m_X9_59 wq_t_yX9_in ⟨Nat.le_of_ble_eq_true rfl, Nat.le_of_ble_eq_true rfl⟩ (Nat.le_of_ble_eq_true rfl) dX9_watcher_6 rfl rfl rfl ?_
  refine V.if_eq (tgt := 19) hx dX9_watcher_9 (by decide) rfl (fun hx => ?_) (fun hx => ?_)
  · refine V.pick [0] rfl ?_
    exact vX9_watcher_19 hE th h t0 hx
  · refine V.iload_n (j := 2) dX9_watcher_12 rfl rfl rfl ?_
    obtain ⟨v7, q6, hx⟩ := ob_some hx
    refine U.callS (As := [.int a2]) (rest := []) (st' := [.int v7]) hE.1 (mX9_isCell hE q6) mic_X9_isCell rfl wq_m_X9_74 wq_t_yX9_isCell ⟨Nat.le_of_ble_eq_true rfl, Nat.le_of_ble_eq_true rfl⟩ (Nat.le_of_ble_eq_true rfl) dX9_watcher_13 rfl rfl rfl ?_
    refine V.if_ne (tgt := 26) hx dX9_watcher_16 (by decide) rfl (fun hx => ?_) (fun hx => ?_)
    · refine V.aload_n (j := 0) dX9_watcher_26 rfl rfl rfl ?_
      obtain ⟨v9, q8, hx⟩ := ob_some hx
      refine U.callV (As := []) (rest := []) (st' := [.int v9]) hE.1 (mX9_manyWatchers hE t0 q8) mic_X9_manyWatchers rfl t0 (by decide) rfl rfl wq_m_X9_63 wq_i_yX9_manyWatchers wq_s_yX9_manyWatchers ⟨Nat.le_of_ble_eq_true rfl, Nat.le_of_ble_eq_true rfl⟩ (Nat.le_of_ble_eq_true rfl) dX9_watcher_27 rfl rfl rfl ?_
      refine V.bipush dX9_watcher_30 rfl kb_6 ?_
      refine V.icmp_ne (tgt := 40) hx dX9_watcher_32 (by decide) rfl (fun hx => ?_) (fun hx => ?_)
      · refine V.aload_n (j := 0) dX9_watcher_40 rfl rfl rfl ?_
        refine U.getP fl_X9_7 t0 dX9_watcher_41 rfl ?_
        refine V.iload_n (j := 1) dX9_watcher_44 rfl rfl rfl ?_
        refine V.iload_n (j := 2) dX9_watcher_45 rfl rfl rfl ?_
        obtain ⟨h11, q10, hx⟩ := ob_some hx
        refine U.callS (As := [.ref (G.1 + (PC th 0)), .int a1, .int a2]) (rest := []) (st' := []) hE.1 (mX9_layWatcher hE (ty_X9_0 t0) q10) mic_X9_layWatcher rfl wq_m_X9_89 wq_t_yX9_layWatcher ⟨Nat.le_of_ble_eq_true rfl, Nat.le_of_ble_eq_true rfl⟩ (Nat.le_of_ble_eq_true rfl) dX9_watcher_46 rfl rfl rfl ?_
        refine V.aload_n (j := 0) dX9_watcher_49 rfl rfl rfl ?_
        refine U.getP fl_X9_7 t0 dX9_watcher_50 rfl ?_
        refine V.iconst dX9_watcher_53 rfl ki_5 ?_
        refine V.iconst dX9_watcher_54 rfl ki_0 ?_
        refine U.iast hx (ty_X9_0 t0) dX9_watcher_55 rfl (fun h12 hx => ?_)
        refine V.aload_n (j := 0) dX9_watcher_56 rfl rfl rfl ?_
        obtain ⟨v14, q13, hx⟩ := ob_some hx
        refine U.callV (As := []) (rest := []) (st' := [.int v14]) hE.1 (mX9_manyWatchers hE t0 q13) mic_X9_manyWatchers rfl t0 (by decide) rfl rfl wq_m_X9_63 wq_i_yX9_manyWatchers wq_s_yX9_manyWatchers ⟨Nat.le_of_ble_eq_true rfl, Nat.le_of_ble_eq_true rfl⟩ (Nat.le_of_ble_eq_true rfl) dX9_watcher_57 rfl rfl rfl ?_
        refine V.iconst dX9_watcher_60 rfl ki_1 ?_
        refine V.isub dX9_watcher_61 rfl ?_
        obtain rfl := Option.some.inj hx
        exact U.retI rfl rfl rfl rfl dX9_watcher_62
      · refine V.aload_n (j := 0) dX9_watcher_35 rfl rfl rfl ?_
        obtain ⟨v17, h16, q15, hx⟩ := ob2_some hx
        refine U.callV (As := []) (rest := []) (st' := [.int v17]) hE.1 (mX9_full hE t0 q15) mic_X9_full rfl t0 (by decide) rfl rfl wq_m_X9_82 wq_i_yX9_full wq_s_yX9_full ⟨Nat.le_of_ble_eq_true rfl, Nat.le_of_ble_eq_true rfl⟩ (Nat.le_of_ble_eq_true rfl) dX9_watcher_36 rfl rfl rfl ?_
        obtain rfl := Option.some.inj hx
        exact U.retI rfl rfl rfl rfl dX9_watcher_39
    · refine V.pick [0] rfl ?_
      exact vX9_watcher_19 hE th h t0 hx
set_option maxRecDepth 100000 in
set_option maxHeartbeats 4000000 in
theorem mX9_plainPull {l : Launch} {G : GG} {EX : State → Prop} (hE : EXB G EX) {a0 : Int32} {a1 : Int32} {h : AH} {r : Int32} (hx : fX9_plainPull a0 a1 = some r) : MetU l G EX mi_X9_plainPull 0 0 [.int a0, .int a1] h (some (.int r)) h := by
  refine MetU.of mic_X9_plainPull.1 (Nat.le_of_ble_eq_true rfl) ?_
  refine show U l G EX mi_X9_plainPull 0 0 (some (.int r)) h 0 [(0, .int a0), (1, .int a1)] [] h from ?_
  unfold fX9_plainPull at hx
  refine V.iconst dX9_plainPull_0 rfl ki_2 ?_
  refine V.iload_n (j := 1) dX9_plainPull_1 rfl rfl rfl ?_
  refine V.imul dX9_plainPull_2 rfl ?_
  refine V.iload_n (j := 0) dX9_plainPull_3 rfl rfl rfl ?_
  refine V.icmp_le (tgt := 15) hx dX9_plainPull_4 (by decide) rfl (fun hx => ?_) (fun hx => ?_)
  · refine V.iconst dX9_plainPull_15 rfl ki_0 ?_
    obtain rfl := Option.some.inj hx
    exact U.retI rfl rfl rfl rfl dX9_plainPull_16
  · refine V.iconst dX9_plainPull_7 rfl ki_2 ?_
    refine V.iload_n (j := 1) dX9_plainPull_8 rfl rfl rfl ?_
    refine V.imul dX9_plainPull_9 rfl ?_
    refine V.iload_n (j := 0) dX9_plainPull_10 rfl rfl rfl ?_
    refine V.isub dX9_plainPull_11 rfl ?_
    refine V.goto (q := 16) dX9_plainPull_12 (by decide) ?_
    obtain rfl := Option.some.inj hx
    exact U.retI rfl rfl rfl rfl dX9_plainPull_16
set_option maxRecDepth 100000 in
set_option maxHeartbeats 4000000 in
theorem vX9_firePull_17 {l : Launch} {G : GG} {EX : State → Prop} (hE : EXB G EX) {h : AH} {r : Int32} : ∀ (s0 : Int32) (s1 : Int32) (s2 : Int32), fX9_firePull_17 s0 s1 s2 = some r → U l G EX mi_X9_firePull 1 21 (some (.int r)) h 17 [] [.int s2, .int s1, .int s0] h := by
  intro s0 s1 s2 hx
  unfold fX9_firePull_17 at hx
  refine V.iadd dX9_firePull_17 rfl ?_
  refine V.imul dX9_firePull_18 rfl ?_
  refine U.letI hx (fun v3 hx => ?_)
  refine V.istore_n [(3, .int v3)] dX9_firePull_19 rfl rfl (Nat.le_of_ble_eq_true rfl) rfl ?_
  refine V.iload_n (j := 0) dX9_firePull_20 rfl rfl rfl ?_
  refine V.bipush dX9_firePull_21 rfl kb_30 ?_
  refine V.icmp_le (tgt := 31) hx dX9_firePull_23 (by decide) rfl (fun hx => ?_) (fun hx => ?_)
  · refine V.iload_n (j := 0) dX9_firePull_31 rfl rfl rfl ?_
    obtain rfl := Option.some.inj hx
    exact U.retI rfl rfl rfl rfl dX9_firePull_32
  · refine V.bipush dX9_firePull_26 rfl kb_30 ?_
    refine V.goto (q := 32) dX9_firePull_28 (by decide) ?_
    obtain rfl := Option.some.inj hx
    exact U.retI rfl rfl rfl rfl dX9_firePull_32
set_option maxRecDepth 100000 in
set_option maxHeartbeats 4000000 in
theorem mX9_firePull {l : Launch} {G : GG} {EX : State → Prop} (hE : EXB G EX) {a0 : Int32} {a1 : Int32} {a2 : Int32} {h : AH} {r : Int32} (hx : fX9_firePull a0 a1 a2 = some r) : MetU l G EX mi_X9_firePull 1 21 [.int a0, .int a1, .int a2] h (some (.int r)) h := by
  refine MetU.of mic_X9_firePull.1 (Nat.le_of_ble_eq_true rfl) ?_
  refine show U l G EX mi_X9_firePull 1 21 (some (.int r)) h 0 [(0, .int a0), (1, .int a1), (2, .int a2)] [] h from ?_
  unfold fX9_firePull at hx
  refine V.iconst dX9_firePull_0 rfl ki_2 ?_
  refine V.iload_n (j := 0) dX9_firePull_1 rfl rfl rfl ?_
  refine V.iload_n (j := 2) dX9_firePull_2 rfl rfl rfl ?_
  obtain ⟨v2, q1, hx⟩ := ob_some hx
  refine U.callS (As := [.int a0, .int a2]) (rest := [.int (2 : Int32)]) (st' := [.int v2, .int (2 : Int32)]) hE.1 (mX9_plainPull hE q1) mic_X9_plainPull rfl wq_m_X9_93 wq_t_yX9_plainPull ⟨Nat.le_of_ble_eq_true rfl, Nat.le_of_ble_eq_true rfl⟩ (Nat.le_of_ble_eq_true rfl) dX9_firePull_3 rfl rfl rfl ?_
  refine V.iload_n (j := 1) dX9_firePull_6 rfl rfl rfl ?_
  refine V.iconst dX9_firePull_7 rfl ki_2 ?_
  refine V.irem dX9_firePull_8 rfl (by decide) ?_
  refine V.if_ne (tgt := 16) hx dX9_firePull_9 (by decide) rfl (fun hx => ?_) (fun hx => ?_)
  · refine V.iconst dX9_firePull_16 rfl ki_0 ?_
    refine V.pick [] rfl ?_
    exact vX9_firePull_17 hE (2 : Int32) v2 (0 : Int32) hx
  · refine V.iconst dX9_firePull_12 rfl ki_3 ?_
    refine V.goto (q := 17) dX9_firePull_13 (by decide) ?_
    refine V.pick [] rfl ?_
    exact vX9_firePull_17 hE (2 : Int32) v2 (3 : Int32) hx
set_option maxRecDepth 100000 in
set_option maxHeartbeats 4000000 in
theorem vX9_pullAs_18 {l : Launch} {G : GG} {EX : State → Prop} (hE : EXB G EX) {h : AH} {r : Int32} : ∀ (l0 : Int32) (l1 : Int32) (l2 : Int32) (l3 : Int32) (l4 : Int32) (s0 : Int32), fX9_pullAs_18 l0 l1 l2 l3 l4 s0 = some r → U l G EX mi_X9_pullAs 2 44 (some (.int r)) h 18 [(0, .int l0), (1, .int l1), (2, .int l2), (3, .int l3), (4, .int l4)] [.int s0] h := by
  intro l0 l1 l2 l3 l4 s0 hx
  unfold fX9_pullAs_18 at hx
  refine V.istore [(5, .int s0), (0, .int l0), (1, .int l1), (2, .int l2), (3, .int l3), (4, .int l4)] dX9_pullAs_18 rfl (Nat.le_of_ble_eq_true rfl) rfl ?_
  refine V.iload_n (j := 1) dX9_pullAs_20 rfl rfl rfl ?_
  refine sw_case (ci := 1) hx (by decide) (fun c2 hx => ?_) (fun c2 hx => ?_)
  · refine V.tableIn (tgt := 56) dX9_pullAs_21 (by rw [c2]; decide) (by rw [c2]; decide) (by rw [c2]; rfl) (by decide) ?_
    refine V.iload_n (j := 3) dX9_pullAs_56 rfl rfl rfl ?_
    refine V.iconst dX9_pullAs_57 rfl ki_2 ?_
    refine V.irem dX9_pullAs_58 rfl (by decide) ?_
    refine V.if_ne (tgt := 69) hx dX9_pullAs_59 (by decide) rfl (fun hx => ?_) (fun hx => ?_)
    · refine V.iload (j := 5) dX9_pullAs_69 rfl rfl ?_
      obtain rfl := Option.some.inj hx
      exact U.retI rfl rfl rfl rfl dX9_pullAs_71
    · refine V.iload (j := 5) dX9_pullAs_62 rfl rfl ?_
      refine V.iconst dX9_pullAs_64 rfl ki_3 ?_
      refine V.iadd dX9_pullAs_65 rfl ?_
      refine V.goto (q := 71) dX9_pullAs_66 (by decide) ?_
      obtain rfl := Option.some.inj hx
      exact U.retI rfl rfl rfl rfl dX9_pullAs_71
  refine sw_case (ci := 2) hx (by decide) (fun c3 hx => ?_) (fun c3 hx => ?_)
  · refine V.tableIn (tgt := 72) dX9_pullAs_21 (by rw [c3]; decide) (by rw [c3]; decide) (by rw [c3]; rfl) (by decide) ?_
    refine V.iload (j := 0) dX9_pullAs_72 rfl rfl ?_
    obtain rfl := Option.some.inj hx
    exact U.retI rfl rfl rfl rfl dX9_pullAs_74
  refine sw_case (ci := 3) hx (by decide) (fun c6 hx => ?_) (fun c6 hx => ?_)
  · refine V.tableIn (tgt := 75) dX9_pullAs_21 (by rw [c6]; decide) (by rw [c6]; decide) (by rw [c6]; rfl) (by decide) ?_
    refine V.iload_n (j := 2) dX9_pullAs_75 rfl rfl rfl ?_
    refine V.iload_n (j := 3) dX9_pullAs_76 rfl rfl rfl ?_
    refine V.iload_n (j := 4) dX9_pullAs_77 rfl rfl rfl ?_
    obtain ⟨v6, q5, hx⟩ := ob_some hx
    refine U.callS (As := [.int l1, .int l2, .int l3]) (rest := []) (st' := [.int v6]) hE.1 (mX9_firePull hE q5) mic_X9_firePull rfl wq_m_X9_97 wq_t_yX9_firePull ⟨Nat.le_of_ble_eq_true rfl, Nat.le_of_ble_eq_true rfl⟩ (Nat.le_of_ble_eq_true rfl) dX9_pullAs_78 rfl rfl rfl ?_
    obtain rfl := Option.some.inj hx
    exact U.retI rfl rfl rfl rfl dX9_pullAs_81
  refine sw_case (ci := 4) hx (by decide) (fun c9 hx => ?_) (fun c9 hx => ?_)
  · refine V.tableIn (tgt := 82) dX9_pullAs_21 (by rw [c9]; decide) (by rw [c9]; decide) (by rw [c9]; rfl) (by decide) ?_
    refine V.iload_n (j := 3) dX9_pullAs_82 rfl rfl rfl ?_
    refine V.bipush dX9_pullAs_83 rfl kb_6 ?_
    refine V.icmp_lt (tgt := 97) hx dX9_pullAs_85 (by decide) rfl (fun hx => ?_) (fun hx => ?_)
    · refine V.iconst dX9_pullAs_97 rfl ki_0 ?_
      obtain rfl := Option.some.inj hx
      exact U.retI rfl rfl rfl rfl dX9_pullAs_98
    · refine V.iload_n (j := 2) dX9_pullAs_88 rfl rfl rfl ?_
      refine V.iload_n (j := 3) dX9_pullAs_89 rfl rfl rfl ?_
      refine V.iload_n (j := 4) dX9_pullAs_90 rfl rfl rfl ?_
      obtain ⟨v9, q8, hx⟩ := ob_some hx
      refine U.callS (As := [.int l1, .int l2, .int l3]) (rest := []) (st' := [.int v9]) hE.1 (mX9_firePull hE q8) mic_X9_firePull rfl wq_m_X9_97 wq_t_yX9_firePull ⟨Nat.le_of_ble_eq_true rfl, Nat.le_of_ble_eq_true rfl⟩ (Nat.le_of_ble_eq_true rfl) dX9_pullAs_91 rfl rfl rfl ?_
      refine V.goto (q := 98) dX9_pullAs_94 (by decide) ?_
      obtain rfl := Option.some.inj hx
      exact U.retI rfl rfl rfl rfl dX9_pullAs_98
  refine sw_case (ci := 5) hx (by decide) (fun c10 hx => ?_) (fun c10 hx => ?_)
  · refine V.tableIn (tgt := 99) dX9_pullAs_21 (by rw [c10]; decide) (by rw [c10]; decide) (by rw [c10]; rfl) (by decide) ?_
    refine V.iload (j := 0) dX9_pullAs_99 rfl rfl ?_
    refine V.iconst dX9_pullAs_101 rfl ki_1 ?_
    refine V.icmp_lt (tgt := 112) hx dX9_pullAs_102 (by decide) rfl (fun hx => ?_) (fun hx => ?_)
    · refine V.iload (j := 0) dX9_pullAs_112 rfl rfl ?_
      obtain rfl := Option.some.inj hx
      exact U.retI rfl rfl rfl rfl dX9_pullAs_114
    · refine V.iload (j := 0) dX9_pullAs_105 rfl rfl ?_
      refine V.iconst dX9_pullAs_107 rfl ki_1 ?_
      refine V.iadd dX9_pullAs_108 rfl ?_
      refine V.goto (q := 114) dX9_pullAs_109 (by decide) ?_
      obtain rfl := Option.some.inj hx
      exact U.retI rfl rfl rfl rfl dX9_pullAs_114
  refine V.tableOut (tgt := 115) dX9_pullAs_21 (by omega) (by decide) ?_
  refine V.iload (j := 5) dX9_pullAs_115 rfl rfl ?_
  obtain rfl := Option.some.inj hx
  exact U.retI rfl rfl rfl rfl dX9_pullAs_117
set_option maxRecDepth 100000 in
set_option maxHeartbeats 4000000 in
theorem mX9_pullAs {l : Launch} {G : GG} {EX : State → Prop} (hE : EXB G EX) {a0 : Int32} {a1 : Int32} {a2 : Int32} {a3 : Int32} {h : AH} {r : Int32} (hx : fX9_pullAs a0 a1 a2 a3 = some r) : MetU l G EX mi_X9_pullAs 2 44 [.int a0, .int a1, .int a2, .int a3] h (some (.int r)) h := by
  refine MetU.of mic_X9_pullAs.1 (Nat.le_of_ble_eq_true rfl) ?_
  refine show U l G EX mi_X9_pullAs 2 44 (some (.int r)) h 0 [(0, .int a0), (1, .int a1), (2, .int a2), (3, .int a3)] [] h from ?_
  unfold fX9_pullAs at hx
  refine V.iload_n (j := 1) dX9_pullAs_0 rfl rfl rfl ?_
  refine V.iload_n (j := 3) dX9_pullAs_1 rfl rfl rfl ?_
  obtain ⟨v2, q1, hx⟩ := ob_some hx
  refine U.callS (As := [.int a1, .int a3]) (rest := []) (st' := [.int v2]) hE.1 (mX9_plainPull hE q1) mic_X9_plainPull rfl wq_m_X9_93 wq_t_yX9_plainPull ⟨Nat.le_of_ble_eq_true rfl, Nat.le_of_ble_eq_true rfl⟩ (Nat.le_of_ble_eq_true rfl) dX9_pullAs_2 rfl rfl rfl ?_
  refine V.istore [(4, .int v2), (0, .int a0), (1, .int a1), (2, .int a2), (3, .int a3)] dX9_pullAs_5 rfl (Nat.le_of_ble_eq_true rfl) rfl ?_
  refine V.iload_n (j := 2) dX9_pullAs_7 rfl rfl rfl ?_
  refine V.iconst dX9_pullAs_8 rfl ki_5 ?_
  refine V.icmp_le (tgt := 16) hx dX9_pullAs_9 (by decide) rfl (fun hx => ?_) (fun hx => ?_)
  · refine V.iload (j := 0) dX9_pullAs_16 rfl rfl ?_
    refine V.pick [1, 2, 3, 4, 0] rfl ?_
    exact vX9_pullAs_18 hE a0 a1 a2 a3 v2 v2 hx
  · refine V.iconst dX9_pullAs_12 rfl ki_0 ?_
    refine V.goto (q := 18) dX9_pullAs_13 (by decide) ?_
    refine V.pick [1, 2, 3, 4, 0] rfl ?_
    exact vX9_pullAs_18 hE a0 a1 a2 a3 v2 (0 : Int32) hx
set_option maxRecDepth 100000 in
set_option maxHeartbeats 4000000 in
theorem vX9_notesAs_16 {l : Launch} {G : GG} {EX : State → Prop} (hE : EXB G EX) {h : AH} {r : Int32} : ∀ (l0 : Int32) (s0 : Int32), fX9_notesAs_16 l0 s0 = some r → U l G EX mi_X9_notesAs 0 0 (some (.int r)) h 16 [(0, .int l0)] [.int s0] h := by
  intro l0 s0 hx
  unfold fX9_notesAs_16 at hx
  refine V.istore_n [(2, .int s0), (0, .int l0)] dX9_notesAs_16 rfl rfl (Nat.le_of_ble_eq_true rfl) rfl ?_
  refine V.iload_n (j := 1) dX9_notesAs_17 rfl rfl rfl ?_
  refine V.iconst dX9_notesAs_18 rfl ki_3 ?_
  refine V.icmp_ne (tgt := 28) hx dX9_notesAs_19 (by decide) rfl (fun hx => ?_) (fun hx => ?_)
  · refine V.iload_n (j := 1) dX9_notesAs_28 rfl rfl rfl ?_
    refine V.iconst dX9_notesAs_29 rfl ki_5 ?_
    refine V.icmp_ne (tgt := 41) hx dX9_notesAs_30 (by decide) rfl (fun hx => ?_) (fun hx => ?_)
    · refine V.iload_n (j := 0) dX9_notesAs_41 rfl rfl rfl ?_
      obtain rfl := Option.some.inj hx
      exact U.retI rfl rfl rfl rfl dX9_notesAs_42
    · refine V.iload_n (j := 0) dX9_notesAs_33 rfl rfl rfl ?_
      refine V.iconst dX9_notesAs_34 rfl ki_1 ?_
      refine V.iadd dX9_notesAs_35 rfl ?_
      refine V.iconst dX9_notesAs_36 rfl ki_2 ?_
      refine V.idiv dX9_notesAs_37 rfl (by decide) ?_
      refine V.goto (q := 42) dX9_notesAs_38 (by decide) ?_
      obtain rfl := Option.some.inj hx
      exact U.retI rfl rfl rfl rfl dX9_notesAs_42
  · refine V.iload_n (j := 0) dX9_notesAs_22 rfl rfl rfl ?_
    refine V.iconst dX9_notesAs_23 rfl ki_4 ?_
    refine V.iadd dX9_notesAs_24 rfl ?_
    refine V.goto (q := 42) dX9_notesAs_25 (by decide) ?_
    obtain rfl := Option.some.inj hx
    exact U.retI rfl rfl rfl rfl dX9_notesAs_42
set_option maxRecDepth 100000 in
set_option maxHeartbeats 4000000 in
theorem mX9_notesAs {l : Launch} {G : GG} {EX : State → Prop} (hE : EXB G EX) {a0 : Int32} {a1 : Int32} {h : AH} {r : Int32} (hx : fX9_notesAs a0 a1 = some r) : MetU l G EX mi_X9_notesAs 0 0 [.int a0, .int a1] h (some (.int r)) h := by
  refine MetU.of mic_X9_notesAs.1 (Nat.le_of_ble_eq_true rfl) ?_
  refine show U l G EX mi_X9_notesAs 0 0 (some (.int r)) h 0 [(0, .int a0), (1, .int a1)] [] h from ?_
  unfold fX9_notesAs at hx
  refine V.iload_n (j := 1) dX9_notesAs_0 rfl rfl rfl ?_
  refine V.bipush dX9_notesAs_1 rfl kb_6 ?_
  refine V.icmp_ge (tgt := 15) hx dX9_notesAs_3 (by decide) rfl (fun hx => ?_) (fun hx => ?_)
  · refine V.iconst dX9_notesAs_15 rfl ki_0 ?_
    refine V.pick [0] rfl ?_
    exact vX9_notesAs_16 hE a0 (0 : Int32) hx
  · refine V.bipush dX9_notesAs_6 rfl kb_12 ?_
    refine V.iconst dX9_notesAs_8 rfl ki_2 ?_
    refine V.iload_n (j := 1) dX9_notesAs_9 rfl rfl rfl ?_
    refine V.imul dX9_notesAs_10 rfl ?_
    refine V.isub dX9_notesAs_11 rfl ?_
    refine V.goto (q := 16) dX9_notesAs_12 (by decide) ?_
    refine V.pick [0] rfl ?_
    exact vX9_notesAs_16 hE a0 ((12 : Int32) - ((2 : Int32) * a1)) hx
set_option maxRecDepth 100000 in
set_option maxHeartbeats 4000000 in
theorem mX9_drawnAs {l : Launch} {G : GG} {EX : State → Prop} (hE : EXB G EX) {a0 : Int32} {a1 : Int32} {h : AH} {r : Int32} (hx : fX9_drawnAs a0 a1 = some r) : MetU l G EX mi_X9_drawnAs 0 0 [.int a0, .int a1] h (some (.int r)) h := by
  refine MetU.of mic_X9_drawnAs.1 (Nat.le_of_ble_eq_true rfl) ?_
  refine show U l G EX mi_X9_drawnAs 0 0 (some (.int r)) h 0 [(0, .int a0), (1, .int a1)] [] h from ?_
  unfold fX9_drawnAs at hx
  refine V.iconst dX9_drawnAs_0 rfl ki_2 ?_
  refine V.iload_n (j := 1) dX9_drawnAs_1 rfl rfl rfl ?_
  refine V.imul dX9_drawnAs_2 rfl ?_
  refine V.iconst dX9_drawnAs_3 rfl ki_2 ?_
  refine V.iadd dX9_drawnAs_4 rfl ?_
  refine U.letI hx (fun v1 hx => ?_)
  refine V.istore_n [(2, .int v1), (0, .int a0), (1, .int a1)] dX9_drawnAs_5 rfl rfl (Nat.le_of_ble_eq_true rfl) rfl ?_
  refine V.iload_n (j := 1) dX9_drawnAs_6 rfl rfl rfl ?_
  refine sw_case (ci := 1) hx (by decide) (fun c1 hx => ?_) (fun c1 hx => ?_)
  · refine V.tableIn (tgt := 40) dX9_drawnAs_7 (by rw [c1]; decide) (by rw [c1]; decide) (by rw [c1]; rfl) (by decide) ?_
    refine V.iconst dX9_drawnAs_40 rfl ki_2 ?_
    refine V.iload_n (j := 2) dX9_drawnAs_41 rfl rfl rfl ?_
    refine V.imul dX9_drawnAs_42 rfl ?_
    obtain rfl := Option.some.inj hx
    exact U.retI rfl rfl rfl rfl dX9_drawnAs_43
  refine sw_case (ci := 2) hx (by decide) (fun c2 hx => ?_) (fun c2 hx => ?_)
  · refine V.tableIn (tgt := 44) dX9_drawnAs_7 (by rw [c2]; decide) (by rw [c2]; decide) (by rw [c2]; rfl) (by decide) ?_
    refine V.iconst dX9_drawnAs_44 rfl ki_0 ?_
    obtain rfl := Option.some.inj hx
    exact U.retI rfl rfl rfl rfl dX9_drawnAs_45
  refine sw_case (ci := 3) hx (by decide) (fun c3 hx => ?_) (fun c3 hx => ?_)
  · refine V.tableIn (tgt := 52) dX9_drawnAs_7 (by rw [c3]; decide) (by rw [c3]; decide) (by rw [c3]; rfl) (by decide) ?_
    refine V.iload_n (j := 2) dX9_drawnAs_52 rfl rfl rfl ?_
    obtain rfl := Option.some.inj hx
    exact U.retI rfl rfl rfl rfl dX9_drawnAs_53
  refine sw_case (ci := 4) hx (by decide) (fun c4 hx => ?_) (fun c4 hx => ?_)
  · refine V.tableIn (tgt := 46) dX9_drawnAs_7 (by rw [c4]; decide) (by rw [c4]; decide) (by rw [c4]; rfl) (by decide) ?_
    refine V.iload_n (j := 0) dX9_drawnAs_46 rfl rfl rfl ?_
    obtain rfl := Option.some.inj hx
    exact U.retI rfl rfl rfl rfl dX9_drawnAs_47
  refine sw_case (ci := 5) hx (by decide) (fun c5 hx => ?_) (fun c5 hx => ?_)
  · refine V.tableIn (tgt := 48) dX9_drawnAs_7 (by rw [c5]; decide) (by rw [c5]; decide) (by rw [c5]; rfl) (by decide) ?_
    refine V.iload_n (j := 0) dX9_drawnAs_48 rfl rfl rfl ?_
    refine V.iconst dX9_drawnAs_49 rfl ki_2 ?_
    refine V.idiv dX9_drawnAs_50 rfl (by decide) ?_
    obtain rfl := Option.some.inj hx
    exact U.retI rfl rfl rfl rfl dX9_drawnAs_51
  refine V.tableOut (tgt := 52) dX9_drawnAs_7 (by omega) (by decide) ?_
  refine V.iload_n (j := 2) dX9_drawnAs_52 rfl rfl rfl ?_
  obtain rfl := Option.some.inj hx
  exact U.retI rfl rfl rfl rfl dX9_drawnAs_53
set_option maxRecDepth 100000 in
set_option maxHeartbeats 4000000 in
theorem mX9_seesAs {l : Launch} {G : GG} {EX : State → Prop} (hE : EXB G EX) {a0 : Int32} {a1 : Int32} {a2 : Int32} {h : AH} {r : Int32} (hx : fX9_seesAs a0 a1 a2 = some r) : MetU l G EX mi_X9_seesAs 1 22 [.int a0, .int a1, .int a2] h (some (.int r)) h := by
  refine MetU.of mic_X9_seesAs.1 (Nat.le_of_ble_eq_true rfl) ?_
  refine show U l G EX mi_X9_seesAs 1 22 (some (.int r)) h 0 [(0, .int a0), (1, .int a1), (2, .int a2)] [] h from ?_
  unfold fX9_seesAs at hx
  refine V.iload_n (j := 0) dX9_seesAs_0 rfl rfl rfl ?_
  refine V.iload_n (j := 1) dX9_seesAs_1 rfl rfl rfl ?_
  obtain ⟨v2, q1, hx⟩ := ob_some hx
  refine U.callS (As := [.int a0, .int a1]) (rest := []) (st' := [.int v2]) hE.1 (mX9_notesAs hE q1) mic_X9_notesAs rfl wq_m_X9_101 wq_t_yX9_notesAs ⟨Nat.le_of_ble_eq_true rfl, Nat.le_of_ble_eq_true rfl⟩ (Nat.le_of_ble_eq_true rfl) dX9_seesAs_2 rfl rfl rfl ?_
  refine V.iload_n (j := 0) dX9_seesAs_5 rfl rfl rfl ?_
  refine V.iload_n (j := 2) dX9_seesAs_6 rfl rfl rfl ?_
  obtain ⟨v4, q3, hx⟩ := ob_some hx
  refine U.callS (As := [.int a0, .int a2]) (rest := [.int v2]) (st' := [.int v4, .int v2]) hE.1 (mX9_drawnAs hE q3) mic_X9_drawnAs rfl wq_m_X9_104 wq_t_yX9_drawnAs ⟨Nat.le_of_ble_eq_true rfl, Nat.le_of_ble_eq_true rfl⟩ (Nat.le_of_ble_eq_true rfl) dX9_seesAs_7 rfl rfl rfl ?_
  refine V.icmp_le (tgt := 17) hx dX9_seesAs_10 (by decide) rfl (fun hx => ?_) (fun hx => ?_)
  · refine V.iconst dX9_seesAs_17 rfl ki_0 ?_
    obtain rfl := Option.some.inj hx
    exact U.retI rfl rfl rfl rfl dX9_seesAs_18
  · refine V.iconst dX9_seesAs_13 rfl ki_1 ?_
    refine V.goto (q := 18) dX9_seesAs_14 (by decide) ?_
    obtain rfl := Option.some.inj hx
    exact U.retI rfl rfl rfl rfl dX9_seesAs_18
set_option maxRecDepth 100000 in
set_option maxHeartbeats 4000000 in
theorem vX9_distance_40 {l : Launch} {G : GG} {EX : State → Prop} (hE : EXB G EX) {h : AH} {r : Int32} : ∀ (s0 : Int32) (s1 : Int32), fX9_distance_40 s0 s1 = some r → U l G EX mi_X9_distance 0 0 (some (.int r)) h 40 [] [.int s1, .int s0] h := by
  intro s0 s1 hx
  unfold fX9_distance_40 at hx
  refine V.iadd dX9_distance_40 rfl ?_
  obtain rfl := Option.some.inj hx
  exact U.retI rfl rfl rfl rfl dX9_distance_41
set_option maxRecDepth 100000 in
set_option maxHeartbeats 4000000 in
theorem vX9_distance_30 {l : Launch} {G : GG} {EX : State → Prop} (hE : EXB G EX) {h : AH} {r : Int32} : ∀ (l3 : Int32) (s0 : Int32), fX9_distance_30 l3 s0 = some r → U l G EX mi_X9_distance 0 0 (some (.int r)) h 30 [(3, .int l3)] [.int s0] h := by
  intro l3 s0 hx
  unfold fX9_distance_30 at hx
  refine V.iload_n (j := 0) dX9_distance_30 rfl rfl rfl ?_
  refine V.if_ge (tgt := 39) hx dX9_distance_31 (by decide) rfl (fun hx => ?_) (fun hx => ?_)
  · refine V.iload_n (j := 0) dX9_distance_39 rfl rfl rfl ?_
    refine V.pick [] rfl ?_
    exact vX9_distance_40 hE s0 l3 hx
  · refine V.iload_n (j := 0) dX9_distance_34 rfl rfl rfl ?_
    refine V.ineg dX9_distance_35 rfl ?_
    refine V.goto (q := 40) dX9_distance_36 (by decide) ?_
    refine V.pick [] rfl ?_
    exact vX9_distance_40 hE s0 (-l3) hx
set_option maxRecDepth 100000 in
set_option maxHeartbeats 4000000 in
theorem mX9_distance {l : Launch} {G : GG} {EX : State → Prop} (hE : EXB G EX) {a0 : Int32} {a1 : Int32} {h : AH} {r : Int32} (hx : fX9_distance a0 a1 = some r) : MetU l G EX mi_X9_distance 0 0 [.int a0, .int a1] h (some (.int r)) h := by
  refine MetU.of mic_X9_distance.1 (Nat.le_of_ble_eq_true rfl) ?_
  refine show U l G EX mi_X9_distance 0 0 (some (.int r)) h 0 [(0, .int a0), (1, .int a1)] [] h from ?_
  unfold fX9_distance at hx
  refine V.iload_n (j := 0) dX9_distance_0 rfl rfl rfl ?_
  refine V.bipush dX9_distance_1 rfl kb_6 ?_
  refine V.idiv dX9_distance_3 rfl (by decide) ?_
  refine V.iload_n (j := 1) dX9_distance_4 rfl rfl rfl ?_
  refine V.bipush dX9_distance_5 rfl kb_6 ?_
  refine V.idiv dX9_distance_7 rfl (by decide) ?_
  refine V.isub dX9_distance_8 rfl ?_
  refine U.letI hx (fun v1 hx => ?_)
  refine V.istore_n [(2, .int v1), (0, .int a0), (1, .int a1)] dX9_distance_9 rfl rfl (Nat.le_of_ble_eq_true rfl) rfl ?_
  refine V.iload_n (j := 1) dX9_distance_10 rfl rfl rfl ?_
  refine V.bipush dX9_distance_11 rfl kb_6 ?_
  refine V.irem dX9_distance_13 rfl (by decide) ?_
  refine V.iload_n (j := 2) dX9_distance_14 rfl rfl rfl ?_
  refine V.bipush dX9_distance_15 rfl kb_6 ?_
  refine V.irem dX9_distance_17 rfl (by decide) ?_
  refine V.isub dX9_distance_18 rfl ?_
  refine U.letI hx (fun v2 hx => ?_)
  refine V.istore_n [(3, .int v2), (2, .int v1), (0, .int a0), (1, .int a1)] dX9_distance_19 rfl rfl (Nat.le_of_ble_eq_true rfl) rfl ?_
  refine V.iload_n (j := 1) dX9_distance_20 rfl rfl rfl ?_
  refine V.if_ge (tgt := 29) hx dX9_distance_21 (by decide) rfl (fun hx => ?_) (fun hx => ?_)
  · refine V.iload_n (j := 1) dX9_distance_29 rfl rfl rfl ?_
    refine V.pick [0] rfl ?_
    exact vX9_distance_30 hE v2 v1 hx
  · refine V.iload_n (j := 1) dX9_distance_24 rfl rfl rfl ?_
    refine V.ineg dX9_distance_25 rfl ?_
    refine V.goto (q := 30) dX9_distance_26 (by decide) ?_
    refine V.pick [0] rfl ?_
    exact vX9_distance_30 hE v2 (-v1) hx
set_option maxRecDepth 100000 in
set_option maxHeartbeats 4000000 in
theorem mX9_pullAt {l : Launch} {G : GG} {EX : State → Prop} (hE : EXB G EX) {a0 : Nat} {a1 : Int32} {a2 : Int32} {a3 : Int32} {h : AH} (t0 : KD a0 = 9) {r : Int32} (hx : fX9_pullAt a0 a1 a2 a3 h = some r) : MetU l G EX mi_X9_pullAt 3 69 [.ref (G.1 + a0), .int a1, .int a2, .int a3] h (some (.int r)) h := by
  refine MetU.of mic_X9_pullAt.1 (Nat.le_of_ble_eq_true rfl) ?_
  refine show U l G EX mi_X9_pullAt 3 69 (some (.int r)) h 0 [(0, .ref (G.1 + a0)), (1, .int a1), (2, .int a2), (3, .int a3)] [] h from ?_
  unfold fX9_pullAt at hx
  refine V.aload_n (j := 0) dX9_pullAt_0 rfl rfl rfl ?_
  refine V.bipush dX9_pullAt_1 rfl kb_30 ?_
  refine V.iload_n (j := 1) dX9_pullAt_3 rfl rfl rfl ?_
  refine V.iadd dX9_pullAt_4 rfl ?_
  refine U.iald hx t0 dX9_pullAt_5 rfl (fun hx => ?_)
  refine V.aload_n (j := 0) dX9_pullAt_6 rfl rfl rfl ?_
  refine V.bipush dX9_pullAt_7 rfl kb_14 ?_
  refine V.iload_n (j := 1) dX9_pullAt_9 rfl rfl rfl ?_
  refine V.iadd dX9_pullAt_10 rfl ?_
  refine U.iald hx t0 dX9_pullAt_11 rfl (fun hx => ?_)
  refine V.iload_n (j := 2) dX9_pullAt_12 rfl rfl rfl ?_
  obtain ⟨v2, q1, hx⟩ := ob_some hx
  refine U.callS (As := [.int (hI h a0 (ix ((14 : Int32) + a1))), .int a2]) (rest := [.int (hI h a0 (ix ((30 : Int32) + a1)))]) (st' := [.int v2, .int (hI h a0 (ix ((30 : Int32) + a1)))]) hE.1 (mX9_distance hE q1) mic_X9_distance rfl wq_m_X9_107 wq_t_yX9_distance ⟨Nat.le_of_ble_eq_true rfl, Nat.le_of_ble_eq_true rfl⟩ (Nat.le_of_ble_eq_true rfl) dX9_pullAt_13 rfl rfl rfl ?_
  refine V.iload_n (j := 3) dX9_pullAt_16 rfl rfl rfl ?_
  refine V.aload_n (j := 0) dX9_pullAt_17 rfl rfl rfl ?_
  refine V.bipush dX9_pullAt_18 rfl kb_35 ?_
  refine V.iload_n (j := 1) dX9_pullAt_20 rfl rfl rfl ?_
  refine V.iadd dX9_pullAt_21 rfl ?_
  refine U.iald hx t0 dX9_pullAt_22 rfl (fun hx => ?_)
  obtain ⟨v4, q3, hx⟩ := ob_some hx
  refine U.callS (As := [.int (hI h a0 (ix ((30 : Int32) + a1))), .int v2, .int a3, .int (hI h a0 (ix ((35 : Int32) + a1)))]) (rest := []) (st' := [.int v4]) hE.1 (mX9_pullAs hE q3) mic_X9_pullAs rfl wq_m_X9_110 wq_t_yX9_pullAs ⟨Nat.le_of_ble_eq_true rfl, Nat.le_of_ble_eq_true rfl⟩ (Nat.le_of_ble_eq_true rfl) dX9_pullAt_23 rfl rfl rfl ?_
  obtain rfl := Option.some.inj hx
  exact U.retI rfl rfl rfl rfl dX9_pullAt_26
set_option maxRecDepth 100000 in
set_option maxHeartbeats 4000000 in
theorem vX9_greatest_51 {l : Launch} {G : GG} {EX : State → Prop} (hE : EXB G EX) {h : AH} {r : Int32} {k6 : Nat → Int32 → Int32 → Int32 → Int32 → Int32 → Option (Int32)} (hk6 : ∀ (l0 : Nat) (l1 : Int32) (l2 : Int32) (l3 : Int32) (l4 : Int32) (l5 : Int32) (t0 : KD l0 = 9), k6 l0 l1 l2 l3 l4 l5 = some r → U l G EX mi_X9_greatest 4 92 (some (.int r)) h 6 [(0, .ref (G.1 + l0)), (1, .int l1), (2, .int l2), (3, .int l3), (4, .int l4), (5, .int l5)] [] h) : ∀ (l0 : Nat) (l1 : Int32) (l2 : Int32) (l3 : Int32) (l5 : Int32) (s0 : Int32) (t0 : KD l0 = 9), fX9_greatest_51 h k6 l0 l1 l2 l3 l5 s0 = some r → U l G EX mi_X9_greatest 4 92 (some (.int r)) h 51 [(0, .ref (G.1 + l0)), (1, .int l1), (2, .int l2), (3, .int l3), (5, .int l5)] [.int s0] h := by
  intro l0 l1 l2 l3 l5 s0 t0 hx
  unfold fX9_greatest_51 at hx
  refine V.istore [(4, .int s0), (0, .ref (G.1 + l0)), (1, .int l1), (2, .int l2), (3, .int l3), (5, .int l5)] dX9_greatest_51 rfl (Nat.le_of_ble_eq_true rfl) rfl ?_
  refine U.iinc hx (fun v3 => [(5, .int v3), (4, .int s0), (0, .ref (G.1 + l0)), (1, .int l1), (2, .int l2), (3, .int l3)]) (j := 5) rfl (by decide) (Nat.le_of_ble_eq_true rfl) (fun _ => rfl) dX9_greatest_53 rfl (fun v3 hx => ?_)
  refine V.goto (q := 6) dX9_greatest_56 (by decide) ?_
  refine V.pick [2, 3, 4, 5, 1, 0] rfl ?_
  exact hk6 l0 l1 l2 l3 s0 v3 t0 hx
set_option maxRecDepth 100000 in
set_option maxHeartbeats 4000000 in
theorem vX9_greatest_35 {l : Launch} {G : GG} {EX : State → Prop} (hE : EXB G EX) {h : AH} {r : Int32} {k6 : Nat → Int32 → Int32 → Int32 → Int32 → Int32 → Option (Int32)} (hk6 : ∀ (l0 : Nat) (l1 : Int32) (l2 : Int32) (l3 : Int32) (l4 : Int32) (l5 : Int32) (t0 : KD l0 = 9), k6 l0 l1 l2 l3 l4 l5 = some r → U l G EX mi_X9_greatest 4 92 (some (.int r)) h 6 [(0, .ref (G.1 + l0)), (1, .int l1), (2, .int l2), (3, .int l3), (4, .int l4), (5, .int l5)] [] h) : ∀ (l0 : Nat) (l1 : Int32) (l2 : Int32) (l3 : Int32) (l4 : Int32) (l5 : Int32) (s0 : Int32) (t0 : KD l0 = 9), fX9_greatest_35 h k6 l0 l1 l2 l3 l4 l5 s0 = some r → U l G EX mi_X9_greatest 4 92 (some (.int r)) h 35 [(0, .ref (G.1 + l0)), (1, .int l1), (2, .int l2), (3, .int l3), (4, .int l4), (5, .int l5)] [.int s0] h := by
  intro l0 l1 l2 l3 l4 l5 s0 t0 hx
  unfold fX9_greatest_35 at hx
  refine V.istore [(6, .int s0), (0, .ref (G.1 + l0)), (1, .int l1), (2, .int l2), (3, .int l3), (4, .int l4), (5, .int l5)] dX9_greatest_35 rfl (Nat.le_of_ble_eq_true rfl) rfl ?_
  refine V.iload (j := 0) dX9_greatest_37 rfl rfl ?_
  refine V.iload (j := 5) dX9_greatest_39 rfl rfl ?_
  refine V.icmp_le (tgt := 49) hx dX9_greatest_41 (by decide) rfl (fun hx => ?_) (fun hx => ?_)
  · refine V.iload (j := 5) dX9_greatest_49 rfl rfl ?_
    refine V.pick [1, 2, 3, 4, 6] rfl ?_
    exact vX9_greatest_51 hE hk6 l0 l1 l2 l3 l5 l4 t0 hx
  · refine V.iload (j := 0) dX9_greatest_44 rfl rfl ?_
    refine V.goto (q := 51) dX9_greatest_46 (by decide) ?_
    refine V.pick [1, 2, 3, 4, 6] rfl ?_
    exact vX9_greatest_51 hE hk6 l0 l1 l2 l3 l5 s0 t0 hx
set_option maxRecDepth 100000 in
set_option maxHeartbeats 4000000 in
theorem vX9_greatest_6 {l : Launch} {G : GG} {EX : State → Prop} (hE : EXB G EX) {h : AH} {r : Int32} : ∀ (n : Nat) (l0 : Nat) (l1 : Int32) (l2 : Int32) (l3 : Int32) (l4 : Int32) (l5 : Int32) (t0 : KD l0 = 9), fX9_greatest_6 h n l0 l1 l2 l3 l4 l5 = some r → U l G EX mi_X9_greatest 4 92 (some (.int r)) h 6 [(0, .ref (G.1 + l0)), (1, .int l1), (2, .int l2), (3, .int l3), (4, .int l4), (5, .int l5)] [] h := by
  intro n
  induction n with
  | zero =>
    intro l0 l1 l2 l3 l4 l5 t0 hx
    have hx : none = some r := hx
    cases hx
  | succ n ih =>
    intro l0 l1 l2 l3 l4 l5 t0 hx
    rw [fX9_greatest_6] at hx
    refine V.iload (j := 5) dX9_greatest_6 rfl rfl ?_
    refine V.aload_n (j := 0) dX9_greatest_8 rfl rfl rfl ?_
    refine V.iconst dX9_greatest_9 rfl ki_0 ?_
    refine U.iald hx t0 dX9_greatest_10 rfl (fun hx => ?_)
    refine V.icmp_ge (tgt := 59) hx dX9_greatest_11 (by decide) rfl (fun hx => ?_) (fun hx => ?_)
    · refine V.iload (j := 4) dX9_greatest_59 rfl rfl ?_
      obtain rfl := Option.some.inj hx
      exact U.retI rfl rfl rfl rfl dX9_greatest_61
    · refine V.iload_n (j := 1) dX9_greatest_14 rfl rfl rfl ?_
      refine V.iload (j := 5) dX9_greatest_15 rfl rfl ?_
      obtain ⟨v2, q1, hx⟩ := ob_some hx
      refine U.callS (As := [.int l1, .int l5]) (rest := []) (st' := [.int v2]) hE.1 (mX9_has hE q1) mic_X9_has rfl wq_m_X9_114 wq_t_yX9_has ⟨Nat.le_of_ble_eq_true rfl, Nat.le_of_ble_eq_true rfl⟩ (Nat.le_of_ble_eq_true rfl) dX9_greatest_17 rfl rfl rfl ?_
      refine V.if_eq (tgt := 34) hx dX9_greatest_20 (by decide) rfl (fun hx => ?_) (fun hx => ?_)
      · refine V.iconst dX9_greatest_34 rfl ki_0 ?_
        exact vX9_greatest_35 hE (ih) l0 l1 l2 l3 l4 l5 (0 : Int32) t0 hx
      · refine V.aload_n (j := 0) dX9_greatest_23 rfl rfl rfl ?_
        refine V.iload (j := 5) dX9_greatest_24 rfl rfl ?_
        refine V.iload_n (j := 2) dX9_greatest_26 rfl rfl rfl ?_
        refine V.iload_n (j := 3) dX9_greatest_27 rfl rfl rfl ?_
        obtain ⟨v5, q4, hx⟩ := ob_some hx
        refine U.callS (As := [.ref (G.1 + l0), .int l5, .int l2, .int l3]) (rest := []) (st' := [.int v5]) hE.1 (mX9_pullAt hE t0 q4) mic_X9_pullAt rfl wq_m_X9_118 wq_t_yX9_pullAt ⟨Nat.le_of_ble_eq_true rfl, Nat.le_of_ble_eq_true rfl⟩ (Nat.le_of_ble_eq_true rfl) dX9_greatest_28 rfl rfl rfl ?_
        refine V.goto (q := 35) dX9_greatest_31 (by decide) ?_
        exact vX9_greatest_35 hE (ih) l0 l1 l2 l3 l4 l5 v5 t0 hx
set_option maxRecDepth 100000 in
set_option maxHeartbeats 4000000 in
theorem mX9_greatest {l : Launch} {G : GG} {EX : State → Prop} (hE : EXB G EX) {a0 : Nat} {a1 : Int32} {a2 : Int32} {a3 : Int32} {h : AH} (t0 : KD a0 = 9) {r : Int32} (hx : fX9_greatest a0 a1 a2 a3 h = some r) : MetU l G EX mi_X9_greatest 4 92 [.ref (G.1 + a0), .int a1, .int a2, .int a3] h (some (.int r)) h := by
  refine MetU.of mic_X9_greatest.1 (Nat.le_of_ble_eq_true rfl) ?_
  refine show U l G EX mi_X9_greatest 4 92 (some (.int r)) h 0 [(0, .ref (G.1 + a0)), (1, .int a1), (2, .int a2), (3, .int a3)] [] h from ?_
  unfold fX9_greatest at hx
  refine V.iconst dX9_greatest_0 rfl ki_0 ?_
  refine V.istore [(4, .int (0 : Int32)), (0, .ref (G.1 + a0)), (1, .int a1), (2, .int a2), (3, .int a3)] dX9_greatest_1 rfl (Nat.le_of_ble_eq_true rfl) rfl ?_
  refine V.iconst dX9_greatest_3 rfl ki_0 ?_
  refine V.istore [(5, .int (0 : Int32)), (4, .int (0 : Int32)), (0, .ref (G.1 + a0)), (1, .int a1), (2, .int a2), (3, .int a3)] dX9_greatest_4 rfl (Nat.le_of_ble_eq_true rfl) rfl ?_
  refine V.pick [2, 3, 4, 5, 1, 0] rfl ?_
  exact vX9_greatest_6 hE FU a0 a1 a2 a3 (0 : Int32) (0 : Int32) t0 hx
set_option maxRecDepth 100000 in
set_option maxHeartbeats 4000000 in
theorem vX9_isOn_4 {l : Launch} {G : GG} {EX : State → Prop} (hE : EXB G EX) {h : AH} {r : Int32} : ∀ (n : Nat) (l0 : Nat) (l1 : Int32) (l2 : Int32) (t0 : KD l0 = 9), fX9_isOn_4 h n l0 l1 l2 = some r → U l G EX mi_X9_isOn 0 0 (some (.int r)) h 4 [(0, .ref (G.1 + l0)), (1, .int l1), (2, .int l2)] [] h := by
  intro n
  induction n with
  | zero =>
    intro l0 l1 l2 t0 hx
    have hx : none = some r := hx
    cases hx
  | succ n ih =>
    intro l0 l1 l2 t0 hx
    rw [fX9_isOn_4] at hx
    refine V.iload_n (j := 2) dX9_isOn_4 rfl rfl rfl ?_
    refine V.aload_n (j := 0) dX9_isOn_5 rfl rfl rfl ?_
    refine V.iconst dX9_isOn_6 rfl ki_0 ?_
    refine U.iald hx t0 dX9_isOn_7 rfl (fun hx => ?_)
    refine V.icmp_ge (tgt := 28) hx dX9_isOn_8 (by decide) rfl (fun hx => ?_) (fun hx => ?_)
    · refine V.iload_n (j := 1) dX9_isOn_28 rfl rfl rfl ?_
      obtain rfl := Option.some.inj hx
      exact U.retI rfl rfl rfl rfl dX9_isOn_29
    · refine V.iload_n (j := 1) dX9_isOn_11 rfl rfl rfl ?_
      refine V.aload_n (j := 0) dX9_isOn_12 rfl rfl rfl ?_
      refine V.bipush dX9_isOn_13 rfl kb_25 ?_
      refine V.iload_n (j := 2) dX9_isOn_15 rfl rfl rfl ?_
      refine V.iadd dX9_isOn_16 rfl ?_
      refine U.iald hx t0 dX9_isOn_17 rfl (fun hx => ?_)
      refine V.iload_n (j := 2) dX9_isOn_18 rfl rfl rfl ?_
      refine V.ishl dX9_isOn_19 rfl ?_
      refine V.ior dX9_isOn_20 rfl ?_
      refine U.letI hx (fun v1 hx => ?_)
      refine V.istore_n [(1, .int v1), (0, .ref (G.1 + l0)), (2, .int l2)] dX9_isOn_21 rfl rfl (Nat.le_of_ble_eq_true rfl) rfl ?_
      refine U.iinc hx (fun v2 => [(2, .int v2), (1, .int v1), (0, .ref (G.1 + l0))]) (j := 2) rfl (by decide) (Nat.le_of_ble_eq_true rfl) (fun _ => rfl) dX9_isOn_22 rfl (fun v2 hx => ?_)
      refine V.goto (q := 4) dX9_isOn_25 (by decide) ?_
      refine V.pick [2, 1, 0] rfl ?_
      exact ih l0 v1 v2 t0 hx
set_option maxRecDepth 100000 in
set_option maxHeartbeats 4000000 in
theorem mX9_isOn {l : Launch} {G : GG} {EX : State → Prop} (hE : EXB G EX) {a0 : Nat} {h : AH} (t0 : KD a0 = 9) {r : Int32} (hx : fX9_isOn a0 h = some r) : MetU l G EX mi_X9_isOn 0 0 [.ref (G.1 + a0)] h (some (.int r)) h := by
  refine MetU.of mic_X9_isOn.1 (Nat.le_of_ble_eq_true rfl) ?_
  refine show U l G EX mi_X9_isOn 0 0 (some (.int r)) h 0 [(0, .ref (G.1 + a0))] [] h from ?_
  unfold fX9_isOn at hx
  refine V.iconst dX9_isOn_0 rfl ki_0 ?_
  refine V.istore_n [(1, .int (0 : Int32)), (0, .ref (G.1 + a0))] dX9_isOn_1 rfl rfl (Nat.le_of_ble_eq_true rfl) rfl ?_
  refine V.iconst dX9_isOn_2 rfl ki_0 ?_
  refine V.istore_n [(2, .int (0 : Int32)), (1, .int (0 : Int32)), (0, .ref (G.1 + a0))] dX9_isOn_3 rfl rfl (Nat.le_of_ble_eq_true rfl) rfl ?_
  refine V.pick [2, 1, 0] rfl ?_
  exact vX9_isOn_4 hE FU a0 (0 : Int32) (0 : Int32) t0 hx
set_option maxRecDepth 100000 in
set_option maxHeartbeats 4000000 in
theorem mX9_seesFrom {l : Launch} {G : GG} {EX : State → Prop} (hE : EXB G EX) {a0 : Nat} {a1 : Int32} {a2 : Int32} {a3 : Int32} {a4 : Int32} {a5 : Int32} {h : AH} (t0 : KD a0 = 9) {r : Int32} (hx : fX9_seesFrom a0 a1 a2 a3 a4 a5 h = some r) : MetU l G EX mi_X9_seesFrom 5 118 [.ref (G.1 + a0), .int a1, .int a2, .int a3, .int a4, .int a5] h (some (.int r)) h := by
  refine MetU.of mic_X9_seesFrom.1 (Nat.le_of_ble_eq_true rfl) ?_
  refine show U l G EX mi_X9_seesFrom 5 118 (some (.int r)) h 0 [(0, .ref (G.1 + a0)), (1, .int a1), (2, .int a2), (3, .int a3), (4, .int a4), (5, .int a5)] [] h from ?_
  unfold fX9_seesFrom at hx
  refine V.iload_n (j := 1) dX9_seesFrom_0 rfl rfl rfl ?_
  refine V.iload_n (j := 2) dX9_seesFrom_1 rfl rfl rfl ?_
  refine V.iload_n (j := 3) dX9_seesFrom_2 rfl rfl rfl ?_
  obtain ⟨v2, q1, hx⟩ := ob_some hx
  refine U.callS (As := [.int a2, .int a3]) (rest := [.int a1]) (st' := [.int v2, .int a1]) hE.1 (mX9_distance hE q1) mic_X9_distance rfl wq_m_X9_107 wq_t_yX9_distance ⟨Nat.le_of_ble_eq_true rfl, Nat.le_of_ble_eq_true rfl⟩ (Nat.le_of_ble_eq_true rfl) dX9_seesFrom_3 rfl rfl rfl ?_
  refine V.aload_n (j := 0) dX9_seesFrom_6 rfl rfl rfl ?_
  refine V.iload (j := 4) dX9_seesFrom_7 rfl rfl ?_
  refine V.iload_n (j := 2) dX9_seesFrom_9 rfl rfl rfl ?_
  refine V.iload (j := 5) dX9_seesFrom_10 rfl rfl ?_
  obtain ⟨v4, q3, hx⟩ := ob_some hx
  refine U.callS (As := [.ref (G.1 + a0), .int a4, .int a2, .int a5]) (rest := [.int v2, .int a1]) (st' := [.int v4, .int v2, .int a1]) hE.1 (mX9_greatest hE t0 q3) mic_X9_greatest rfl wq_m_X9_122 wq_t_yX9_greatest ⟨Nat.le_of_ble_eq_true rfl, Nat.le_of_ble_eq_true rfl⟩ (Nat.le_of_ble_eq_true rfl) dX9_seesFrom_12 rfl rfl rfl ?_
  obtain ⟨v6, q5, hx⟩ := ob_some hx
  refine U.callS (As := [.int a1, .int v2, .int v4]) (rest := []) (st' := [.int v6]) hE.1 (mX9_seesAs hE q5) mic_X9_seesAs rfl wq_m_X9_125 wq_t_yX9_seesAs ⟨Nat.le_of_ble_eq_true rfl, Nat.le_of_ble_eq_true rfl⟩ (Nat.le_of_ble_eq_true rfl) dX9_seesFrom_15 rfl rfl rfl ?_
  obtain ⟨g7, hx⟩ := oG_some hx
  obtain rfl := Option.some.inj hx
  exact U.retI rfl rfl rfl (isB_nar g7) dX9_seesFrom_18
set_option maxRecDepth 100000 in
set_option maxHeartbeats 4000000 in
theorem vX9_whoSees_48 {l : Launch} {G : GG} {EX : State → Prop} (hE : EXB G EX) {h : AH} {r : Int32} {k6 : Nat → Int32 → Int32 → Int32 → Int32 → Int32 → Option (Int32)} (hk6 : ∀ (l0 : Nat) (l1 : Int32) (l2 : Int32) (l3 : Int32) (l4 : Int32) (l5 : Int32) (t0 : KD l0 = 9), k6 l0 l1 l2 l3 l4 l5 = some r → U l G EX mi_X9_whoSees 6 143 (some (.int r)) h 6 [(0, .ref (G.1 + l0)), (1, .int l1), (2, .int l2), (3, .int l3), (4, .int l4), (5, .int l5)] [] h) : ∀ (l0 : Nat) (l1 : Int32) (l2 : Int32) (l3 : Int32) (l5 : Int32) (s0 : Int32) (s1 : Int32) (t0 : KD l0 = 9), fX9_whoSees_48 h k6 l0 l1 l2 l3 l5 s0 s1 = some r → U l G EX mi_X9_whoSees 6 143 (some (.int r)) h 48 [(0, .ref (G.1 + l0)), (1, .int l1), (2, .int l2), (3, .int l3), (5, .int l5)] [.int s1, .int s0] h := by
  intro l0 l1 l2 l3 l5 s0 s1 t0 hx
  unfold fX9_whoSees_48 at hx
  refine V.ior dX9_whoSees_48 rfl ?_
  refine U.letI hx (fun v3 hx => ?_)
  refine V.istore [(4, .int v3), (0, .ref (G.1 + l0)), (1, .int l1), (2, .int l2), (3, .int l3), (5, .int l5)] dX9_whoSees_49 rfl (Nat.le_of_ble_eq_true rfl) rfl ?_
  refine U.iinc hx (fun v4 => [(5, .int v4), (4, .int v3), (0, .ref (G.1 + l0)), (1, .int l1), (2, .int l2), (3, .int l3)]) (j := 5) rfl (by decide) (Nat.le_of_ble_eq_true rfl) (fun _ => rfl) dX9_whoSees_51 rfl (fun v4 hx => ?_)
  refine V.goto (q := 6) dX9_whoSees_54 (by decide) ?_
  refine V.pick [2, 3, 4, 5, 1, 0] rfl ?_
  exact hk6 l0 l1 l2 l3 v3 v4 t0 hx
set_option maxRecDepth 100000 in
set_option maxHeartbeats 4000000 in
theorem vX9_whoSees_6 {l : Launch} {G : GG} {EX : State → Prop} (hE : EXB G EX) {h : AH} {r : Int32} : ∀ (n : Nat) (l0 : Nat) (l1 : Int32) (l2 : Int32) (l3 : Int32) (l4 : Int32) (l5 : Int32) (t0 : KD l0 = 9), fX9_whoSees_6 h n l0 l1 l2 l3 l4 l5 = some r → U l G EX mi_X9_whoSees 6 143 (some (.int r)) h 6 [(0, .ref (G.1 + l0)), (1, .int l1), (2, .int l2), (3, .int l3), (4, .int l4), (5, .int l5)] [] h := by
  intro n
  induction n with
  | zero =>
    intro l0 l1 l2 l3 l4 l5 t0 hx
    have hx : none = some r := hx
    cases hx
  | succ n ih =>
    intro l0 l1 l2 l3 l4 l5 t0 hx
    rw [fX9_whoSees_6] at hx
    refine V.iload (j := 5) dX9_whoSees_6 rfl rfl ?_
    refine V.aload_n (j := 0) dX9_whoSees_8 rfl rfl rfl ?_
    refine V.iconst dX9_whoSees_9 rfl ki_1 ?_
    refine U.iald hx t0 dX9_whoSees_10 rfl (fun hx => ?_)
    refine V.icmp_ge (tgt := 57) hx dX9_whoSees_11 (by decide) rfl (fun hx => ?_) (fun hx => ?_)
    · refine V.iload (j := 4) dX9_whoSees_57 rfl rfl ?_
      obtain rfl := Option.some.inj hx
      exact U.retI rfl rfl rfl rfl dX9_whoSees_59
    · refine V.iload (j := 4) dX9_whoSees_14 rfl rfl ?_
      refine V.aload_n (j := 0) dX9_whoSees_16 rfl rfl rfl ?_
      refine V.aload_n (j := 0) dX9_whoSees_17 rfl rfl rfl ?_
      refine V.bipush dX9_whoSees_18 rfl kb_40 ?_
      refine V.iload (j := 5) dX9_whoSees_20 rfl rfl ?_
      refine V.iadd dX9_whoSees_22 rfl ?_
      refine U.iald hx t0 dX9_whoSees_23 rfl (fun hx => ?_)
      refine V.aload_n (j := 0) dX9_whoSees_24 rfl rfl rfl ?_
      refine V.bipush dX9_whoSees_25 rfl kb_19 ?_
      refine V.iload (j := 5) dX9_whoSees_27 rfl rfl ?_
      refine V.iadd dX9_whoSees_29 rfl ?_
      refine U.iald hx t0 dX9_whoSees_30 rfl (fun hx => ?_)
      refine V.iload_n (j := 1) dX9_whoSees_31 rfl rfl rfl ?_
      refine V.iload_n (j := 2) dX9_whoSees_32 rfl rfl rfl ?_
      refine V.iload_n (j := 3) dX9_whoSees_33 rfl rfl rfl ?_
      obtain ⟨v2, q1, hx⟩ := ob_some hx
      refine U.callS (As := [.ref (G.1 + l0), .int (hI h l0 (ix ((40 : Int32) + l5))), .int (hI h l0 (ix ((19 : Int32) + l5))), .int l1, .int l2, .int l3]) (rest := [.int l4]) (st' := [.int v2, .int l4]) hE.1 (mX9_seesFrom hE t0 q1) mic_X9_seesFrom rfl wq_m_X9_129 wq_t_yX9_seesFrom ⟨Nat.le_of_ble_eq_true rfl, Nat.le_of_ble_eq_true rfl⟩ (Nat.le_of_ble_eq_true rfl) dX9_whoSees_34 rfl rfl rfl ?_
      refine V.if_eq (tgt := 47) hx dX9_whoSees_37 (by decide) rfl (fun hx => ?_) (fun hx => ?_)
      · refine V.iconst dX9_whoSees_47 rfl ki_0 ?_
        refine V.pick [0, 1, 2, 3, 5] rfl ?_
        exact vX9_whoSees_48 hE (ih) l0 l1 l2 l3 l5 l4 (0 : Int32) t0 hx
      · refine V.iconst dX9_whoSees_40 rfl ki_1 ?_
        refine V.iload (j := 5) dX9_whoSees_41 rfl rfl ?_
        refine V.ishl dX9_whoSees_43 rfl ?_
        refine V.goto (q := 48) dX9_whoSees_44 (by decide) ?_
        refine V.pick [0, 1, 2, 3, 5] rfl ?_
        exact vX9_whoSees_48 hE (ih) l0 l1 l2 l3 l5 l4 (jshl (1 : Int32) l5) t0 hx
set_option maxRecDepth 100000 in
set_option maxHeartbeats 4000000 in
theorem mX9_whoSees {l : Launch} {G : GG} {EX : State → Prop} (hE : EXB G EX) {a0 : Nat} {a1 : Int32} {a2 : Int32} {a3 : Int32} {h : AH} (t0 : KD a0 = 9) {r : Int32} (hx : fX9_whoSees a0 a1 a2 a3 h = some r) : MetU l G EX mi_X9_whoSees 6 143 [.ref (G.1 + a0), .int a1, .int a2, .int a3] h (some (.int r)) h := by
  refine MetU.of mic_X9_whoSees.1 (Nat.le_of_ble_eq_true rfl) ?_
  refine show U l G EX mi_X9_whoSees 6 143 (some (.int r)) h 0 [(0, .ref (G.1 + a0)), (1, .int a1), (2, .int a2), (3, .int a3)] [] h from ?_
  unfold fX9_whoSees at hx
  refine V.iconst dX9_whoSees_0 rfl ki_0 ?_
  refine V.istore [(4, .int (0 : Int32)), (0, .ref (G.1 + a0)), (1, .int a1), (2, .int a2), (3, .int a3)] dX9_whoSees_1 rfl (Nat.le_of_ble_eq_true rfl) rfl ?_
  refine V.iconst dX9_whoSees_3 rfl ki_0 ?_
  refine V.istore [(5, .int (0 : Int32)), (4, .int (0 : Int32)), (0, .ref (G.1 + a0)), (1, .int a1), (2, .int a2), (3, .int a3)] dX9_whoSees_4 rfl (Nat.le_of_ble_eq_true rfl) rfl ?_
  refine V.pick [2, 3, 4, 5, 1, 0] rfl ?_
  exact vX9_whoSees_6 hE FU a0 a1 a2 a3 (0 : Int32) (0 : Int32) t0 hx
set_option maxRecDepth 100000 in
set_option maxHeartbeats 4000000 in
theorem mX9_stepNow {l : Launch} {G : GG} {EX : State → Prop} (hE : EXB G EX) {th : Nat} {h : AH} (t0 : KD th = 8) {r : Int32} (hx : fX9_stepNow th h = some r) : MetU l G EX mi_X9_stepNow 0 0 [.ref (G.1 + th)] h (some (.int r)) h := by
  refine MetU.of mic_X9_stepNow.1 (Nat.le_of_ble_eq_true rfl) ?_
  refine show U l G EX mi_X9_stepNow 0 0 (some (.int r)) h 0 [(0, .ref (G.1 + th))] [] h from ?_
  unfold fX9_stepNow at hx
  refine V.aload_n (j := 0) dX9_stepNow_0 rfl rfl rfl ?_
  refine U.getP fl_X9_7 t0 dX9_stepNow_1 rfl ?_
  refine V.bipush dX9_stepNow_4 rfl kb_13 ?_
  refine U.iald hx (ty_X9_0 t0) dX9_stepNow_6 rfl (fun hx => ?_)
  refine V.bipush dX9_stepNow_7 rfl kb_12 ?_
  refine V.irem dX9_stepNow_9 rfl (by decide) ?_
  obtain rfl := Option.some.inj hx
  exact U.retI rfl rfl rfl rfl dX9_stepNow_10
set_option maxRecDepth 100000 in
set_option maxHeartbeats 4000000 in
theorem vX9_keep_95 {l : Launch} {G : GG} {EX : State → Prop} (hE : EXB G EX) {r : AH} : ∀ (l0 : Nat) (h : AH) (t0 : KD l0 = 8), fX9_keep_95 l0 h = some r → U l G EX mi_X9_keep 0 0 none r 95 [(0, .ref (G.1 + l0))] [] h := by
  intro l0 h t0 hx
  unfold fX9_keep_95 at hx
  refine V.aload_n (j := 0) dX9_keep_95 rfl rfl rfl ?_
  refine U.getP fl_X9_7 t0 dX9_keep_96 rfl ?_
  refine V.iconst dX9_keep_99 rfl ki_5 ?_
  refine V.dup2 dX9_keep_100 rfl rfl rfl ?_
  refine U.iald hx (ty_X9_0 t0) dX9_keep_101 rfl (fun hx => ?_)
  refine V.iconst dX9_keep_102 rfl ki_1 ?_
  refine V.iadd dX9_keep_103 rfl ?_
  refine U.iast hx (ty_X9_0 t0) dX9_keep_104 rfl (fun h1 hx => ?_)
  obtain rfl := Option.some.inj hx
  exact U.ret0 rfl rfl rfl dX9_keep_105
set_option maxRecDepth 100000 in
set_option maxHeartbeats 4000000 in
theorem vX9_keep_55 {l : Launch} {G : GG} {EX : State → Prop} (hE : EXB G EX) {r : AH} : ∀ (n : Nat) (l0 : Nat) (l1 : Int32) (h : AH) (t0 : KD l0 = 8), fX9_keep_55 n l0 l1 h = some r → U l G EX mi_X9_keep 0 0 none r 55 [(0, .ref (G.1 + l0)), (1, .int l1)] [] h := by
  intro n
  induction n with
  | zero =>
    intro l0 l1 h t0 hx
    have hx : none = some r := hx
    cases hx
  | succ n ih =>
    intro l0 l1 h t0 hx
    rw [fX9_keep_55] at hx
    refine V.iload_n (j := 1) dX9_keep_55 rfl rfl rfl ?_
    refine V.bipush dX9_keep_56 rfl kb_24 ?_
    refine V.icmp_ge (tgt := 95) hx dX9_keep_58 (by decide) rfl (fun hx => ?_) (fun hx => ?_)
    · refine V.pick [0] rfl ?_
      exact vX9_keep_95 hE l0 h t0 hx
    · refine V.aload_n (j := 0) dX9_keep_61 rfl rfl rfl ?_
      refine U.getP fl_X9_7 t0 dX9_keep_62 rfl ?_
      refine V.bipush dX9_keep_65 rfl kb_112 ?_
      refine V.bipush dX9_keep_67 rfl kb_24 ?_
      refine V.aload_n (j := 0) dX9_keep_69 rfl rfl rfl ?_
      refine U.getP fl_X9_7 t0 dX9_keep_70 rfl ?_
      refine V.iconst dX9_keep_73 rfl ki_5 ?_
      refine U.iald hx (ty_X9_0 t0) dX9_keep_74 rfl (fun hx => ?_)
      refine V.imul dX9_keep_75 rfl ?_
      refine V.iadd dX9_keep_76 rfl ?_
      refine V.iload_n (j := 1) dX9_keep_77 rfl rfl rfl ?_
      refine V.iadd dX9_keep_78 rfl ?_
      refine V.aload_n (j := 0) dX9_keep_79 rfl rfl rfl ?_
      refine U.getP fl_X9_7 t0 dX9_keep_80 rfl ?_
      refine V.bipush dX9_keep_83 rfl kb_6 ?_
      refine V.iload_n (j := 1) dX9_keep_85 rfl rfl rfl ?_
      refine V.iadd dX9_keep_86 rfl ?_
      refine U.iald hx (ty_X9_0 t0) dX9_keep_87 rfl (fun hx => ?_)
      refine U.iast hx (ty_X9_0 t0) dX9_keep_88 rfl (fun h2 hx => ?_)
      refine U.iinc hx (fun v3 => [(1, .int v3), (0, .ref (G.1 + l0))]) (j := 1) rfl (by decide) (Nat.le_of_ble_eq_true rfl) (fun _ => rfl) dX9_keep_89 rfl (fun v3 hx => ?_)
      refine V.goto (q := 55) dX9_keep_92 (by decide) ?_
      refine V.pick [1, 0] rfl ?_
      exact ih l0 v3 h2 t0 hx
set_option maxRecDepth 100000 in
set_option maxHeartbeats 4000000 in
theorem vX9_keep_53 {l : Launch} {G : GG} {EX : State → Prop} (hE : EXB G EX) {r : AH} : ∀ (l0 : Nat) (h : AH) (t0 : KD l0 = 8), fX9_keep_53 l0 h = some r → U l G EX mi_X9_keep 0 0 none r 53 [(0, .ref (G.1 + l0))] [] h := by
  intro l0 h t0 hx
  unfold fX9_keep_53 at hx
  refine V.iconst dX9_keep_53 rfl ki_0 ?_
  refine V.istore_n [(1, .int (0 : Int32)), (0, .ref (G.1 + l0))] dX9_keep_54 rfl rfl (Nat.le_of_ble_eq_true rfl) rfl ?_
  refine V.pick [1, 0] rfl ?_
  exact vX9_keep_55 hE FU l0 (0 : Int32) h t0 hx
set_option maxRecDepth 100000 in
set_option maxHeartbeats 4000000 in
theorem vX9_keep_45 {l : Launch} {G : GG} {EX : State → Prop} (hE : EXB G EX) {r : AH} : ∀ (l0 : Nat) (h : AH) (t0 : KD l0 = 8), fX9_keep_45 l0 h = some r → U l G EX mi_X9_keep 0 0 none r 45 [(0, .ref (G.1 + l0))] [] h := by
  intro l0 h t0 hx
  unfold fX9_keep_45 at hx
  refine V.aload_n (j := 0) dX9_keep_45 rfl rfl rfl ?_
  refine U.getP fl_X9_7 t0 dX9_keep_46 rfl ?_
  refine V.iconst dX9_keep_49 rfl ki_5 ?_
  refine V.bipush dX9_keep_50 rfl kb_7 ?_
  refine U.iast hx (ty_X9_0 t0) dX9_keep_52 rfl (fun h4 hx => ?_)
  exact vX9_keep_53 hE l0 h4 t0 hx
set_option maxRecDepth 100000 in
set_option maxHeartbeats 4000000 in
theorem vX9_keep_13 {l : Launch} {G : GG} {EX : State → Prop} (hE : EXB G EX) {r : AH} : ∀ (n : Nat) (l0 : Nat) (l1 : Int32) (h : AH) (t0 : KD l0 = 8), fX9_keep_13 n l0 l1 h = some r → U l G EX mi_X9_keep 0 0 none r 13 [(0, .ref (G.1 + l0)), (1, .int l1)] [] h := by
  intro n
  induction n with
  | zero =>
    intro l0 l1 h t0 hx
    have hx : none = some r := hx
    cases hx
  | succ n ih =>
    intro l0 l1 h t0 hx
    rw [fX9_keep_13] at hx
    refine V.iload_n (j := 1) dX9_keep_13 rfl rfl rfl ?_
    refine V.sipush dX9_keep_14 rfl ks_168 ?_
    refine V.icmp_ge (tgt := 45) hx dX9_keep_17 (by decide) rfl (fun hx => ?_) (fun hx => ?_)
    · refine V.pick [0] rfl ?_
      exact vX9_keep_45 hE l0 h t0 hx
    · refine V.aload_n (j := 0) dX9_keep_20 rfl rfl rfl ?_
      refine U.getP fl_X9_7 t0 dX9_keep_21 rfl ?_
      refine V.bipush dX9_keep_24 rfl kb_112 ?_
      refine V.iload_n (j := 1) dX9_keep_26 rfl rfl rfl ?_
      refine V.iadd dX9_keep_27 rfl ?_
      refine V.aload_n (j := 0) dX9_keep_28 rfl rfl rfl ?_
      refine U.getP fl_X9_7 t0 dX9_keep_29 rfl ?_
      refine V.sipush dX9_keep_32 rfl ks_136 ?_
      refine V.iload_n (j := 1) dX9_keep_35 rfl rfl rfl ?_
      refine V.iadd dX9_keep_36 rfl ?_
      refine U.iald hx (ty_X9_0 t0) dX9_keep_37 rfl (fun hx => ?_)
      refine U.iast hx (ty_X9_0 t0) dX9_keep_38 rfl (fun h5 hx => ?_)
      refine U.iinc hx (fun v6 => [(1, .int v6), (0, .ref (G.1 + l0))]) (j := 1) rfl (by decide) (Nat.le_of_ble_eq_true rfl) (fun _ => rfl) dX9_keep_39 rfl (fun v6 hx => ?_)
      refine V.goto (q := 13) dX9_keep_42 (by decide) ?_
      refine V.pick [1, 0] rfl ?_
      exact ih l0 v6 h5 t0 hx
set_option maxRecDepth 100000 in
set_option maxHeartbeats 4000000 in
theorem mX9_keep {l : Launch} {G : GG} {EX : State → Prop} (hE : EXB G EX) {th : Nat} {h : AH} (t0 : KD th = 8) {r : AH} (hx : fX9_keep th h = some r) : MetU l G EX mi_X9_keep 0 0 [.ref (G.1 + th)] h none r := by
  refine MetU.of mic_X9_keep.1 (Nat.le_of_ble_eq_true rfl) ?_
  refine show U l G EX mi_X9_keep 0 0 none r 0 [(0, .ref (G.1 + th))] [] h from ?_
  unfold fX9_keep at hx
  refine V.aload_n (j := 0) dX9_keep_0 rfl rfl rfl ?_
  refine U.getP fl_X9_7 t0 dX9_keep_1 rfl ?_
  refine V.iconst dX9_keep_4 rfl ki_5 ?_
  refine U.iald hx (ty_X9_0 t0) dX9_keep_5 rfl (fun hx => ?_)
  refine V.bipush dX9_keep_6 rfl kb_8 ?_
  refine V.icmp_ne (tgt := 53) hx dX9_keep_8 (by decide) rfl (fun hx => ?_) (fun hx => ?_)
  · exact vX9_keep_53 hE th h t0 hx
  · refine V.iconst dX9_keep_11 rfl ki_0 ?_
    refine V.istore_n [(1, .int (0 : Int32)), (0, .ref (G.1 + th))] dX9_keep_12 rfl rfl (Nat.le_of_ble_eq_true rfl) rfl ?_
    refine V.pick [1, 0] rfl ?_
    exact vX9_keep_13 hE FU th (0 : Int32) h t0 hx
set_option maxRecDepth 100000 in
set_option maxHeartbeats 4000000 in
theorem vX9_goDoing_74 {l : Launch} {G : GG} {EX : State → Prop} (hE : EXB G EX) {r : Int32 × AH} : ∀ (l2 : Int32) (s0 : Nat) (s1 : Int32) (s2 : Int32) (s3 : Int32) (h : AH) (ts0 : KD s0 = 9), fX9_goDoing_74 l2 s0 s1 s2 s3 h = some r → U l G EX mi_X9_goDoing 7 168 (some (.int r.1)) r.2 74 [(2, .int l2)] [.int s3, .int s2, .int s1, .ref (G.1 + s0)] h := by
  intro l2 s0 s1 s2 s3 h ts0 hx
  unfold fX9_goDoing_74 at hx
  refine V.iadd dX9_goDoing_74 rfl ?_
  refine U.iast hx ts0 dX9_goDoing_75 rfl (fun h6 hx => ?_)
  refine V.iload_n (j := 0) dX9_goDoing_76 rfl rfl rfl ?_
  obtain rfl := Option.some.inj hx
  exact U.retI rfl rfl rfl rfl dX9_goDoing_77
set_option maxRecDepth 100000 in
set_option maxHeartbeats 4000000 in
theorem vX9_goDoing_46 {l : Launch} {G : GG} {EX : State → Prop} (hE : EXB G EX) {r : Int32 × AH} : ∀ (l0 : Nat) (l2 : Int32) (h : AH) (t0 : KD l0 = 9), fX9_goDoing_46 l0 l2 h = some r → U l G EX mi_X9_goDoing 7 168 (some (.int r.1)) r.2 46 [(0, .ref (G.1 + l0)), (2, .int l2)] [] h := by
  intro l0 l2 h t0 hx
  unfold fX9_goDoing_46 at hx
  refine V.aload_n (j := 0) dX9_goDoing_46 rfl rfl rfl ?_
  refine V.bipush dX9_goDoing_47 rfl kb_12 ?_
  refine V.dup2 dX9_goDoing_49 rfl rfl rfl ?_
  refine U.iald hx t0 dX9_goDoing_50 rfl (fun hx => ?_)
  refine V.iconst dX9_goDoing_51 rfl ki_1 ?_
  refine V.iadd dX9_goDoing_52 rfl ?_
  refine U.iast hx t0 dX9_goDoing_53 rfl (fun h5 hx => ?_)
  refine V.aload_n (j := 0) dX9_goDoing_54 rfl rfl rfl ?_
  refine V.bipush dX9_goDoing_55 rfl kb_13 ?_
  refine V.dup2 dX9_goDoing_57 rfl rfl rfl ?_
  refine U.iald hx t0 dX9_goDoing_58 rfl (fun hx => ?_)
  refine V.aload_n (j := 0) dX9_goDoing_59 rfl rfl rfl ?_
  refine V.bipush dX9_goDoing_60 rfl kb_13 ?_
  refine U.iald hx t0 dX9_goDoing_62 rfl (fun hx => ?_)
  refine V.sipush dX9_goDoing_63 rfl ks_9999 ?_
  refine V.icmp_ge (tgt := 73) hx dX9_goDoing_66 (by decide) rfl (fun hx => ?_) (fun hx => ?_)
  · refine V.iconst dX9_goDoing_73 rfl ki_0 ?_
    refine V.pick [1] rfl ?_
    exact vX9_goDoing_74 hE l2 l0 (13 : Int32) (hI h5 l0 (ix (13 : Int32))) (0 : Int32) h5 t0 hx
  · refine V.iconst dX9_goDoing_69 rfl ki_1 ?_
    refine V.goto (q := 74) dX9_goDoing_70 (by decide) ?_
    refine V.pick [1] rfl ?_
    exact vX9_goDoing_74 hE l2 l0 (13 : Int32) (hI h5 l0 (ix (13 : Int32))) (1 : Int32) h5 t0 hx
set_option maxRecDepth 100000 in
set_option maxHeartbeats 4000000 in
theorem vX9_goDoing_19 {l : Launch} {G : GG} {EX : State → Prop} (hE : EXB G EX) {r : Int32 × AH} : ∀ (n : Nat) (l0 : Nat) (l2 : Int32) (l3 : Int32) (h : AH) (t0 : KD l0 = 9), fX9_goDoing_19 n l0 l2 l3 h = some r → U l G EX mi_X9_goDoing 7 168 (some (.int r.1)) r.2 19 [(0, .ref (G.1 + l0)), (2, .int l2), (3, .int l3)] [] h := by
  intro n
  induction n with
  | zero =>
    intro l0 l2 l3 h t0 hx
    have hx : none = some r := hx
    cases hx
  | succ n ih =>
    intro l0 l2 l3 h t0 hx
    rw [fX9_goDoing_19] at hx
    refine V.iload_n (j := 2) dX9_goDoing_19 rfl rfl rfl ?_
    refine V.aload_n (j := 0) dX9_goDoing_20 rfl rfl rfl ?_
    refine V.iconst dX9_goDoing_21 rfl ki_1 ?_
    refine U.iald hx t0 dX9_goDoing_22 rfl (fun hx => ?_)
    refine V.icmp_ge (tgt := 46) hx dX9_goDoing_23 (by decide) rfl (fun hx => ?_) (fun hx => ?_)
    · refine V.pick [0, 1] rfl ?_
      exact vX9_goDoing_46 hE l0 l2 h t0 hx
    · refine V.aload_n (j := 0) dX9_goDoing_26 rfl rfl rfl ?_
      refine V.bipush dX9_goDoing_27 rfl kb_6 ?_
      refine V.iload_n (j := 2) dX9_goDoing_29 rfl rfl rfl ?_
      refine V.iadd dX9_goDoing_30 rfl ?_
      refine V.dup2 dX9_goDoing_31 rfl rfl rfl ?_
      refine U.iald hx t0 dX9_goDoing_32 rfl (fun hx => ?_)
      refine V.iload_n (j := 1) dX9_goDoing_33 rfl rfl rfl ?_
      refine V.iload_n (j := 2) dX9_goDoing_34 rfl rfl rfl ?_
      refine V.ishr dX9_goDoing_35 rfl ?_
      refine V.iconst dX9_goDoing_36 rfl ki_1 ?_
      refine V.iand dX9_goDoing_37 rfl ?_
      refine V.iadd dX9_goDoing_38 rfl ?_
      refine U.iast hx t0 dX9_goDoing_39 rfl (fun h7 hx => ?_)
      refine U.iinc hx (fun v8 => [(3, .int v8), (0, .ref (G.1 + l0)), (2, .int l2)]) (j := 2) rfl (by decide) (Nat.le_of_ble_eq_true rfl) (fun _ => rfl) dX9_goDoing_40 rfl (fun v8 hx => ?_)
      refine V.goto (q := 19) dX9_goDoing_43 (by decide) ?_
      refine V.pick [1, 2, 0] rfl ?_
      exact ih l0 l2 v8 h7 t0 hx
set_option maxRecDepth 100000 in
set_option maxHeartbeats 4000000 in
theorem mX9_goDoing {l : Launch} {G : GG} {EX : State → Prop} (hE : EXB G EX) {a0 : Nat} {a1 : Int32} {h : AH} (t0 : KD a0 = 9) {r : Int32 × AH} (hx : fX9_goDoing a0 a1 h = some r) : MetU l G EX mi_X9_goDoing 7 168 [.ref (G.1 + a0), .int a1] h (some (.int r.1)) r.2 := by
  refine MetU.of mic_X9_goDoing.1 (Nat.le_of_ble_eq_true rfl) ?_
  refine show U l G EX mi_X9_goDoing 7 168 (some (.int r.1)) r.2 0 [(0, .ref (G.1 + a0)), (1, .int a1)] [] h from ?_
  unfold fX9_goDoing at hx
  refine V.aload_n (j := 0) dX9_goDoing_0 rfl rfl rfl ?_
  refine V.iload_n (j := 1) dX9_goDoing_1 rfl rfl rfl ?_
  refine V.aload_n (j := 0) dX9_goDoing_2 rfl rfl rfl ?_
  obtain ⟨v2, q1, hx⟩ := ob_some hx
  refine U.callS (As := [.ref (G.1 + a0)]) (rest := [.int a1, .ref (G.1 + a0)]) (st' := [.int v2, .int a1, .ref (G.1 + a0)]) hE.1 (mX9_isOn hE t0 q1) mic_X9_isOn rfl wq_m_X9_133 wq_t_yX9_isOn ⟨Nat.le_of_ble_eq_true rfl, Nat.le_of_ble_eq_true rfl⟩ (Nat.le_of_ble_eq_true rfl) dX9_goDoing_3 rfl rfl rfl ?_
  refine V.aload_n (j := 0) dX9_goDoing_6 rfl rfl rfl ?_
  refine V.bipush dX9_goDoing_7 rfl kb_13 ?_
  refine U.iald hx t0 dX9_goDoing_9 rfl (fun hx => ?_)
  refine V.bipush dX9_goDoing_10 rfl kb_12 ?_
  refine V.irem dX9_goDoing_12 rfl (by decide) ?_
  obtain ⟨v4, q3, hx⟩ := ob_some hx
  refine U.callS (As := [.ref (G.1 + a0), .int a1, .int v2, .int (jrem (hI h a0 (ix (13 : Int32))) (12 : Int32))]) (rest := []) (st' := [.int v4]) hE.1 (mX9_whoSees hE t0 q3) mic_X9_whoSees rfl wq_m_X9_137 wq_t_yX9_whoSees ⟨Nat.le_of_ble_eq_true rfl, Nat.le_of_ble_eq_true rfl⟩ (Nat.le_of_ble_eq_true rfl) dX9_goDoing_13 rfl rfl rfl ?_
  refine V.istore_n [(2, .int v4), (0, .ref (G.1 + a0)), (1, .int a1)] dX9_goDoing_16 rfl rfl (Nat.le_of_ble_eq_true rfl) rfl ?_
  refine V.iconst dX9_goDoing_17 rfl ki_0 ?_
  refine V.istore_n [(3, .int (0 : Int32)), (2, .int v4), (0, .ref (G.1 + a0)), (1, .int a1)] dX9_goDoing_18 rfl rfl (Nat.le_of_ble_eq_true rfl) rfl ?_
  refine V.pick [2, 1, 0] rfl ?_
  exact vX9_goDoing_19 hE FU a0 v4 (0 : Int32) h t0 hx
set_option maxRecDepth 100000 in
set_option maxHeartbeats 4000000 in
theorem mX9_does {l : Launch} {G : GG} {EX : State → Prop} (hE : EXB G EX) {th : Nat} {a1 : Int32} {h : AH} (t0 : KD th = 8) {r : Int32 × AH} (hx : fX9_does th a1 h = some r) : MetU l G EX mi_X9_does 8 191 [.ref (G.1 + th), .int a1] h (some (.int r.1)) r.2 := by
  refine MetU.of mic_X9_does.1 (Nat.le_of_ble_eq_true rfl) ?_
  refine show U l G EX mi_X9_does 8 191 (some (.int r.1)) r.2 0 [(0, .ref (G.1 + th)), (1, .int a1)] [] h from ?_
  unfold fX9_does at hx
  refine V.iload_n (j := 1) dX9_does_0 rfl rfl rfl ?_
  obtain ⟨v2, q1, hx⟩ := ob_some hx
  refine U.callS (As := [.int a1]) (rest := []) (st' := [.int v2]) hE.1 (mX9_isCell hE q1) mic_X9_isCell rfl wq_m_X9_74 wq_t_yX9_isCell ⟨Nat.le_of_ble_eq_true rfl, Nat.le_of_ble_eq_true rfl⟩ (Nat.le_of_ble_eq_true rfl) dX9_does_1 rfl rfl rfl ?_
  refine V.if_ne (tgt := 14) hx dX9_does_4 (by decide) rfl (fun hx => ?_) (fun hx => ?_)
  · refine V.aload_n (j := 0) dX9_does_14 rfl rfl rfl ?_
    obtain ⟨h4, q3, hx⟩ := ob_some hx
    refine U.callV (As := []) (rest := []) (st' := []) hE.1 (mX9_keep hE t0 q3) mic_X9_keep rfl t0 (by decide) rfl rfl wq_m_X9_140 wq_i_yX9_keep wq_s_yX9_keep ⟨Nat.le_of_ble_eq_true rfl, Nat.le_of_ble_eq_true rfl⟩ (Nat.le_of_ble_eq_true rfl) dX9_does_15 rfl rfl rfl ?_
    refine V.aload_n (j := 0) dX9_does_18 rfl rfl rfl ?_
    refine U.getP fl_X9_7 t0 dX9_does_19 rfl ?_
    refine V.iload_n (j := 1) dX9_does_22 rfl rfl rfl ?_
    obtain ⟨v7, h6, q5, hx⟩ := ob2_some hx
    refine U.callS (As := [.ref (G.1 + (PC th 0)), .int a1]) (rest := []) (st' := [.int v7]) hE.1 (mX9_goDoing hE (ty_X9_0 t0) q5) mic_X9_goDoing rfl wq_m_X9_143 wq_t_yX9_goDoing ⟨Nat.le_of_ble_eq_true rfl, Nat.le_of_ble_eq_true rfl⟩ (Nat.le_of_ble_eq_true rfl) dX9_does_23 rfl rfl rfl ?_
    obtain rfl := Option.some.inj hx
    exact U.retI rfl rfl rfl rfl dX9_does_26
  · refine V.aload_n (j := 0) dX9_does_7 rfl rfl rfl ?_
    refine V.bipush dX9_does_8 rfl kb_m2 ?_
    obtain ⟨v10, h9, q8, hx⟩ := ob2_some hx
    refine U.callV (As := [.int (-2 : Int32)]) (rest := []) (st' := [.int v10]) hE.1 (mX9_bad hE t0 q8) mic_X9_bad rfl t0 (by decide) rfl rfl wq_m_X9_78 wq_i_yX9_bad wq_s_yX9_bad ⟨Nat.le_of_ble_eq_true rfl, Nat.le_of_ble_eq_true rfl⟩ (Nat.le_of_ble_eq_true rfl) dX9_does_10 rfl rfl rfl ?_
    obtain rfl := Option.some.inj hx
    exact U.retI rfl rfl rfl rfl dX9_does_13
set_option maxRecDepth 100000 in
set_option maxHeartbeats 4000000 in
theorem vX9_goRest_27 {l : Launch} {G : GG} {EX : State → Prop} (hE : EXB G EX) {r : AH} : ∀ (s0 : Nat) (s1 : Int32) (s2 : Int32) (h : AH) (ts0 : KD s0 = 9), fX9_goRest_27 s0 s1 s2 h = some r → U l G EX mi_X9_goRest 0 0 none r 27 [] [.int s2, .int s1, .ref (G.1 + s0)] h := by
  intro s0 s1 s2 h ts0 hx
  unfold fX9_goRest_27 at hx
  refine U.iast hx ts0 dX9_goRest_27 rfl (fun h1 hx => ?_)
  obtain rfl := Option.some.inj hx
  exact U.ret0 rfl rfl rfl dX9_goRest_28
set_option maxRecDepth 100000 in
set_option maxHeartbeats 4000000 in
theorem mX9_goRest {l : Launch} {G : GG} {EX : State → Prop} (hE : EXB G EX) {a0 : Nat} {a1 : Int32} {h : AH} (t0 : KD a0 = 9) {r : AH} (hx : fX9_goRest a0 a1 h = some r) : MetU l G EX mi_X9_goRest 0 0 [.ref (G.1 + a0), .int a1] h none r := by
  refine MetU.of mic_X9_goRest.1 (Nat.le_of_ble_eq_true rfl) ?_
  refine show U l G EX mi_X9_goRest 0 0 none r 0 [(0, .ref (G.1 + a0)), (1, .int a1)] [] h from ?_
  unfold fX9_goRest at hx
  refine V.aload_n (j := 0) dX9_goRest_0 rfl rfl rfl ?_
  refine V.bipush dX9_goRest_1 rfl kb_13 ?_
  refine V.aload_n (j := 0) dX9_goRest_3 rfl rfl rfl ?_
  refine V.bipush dX9_goRest_4 rfl kb_13 ?_
  refine U.iald hx t0 dX9_goRest_6 rfl (fun hx => ?_)
  refine V.iload_n (j := 1) dX9_goRest_7 rfl rfl rfl ?_
  refine V.iadd dX9_goRest_8 rfl ?_
  refine V.sipush dX9_goRest_9 rfl ks_9999 ?_
  refine V.icmp_le (tgt := 21) hx dX9_goRest_12 (by decide) rfl (fun hx => ?_) (fun hx => ?_)
  · refine V.aload_n (j := 0) dX9_goRest_21 rfl rfl rfl ?_
    refine V.bipush dX9_goRest_22 rfl kb_13 ?_
    refine U.iald hx t0 dX9_goRest_24 rfl (fun hx => ?_)
    refine V.iload_n (j := 1) dX9_goRest_25 rfl rfl rfl ?_
    refine V.iadd dX9_goRest_26 rfl ?_
    refine V.pick [] rfl ?_
    exact vX9_goRest_27 hE a0 (13 : Int32) ((hI h a0 (ix (13 : Int32))) + a1) h t0 hx
  · refine V.sipush dX9_goRest_15 rfl ks_9999 ?_
    refine V.goto (q := 27) dX9_goRest_18 (by decide) ?_
    refine V.pick [] rfl ?_
    exact vX9_goRest_27 hE a0 (13 : Int32) (9999 : Int32) h t0 hx
set_option maxRecDepth 100000 in
set_option maxHeartbeats 4000000 in
theorem mX9_rest {l : Launch} {G : GG} {EX : State → Prop} (hE : EXB G EX) {th : Nat} {a1 : Int32} {h : AH} (t0 : KD th = 8) {r : Int32 × AH} (hx : fX9_rest th a1 h = some r) : MetU l G EX mi_X9_rest 1 25 [.ref (G.1 + th), .int a1] h (some (.int r.1)) r.2 := by
  refine MetU.of mic_X9_rest.1 (Nat.le_of_ble_eq_true rfl) ?_
  refine show U l G EX mi_X9_rest 1 25 (some (.int r.1)) r.2 0 [(0, .ref (G.1 + th)), (1, .int a1)] [] h from ?_
  unfold fX9_rest at hx
  refine V.iload_n (j := 1) dX9_rest_0 rfl rfl rfl ?_
  refine V.i2l dX9_rest_1 rfl ?_
  refine V.lconst dX9_rest_2 rfl kl_1 ?_
  refine V.ldc2_w dX9_rest_3 rfl wq_l_X9_147 ?_
  obtain ⟨v2, q1, hx⟩ := ob_some hx
  refine U.callS (As := [.long a1.toInt64, .long (1 : Int64), .long (99 : Int64)]) (rest := []) (st' := [.int v2]) hE.1 (mX9_in hE q1) mic_X9_in rfl wq_m_X9_59 wq_t_yX9_in ⟨Nat.le_of_ble_eq_true rfl, Nat.le_of_ble_eq_true rfl⟩ (Nat.le_of_ble_eq_true rfl) dX9_rest_6 rfl rfl rfl ?_
  refine V.if_ne (tgt := 19) hx dX9_rest_9 (by decide) rfl (fun hx => ?_) (fun hx => ?_)
  · refine V.aload_n (j := 0) dX9_rest_19 rfl rfl rfl ?_
    obtain ⟨h4, q3, hx⟩ := ob_some hx
    refine U.callV (As := []) (rest := []) (st' := []) hE.1 (mX9_keep hE t0 q3) mic_X9_keep rfl t0 (by decide) rfl rfl wq_m_X9_140 wq_i_yX9_keep wq_s_yX9_keep ⟨Nat.le_of_ble_eq_true rfl, Nat.le_of_ble_eq_true rfl⟩ (Nat.le_of_ble_eq_true rfl) dX9_rest_20 rfl rfl rfl ?_
    refine V.aload_n (j := 0) dX9_rest_23 rfl rfl rfl ?_
    refine U.getP fl_X9_7 t0 dX9_rest_24 rfl ?_
    refine V.iload_n (j := 1) dX9_rest_27 rfl rfl rfl ?_
    obtain ⟨h6, q5, hx⟩ := ob_some hx
    refine U.callS (As := [.ref (G.1 + (PC th 0)), .int a1]) (rest := []) (st' := []) hE.1 (mX9_goRest hE (ty_X9_0 t0) q5) mic_X9_goRest rfl wq_m_X9_149 wq_t_yX9_goRest ⟨Nat.le_of_ble_eq_true rfl, Nat.le_of_ble_eq_true rfl⟩ (Nat.le_of_ble_eq_true rfl) dX9_rest_28 rfl rfl rfl ?_
    refine V.aload_n (j := 0) dX9_rest_31 rfl rfl rfl ?_
    refine U.getP fl_X9_7 t0 dX9_rest_32 rfl ?_
    refine V.bipush dX9_rest_35 rfl kb_13 ?_
    refine U.iald hx (ty_X9_0 t0) dX9_rest_37 rfl (fun hx => ?_)
    obtain rfl := Option.some.inj hx
    exact U.retI rfl rfl rfl rfl dX9_rest_38
  · refine V.aload_n (j := 0) dX9_rest_12 rfl rfl rfl ?_
    refine V.bipush dX9_rest_13 rfl kb_m2 ?_
    obtain ⟨v9, h8, q7, hx⟩ := ob2_some hx
    refine U.callV (As := [.int (-2 : Int32)]) (rest := []) (st' := [.int v9]) hE.1 (mX9_bad hE t0 q7) mic_X9_bad rfl t0 (by decide) rfl rfl wq_m_X9_78 wq_i_yX9_bad wq_s_yX9_bad ⟨Nat.le_of_ble_eq_true rfl, Nat.le_of_ble_eq_true rfl⟩ (Nat.le_of_ble_eq_true rfl) dX9_rest_15 rfl rfl rfl ?_
    obtain rfl := Option.some.inj hx
    exact U.retI rfl rfl rfl rfl dX9_rest_18
set_option maxRecDepth 100000 in
set_option maxHeartbeats 4000000 in
theorem mX9_put {l : Launch} {G : GG} {EX : State → Prop} (hE : EXB G EX) {th : Nat} {a1 : Int32} {a2 : Int32} {h : AH} (t0 : KD th = 8) {r : Int32 × AH} (hx : fX9_put th a1 a2 h = some r) : MetU l G EX mi_X9_put 1 21 [.ref (G.1 + th), .int a1, .int a2] h (some (.int r.1)) r.2 := by
  refine MetU.of mic_X9_put.1 (Nat.le_of_ble_eq_true rfl) ?_
  refine show U l G EX mi_X9_put 1 21 (some (.int r.1)) r.2 0 [(0, .ref (G.1 + th)), (1, .int a1), (2, .int a2)] [] h from ?_
  unfold fX9_put at hx
  refine V.aload_n (j := 0) dX9_put_0 rfl rfl rfl ?_
  refine U.getP fl_X9_7 t0 dX9_put_1 rfl ?_
  refine V.iload_n (j := 1) dX9_put_4 rfl rfl rfl ?_
  refine U.iald hx (ty_X9_0 t0) dX9_put_5 rfl (fun hx => ?_)
  refine U.letI hx (fun v1 hx => ?_)
  refine V.istore_n [(3, .int v1), (0, .ref (G.1 + th)), (1, .int a1), (2, .int a2)] dX9_put_6 rfl rfl (Nat.le_of_ble_eq_true rfl) rfl ?_
  refine V.aload_n (j := 1) dX9_put_7 rfl rfl rfl ?_
  obtain ⟨h3, q2, hx⟩ := ob_some hx
  refine U.callV (As := []) (rest := []) (st' := []) hE.1 (mX9_keep hE t0 q2) mic_X9_keep rfl t0 (by decide) rfl rfl wq_m_X9_140 wq_i_yX9_keep wq_s_yX9_keep ⟨Nat.le_of_ble_eq_true rfl, Nat.le_of_ble_eq_true rfl⟩ (Nat.le_of_ble_eq_true rfl) dX9_put_8 rfl rfl rfl ?_
  refine V.aload_n (j := 1) dX9_put_11 rfl rfl rfl ?_
  refine U.getP fl_X9_7 t0 dX9_put_12 rfl ?_
  refine V.iload_n (j := 2) dX9_put_15 rfl rfl rfl ?_
  refine V.iload_n (j := 3) dX9_put_16 rfl rfl rfl ?_
  refine U.iast hx (ty_X9_0 t0) dX9_put_17 rfl (fun h4 hx => ?_)
  refine V.iload_n (j := 0) dX9_put_18 rfl rfl rfl ?_
  obtain rfl := Option.some.inj hx
  exact U.retI rfl rfl rfl rfl dX9_put_19
set_option maxRecDepth 100000 in
set_option maxHeartbeats 4000000 in
theorem vX9_moves_27 {l : Launch} {G : GG} {EX : State → Prop} (hE : EXB G EX) {r : Int32 × AH} : ∀ (l0 : Nat) (h : AH) (t0 : KD l0 = 8), fX9_moves_27 l0 h = some r → U l G EX mi_X9_moves 2 46 (some (.int r.1)) r.2 27 [(0, .ref (G.1 + l0))] [] h := by
  intro l0 h t0 hx
  unfold fX9_moves_27 at hx
  refine V.aload_n (j := 0) dX9_moves_27 rfl rfl rfl ?_
  refine V.bipush dX9_moves_28 rfl kb_m2 ?_
  obtain ⟨v5, h4, q3, hx⟩ := ob2_some hx
  refine U.callV (As := [.int (-2 : Int32)]) (rest := []) (st' := [.int v5]) hE.1 (mX9_bad hE t0 q3) mic_X9_bad rfl t0 (by decide) rfl rfl wq_m_X9_78 wq_i_yX9_bad wq_s_yX9_bad ⟨Nat.le_of_ble_eq_true rfl, Nat.le_of_ble_eq_true rfl⟩ (Nat.le_of_ble_eq_true rfl) dX9_moves_30 rfl rfl rfl ?_
  obtain rfl := Option.some.inj hx
  exact U.retI rfl rfl rfl rfl dX9_moves_33
set_option maxRecDepth 100000 in
set_option maxHeartbeats 4000000 in
theorem mX9_moves {l : Launch} {G : GG} {EX : State → Prop} (hE : EXB G EX) {th : Nat} {a1 : Int32} {a2 : Int32} {h : AH} (t0 : KD th = 8) {r : Int32 × AH} (hx : fX9_moves th a1 a2 h = some r) : MetU l G EX mi_X9_moves 2 46 [.ref (G.1 + th), .int a1, .int a2] h (some (.int r.1)) r.2 := by
  refine MetU.of mic_X9_moves.1 (Nat.le_of_ble_eq_true rfl) ?_
  refine show U l G EX mi_X9_moves 2 46 (some (.int r.1)) r.2 0 [(0, .ref (G.1 + th)), (1, .int a1), (2, .int a2)] [] h from ?_
  unfold fX9_moves at hx
  refine V.aload_n (j := 0) dX9_moves_0 rfl rfl rfl ?_
  refine V.iload_n (j := 1) dX9_moves_1 rfl rfl rfl ?_
  obtain ⟨v2, q1, hx⟩ := ob_some hx
  refine U.callV (As := [.int a1]) (rest := []) (st' := [.int v2]) hE.1 (mX9_isShow hE t0 q1) mic_X9_isShow rfl t0 (by decide) rfl rfl wq_m_X9_153 wq_i_yX9_isShow wq_s_yX9_isShow ⟨Nat.le_of_ble_eq_true rfl, Nat.le_of_ble_eq_true rfl⟩ (Nat.le_of_ble_eq_true rfl) dX9_moves_2 rfl rfl rfl ?_
  refine V.if_eq (tgt := 27) hx dX9_moves_5 (by decide) rfl (fun hx => ?_) (fun hx => ?_)
  · refine V.pick [0] rfl ?_
    exact vX9_moves_27 hE th h t0 hx
  · refine V.iload_n (j := 2) dX9_moves_8 rfl rfl rfl ?_
    obtain ⟨v7, q6, hx⟩ := ob_some hx
    refine U.callS (As := [.int a2]) (rest := []) (st' := [.int v7]) hE.1 (mX9_isCell hE q6) mic_X9_isCell rfl wq_m_X9_74 wq_t_yX9_isCell ⟨Nat.le_of_ble_eq_true rfl, Nat.le_of_ble_eq_true rfl⟩ (Nat.le_of_ble_eq_true rfl) dX9_moves_9 rfl rfl rfl ?_
    refine V.if_eq (tgt := 27) hx dX9_moves_12 (by decide) rfl (fun hx => ?_) (fun hx => ?_)
    · refine V.pick [0] rfl ?_
      exact vX9_moves_27 hE th h t0 hx
    · refine V.aload_n (j := 0) dX9_moves_15 rfl rfl rfl ?_
      refine V.bipush dX9_moves_16 rfl kb_14 ?_
      refine V.iload_n (j := 1) dX9_moves_18 rfl rfl rfl ?_
      refine V.iadd dX9_moves_19 rfl ?_
      refine V.iload_n (j := 2) dX9_moves_20 rfl rfl rfl ?_
      obtain ⟨v10, h9, q8, hx⟩ := ob2_some hx
      refine U.callV (As := [.int ((14 : Int32) + a1), .int a2]) (rest := []) (st' := [.int v10]) hE.1 (mX9_put hE t0 q8) mic_X9_put rfl t0 (by decide) rfl rfl wq_m_X9_156 wq_i_yX9_put wq_s_yX9_put ⟨Nat.le_of_ble_eq_true rfl, Nat.le_of_ble_eq_true rfl⟩ (Nat.le_of_ble_eq_true rfl) dX9_moves_21 rfl rfl rfl ?_
      refine V.goto (q := 33) dX9_moves_24 (by decide) ?_
      obtain rfl := Option.some.inj hx
      exact U.retI rfl rfl rfl rfl dX9_moves_33
set_option maxRecDepth 100000 in
set_option maxHeartbeats 4000000 in
theorem vX9_turns_30 {l : Launch} {G : GG} {EX : State → Prop} (hE : EXB G EX) {r : Int32 × AH} : ∀ (l0 : Nat) (h : AH) (t0 : KD l0 = 8), fX9_turns_30 l0 h = some r → U l G EX mi_X9_turns 2 46 (some (.int r.1)) r.2 30 [(0, .ref (G.1 + l0))] [] h := by
  intro l0 h t0 hx
  unfold fX9_turns_30 at hx
  refine V.aload_n (j := 0) dX9_turns_30 rfl rfl rfl ?_
  refine V.bipush dX9_turns_31 rfl kb_m2 ?_
  obtain ⟨v5, h4, q3, hx⟩ := ob2_some hx
  refine U.callV (As := [.int (-2 : Int32)]) (rest := []) (st' := [.int v5]) hE.1 (mX9_bad hE t0 q3) mic_X9_bad rfl t0 (by decide) rfl rfl wq_m_X9_78 wq_i_yX9_bad wq_s_yX9_bad ⟨Nat.le_of_ble_eq_true rfl, Nat.le_of_ble_eq_true rfl⟩ (Nat.le_of_ble_eq_true rfl) dX9_turns_33 rfl rfl rfl ?_
  obtain rfl := Option.some.inj hx
  exact U.retI rfl rfl rfl rfl dX9_turns_36
set_option maxRecDepth 100000 in
set_option maxHeartbeats 4000000 in
theorem mX9_turns {l : Launch} {G : GG} {EX : State → Prop} (hE : EXB G EX) {th : Nat} {a1 : Int32} {a2 : Int32} {h : AH} (t0 : KD th = 8) {r : Int32 × AH} (hx : fX9_turns th a1 a2 h = some r) : MetU l G EX mi_X9_turns 2 46 [.ref (G.1 + th), .int a1, .int a2] h (some (.int r.1)) r.2 := by
  refine MetU.of mic_X9_turns.1 (Nat.le_of_ble_eq_true rfl) ?_
  refine show U l G EX mi_X9_turns 2 46 (some (.int r.1)) r.2 0 [(0, .ref (G.1 + th)), (1, .int a1), (2, .int a2)] [] h from ?_
  unfold fX9_turns at hx
  refine V.aload_n (j := 0) dX9_turns_0 rfl rfl rfl ?_
  refine V.iload_n (j := 1) dX9_turns_1 rfl rfl rfl ?_
  obtain ⟨v2, q1, hx⟩ := ob_some hx
  refine U.callV (As := [.int a1]) (rest := []) (st' := [.int v2]) hE.1 (mX9_isShow hE t0 q1) mic_X9_isShow rfl t0 (by decide) rfl rfl wq_m_X9_153 wq_i_yX9_isShow wq_s_yX9_isShow ⟨Nat.le_of_ble_eq_true rfl, Nat.le_of_ble_eq_true rfl⟩ (Nat.le_of_ble_eq_true rfl) dX9_turns_2 rfl rfl rfl ?_
  refine V.if_eq (tgt := 30) hx dX9_turns_5 (by decide) rfl (fun hx => ?_) (fun hx => ?_)
  · refine V.pick [0] rfl ?_
    exact vX9_turns_30 hE th h t0 hx
  · refine V.iload_n (j := 2) dX9_turns_8 rfl rfl rfl ?_
    refine V.i2l dX9_turns_9 rfl ?_
    refine V.lconst dX9_turns_10 rfl kl_0 ?_
    refine V.lconst dX9_turns_11 rfl kl_1 ?_
    obtain ⟨v7, q6, hx⟩ := ob_some hx
    refine U.callS (As := [.long a2.toInt64, .long (0 : Int64), .long (1 : Int64)]) (rest := []) (st' := [.int v7]) hE.1 (mX9_in hE q6) mic_X9_in rfl wq_m_X9_59 wq_t_yX9_in ⟨Nat.le_of_ble_eq_true rfl, Nat.le_of_ble_eq_true rfl⟩ (Nat.le_of_ble_eq_true rfl) dX9_turns_12 rfl rfl rfl ?_
    refine V.if_eq (tgt := 30) hx dX9_turns_15 (by decide) rfl (fun hx => ?_) (fun hx => ?_)
    · refine V.pick [0] rfl ?_
      exact vX9_turns_30 hE th h t0 hx
    · refine V.aload_n (j := 0) dX9_turns_18 rfl rfl rfl ?_
      refine V.bipush dX9_turns_19 rfl kb_25 ?_
      refine V.iload_n (j := 1) dX9_turns_21 rfl rfl rfl ?_
      refine V.iadd dX9_turns_22 rfl ?_
      refine V.iload_n (j := 2) dX9_turns_23 rfl rfl rfl ?_
      obtain ⟨v10, h9, q8, hx⟩ := ob2_some hx
      refine U.callV (As := [.int ((25 : Int32) + a1), .int a2]) (rest := []) (st' := [.int v10]) hE.1 (mX9_put hE t0 q8) mic_X9_put rfl t0 (by decide) rfl rfl wq_m_X9_156 wq_i_yX9_put wq_s_yX9_put ⟨Nat.le_of_ble_eq_true rfl, Nat.le_of_ble_eq_true rfl⟩ (Nat.le_of_ble_eq_true rfl) dX9_turns_24 rfl rfl rfl ?_
      refine V.goto (q := 36) dX9_turns_27 (by decide) ?_
      obtain rfl := Option.some.inj hx
      exact U.retI rfl rfl rfl rfl dX9_turns_36
set_option maxRecDepth 100000 in
set_option maxHeartbeats 4000000 in
theorem vX9_sends_27 {l : Launch} {G : GG} {EX : State → Prop} (hE : EXB G EX) {r : Int32 × AH} : ∀ (l0 : Nat) (h : AH) (t0 : KD l0 = 8), fX9_sends_27 l0 h = some r → U l G EX mi_X9_sends 2 46 (some (.int r.1)) r.2 27 [(0, .ref (G.1 + l0))] [] h := by
  intro l0 h t0 hx
  unfold fX9_sends_27 at hx
  refine V.aload_n (j := 0) dX9_sends_27 rfl rfl rfl ?_
  refine V.bipush dX9_sends_28 rfl kb_m2 ?_
  obtain ⟨v5, h4, q3, hx⟩ := ob2_some hx
  refine U.callV (As := [.int (-2 : Int32)]) (rest := []) (st' := [.int v5]) hE.1 (mX9_bad hE t0 q3) mic_X9_bad rfl t0 (by decide) rfl rfl wq_m_X9_78 wq_i_yX9_bad wq_s_yX9_bad ⟨Nat.le_of_ble_eq_true rfl, Nat.le_of_ble_eq_true rfl⟩ (Nat.le_of_ble_eq_true rfl) dX9_sends_30 rfl rfl rfl ?_
  obtain rfl := Option.some.inj hx
  exact U.retI rfl rfl rfl rfl dX9_sends_33
set_option maxRecDepth 100000 in
set_option maxHeartbeats 4000000 in
theorem mX9_sends {l : Launch} {G : GG} {EX : State → Prop} (hE : EXB G EX) {th : Nat} {a1 : Int32} {a2 : Int32} {h : AH} (t0 : KD th = 8) {r : Int32 × AH} (hx : fX9_sends th a1 a2 h = some r) : MetU l G EX mi_X9_sends 2 46 [.ref (G.1 + th), .int a1, .int a2] h (some (.int r.1)) r.2 := by
  refine MetU.of mic_X9_sends.1 (Nat.le_of_ble_eq_true rfl) ?_
  refine show U l G EX mi_X9_sends 2 46 (some (.int r.1)) r.2 0 [(0, .ref (G.1 + th)), (1, .int a1), (2, .int a2)] [] h from ?_
  unfold fX9_sends at hx
  refine V.aload_n (j := 0) dX9_sends_0 rfl rfl rfl ?_
  refine V.iload_n (j := 1) dX9_sends_1 rfl rfl rfl ?_
  obtain ⟨v2, q1, hx⟩ := ob_some hx
  refine U.callV (As := [.int a1]) (rest := []) (st' := [.int v2]) hE.1 (mX9_isWatcher hE t0 q1) mic_X9_isWatcher rfl t0 (by decide) rfl rfl wq_m_X9_159 wq_i_yX9_isWatcher wq_s_yX9_isWatcher ⟨Nat.le_of_ble_eq_true rfl, Nat.le_of_ble_eq_true rfl⟩ (Nat.le_of_ble_eq_true rfl) dX9_sends_2 rfl rfl rfl ?_
  refine V.if_eq (tgt := 27) hx dX9_sends_5 (by decide) rfl (fun hx => ?_) (fun hx => ?_)
  · refine V.pick [0] rfl ?_
    exact vX9_sends_27 hE th h t0 hx
  · refine V.iload_n (j := 2) dX9_sends_8 rfl rfl rfl ?_
    obtain ⟨v7, q6, hx⟩ := ob_some hx
    refine U.callS (As := [.int a2]) (rest := []) (st' := [.int v7]) hE.1 (mX9_isCell hE q6) mic_X9_isCell rfl wq_m_X9_74 wq_t_yX9_isCell ⟨Nat.le_of_ble_eq_true rfl, Nat.le_of_ble_eq_true rfl⟩ (Nat.le_of_ble_eq_true rfl) dX9_sends_9 rfl rfl rfl ?_
    refine V.if_eq (tgt := 27) hx dX9_sends_12 (by decide) rfl (fun hx => ?_) (fun hx => ?_)
    · refine V.pick [0] rfl ?_
      exact vX9_sends_27 hE th h t0 hx
    · refine V.aload_n (j := 0) dX9_sends_15 rfl rfl rfl ?_
      refine V.bipush dX9_sends_16 rfl kb_19 ?_
      refine V.iload_n (j := 1) dX9_sends_18 rfl rfl rfl ?_
      refine V.iadd dX9_sends_19 rfl ?_
      refine V.iload_n (j := 2) dX9_sends_20 rfl rfl rfl ?_
      obtain ⟨v10, h9, q8, hx⟩ := ob2_some hx
      refine U.callV (As := [.int ((19 : Int32) + a1), .int a2]) (rest := []) (st' := [.int v10]) hE.1 (mX9_put hE t0 q8) mic_X9_put rfl t0 (by decide) rfl rfl wq_m_X9_156 wq_i_yX9_put wq_s_yX9_put ⟨Nat.le_of_ble_eq_true rfl, Nat.le_of_ble_eq_true rfl⟩ (Nat.le_of_ble_eq_true rfl) dX9_sends_21 rfl rfl rfl ?_
      refine V.goto (q := 33) dX9_sends_24 (by decide) ?_
      obtain rfl := Option.some.inj hx
      exact U.retI rfl rfl rfl rfl dX9_sends_33
set_option maxRecDepth 100000 in
set_option maxHeartbeats 4000000 in
theorem vX9_undo_66 {l : Launch} {G : GG} {EX : State → Prop} (hE : EXB G EX) {r : Int32 × AH} : ∀ (l0 : Nat) (h : AH) (t0 : KD l0 = 8), fX9_undo_66 l0 h = some r → U l G EX mi_X9_undo 1 20 (some (.int r.1)) r.2 66 [(0, .ref (G.1 + l0))] [] h := by
  intro l0 h t0 hx
  unfold fX9_undo_66 at hx
  refine V.aload_n (j := 0) dX9_undo_66 rfl rfl rfl ?_
  refine U.getP fl_X9_7 t0 dX9_undo_67 rfl ?_
  refine V.bipush dX9_undo_70 rfl kb_13 ?_
  refine U.iald hx (ty_X9_0 t0) dX9_undo_72 rfl (fun hx => ?_)
  obtain rfl := Option.some.inj hx
  exact U.retI rfl rfl rfl rfl dX9_undo_73
set_option maxRecDepth 100000 in
set_option maxHeartbeats 4000000 in
theorem vX9_undo_26 {l : Launch} {G : GG} {EX : State → Prop} (hE : EXB G EX) {r : Int32 × AH} : ∀ (n : Nat) (l0 : Nat) (l1 : Int32) (h : AH) (t0 : KD l0 = 8), fX9_undo_26 n l0 l1 h = some r → U l G EX mi_X9_undo 1 20 (some (.int r.1)) r.2 26 [(0, .ref (G.1 + l0)), (1, .int l1)] [] h := by
  intro n
  induction n with
  | zero =>
    intro l0 l1 h t0 hx
    have hx : none = some r := hx
    cases hx
  | succ n ih =>
    intro l0 l1 h t0 hx
    rw [fX9_undo_26] at hx
    refine V.iload_n (j := 1) dX9_undo_26 rfl rfl rfl ?_
    refine V.bipush dX9_undo_27 rfl kb_24 ?_
    refine V.icmp_ge (tgt := 66) hx dX9_undo_29 (by decide) rfl (fun hx => ?_) (fun hx => ?_)
    · refine V.pick [0] rfl ?_
      exact vX9_undo_66 hE l0 h t0 hx
    · refine V.aload_n (j := 0) dX9_undo_32 rfl rfl rfl ?_
      refine U.getP fl_X9_7 t0 dX9_undo_33 rfl ?_
      refine V.bipush dX9_undo_36 rfl kb_6 ?_
      refine V.iload_n (j := 1) dX9_undo_38 rfl rfl rfl ?_
      refine V.iadd dX9_undo_39 rfl ?_
      refine V.aload_n (j := 0) dX9_undo_40 rfl rfl rfl ?_
      refine U.getP fl_X9_7 t0 dX9_undo_41 rfl ?_
      refine V.bipush dX9_undo_44 rfl kb_112 ?_
      refine V.bipush dX9_undo_46 rfl kb_24 ?_
      refine V.aload_n (j := 0) dX9_undo_48 rfl rfl rfl ?_
      refine U.getP fl_X9_7 t0 dX9_undo_49 rfl ?_
      refine V.iconst dX9_undo_52 rfl ki_5 ?_
      refine U.iald hx (ty_X9_0 t0) dX9_undo_53 rfl (fun hx => ?_)
      refine V.imul dX9_undo_54 rfl ?_
      refine V.iadd dX9_undo_55 rfl ?_
      refine V.iload_n (j := 1) dX9_undo_56 rfl rfl rfl ?_
      refine V.iadd dX9_undo_57 rfl ?_
      refine U.iald hx (ty_X9_0 t0) dX9_undo_58 rfl (fun hx => ?_)
      refine U.iast hx (ty_X9_0 t0) dX9_undo_59 rfl (fun h2 hx => ?_)
      refine U.iinc hx (fun v3 => [(1, .int v3), (0, .ref (G.1 + l0))]) (j := 1) rfl (by decide) (Nat.le_of_ble_eq_true rfl) (fun _ => rfl) dX9_undo_60 rfl (fun v3 hx => ?_)
      refine V.goto (q := 26) dX9_undo_63 (by decide) ?_
      refine V.pick [1, 0] rfl ?_
      exact ih l0 v3 h2 t0 hx
set_option maxRecDepth 100000 in
set_option maxHeartbeats 4000000 in
theorem mX9_undo {l : Launch} {G : GG} {EX : State → Prop} (hE : EXB G EX) {th : Nat} {h : AH} (t0 : KD th = 8) {r : Int32 × AH} (hx : fX9_undo th h = some r) : MetU l G EX mi_X9_undo 1 20 [.ref (G.1 + th)] h (some (.int r.1)) r.2 := by
  refine MetU.of mic_X9_undo.1 (Nat.le_of_ble_eq_true rfl) ?_
  refine show U l G EX mi_X9_undo 1 20 (some (.int r.1)) r.2 0 [(0, .ref (G.1 + th))] [] h from ?_
  unfold fX9_undo at hx
  refine V.aload_n (j := 0) dX9_undo_0 rfl rfl rfl ?_
  refine U.getP fl_X9_7 t0 dX9_undo_1 rfl ?_
  refine V.iconst dX9_undo_4 rfl ki_5 ?_
  refine U.iald hx (ty_X9_0 t0) dX9_undo_5 rfl (fun hx => ?_)
  refine V.if_ne (tgt := 14) hx dX9_undo_6 (by decide) rfl (fun hx => ?_) (fun hx => ?_)
  · refine V.aload_n (j := 0) dX9_undo_14 rfl rfl rfl ?_
    refine U.getP fl_X9_7 t0 dX9_undo_15 rfl ?_
    refine V.iconst dX9_undo_18 rfl ki_5 ?_
    refine V.dup2 dX9_undo_19 rfl rfl rfl ?_
    refine U.iald hx (ty_X9_0 t0) dX9_undo_20 rfl (fun hx => ?_)
    refine V.iconst dX9_undo_21 rfl ki_1 ?_
    refine V.isub dX9_undo_22 rfl ?_
    refine U.iast hx (ty_X9_0 t0) dX9_undo_23 rfl (fun h1 hx => ?_)
    refine V.iconst dX9_undo_24 rfl ki_0 ?_
    refine V.istore_n [(1, .int (0 : Int32)), (0, .ref (G.1 + th))] dX9_undo_25 rfl rfl (Nat.le_of_ble_eq_true rfl) rfl ?_
    refine V.pick [1, 0] rfl ?_
    exact vX9_undo_26 hE FU th (0 : Int32) h1 t0 hx
  · refine V.aload_n (j := 0) dX9_undo_9 rfl rfl rfl ?_
    obtain ⟨v6, h5, q4, hx⟩ := ob2_some hx
    refine U.callV (As := []) (rest := []) (st' := [.int v6]) hE.1 (mX9_no hE t0 q4) mic_X9_no rfl t0 (by decide) rfl rfl wq_m_X9_162 wq_i_yX9_no wq_s_yX9_no ⟨Nat.le_of_ble_eq_true rfl, Nat.le_of_ble_eq_true rfl⟩ (Nat.le_of_ble_eq_true rfl) dX9_undo_10 rfl rfl rfl ?_
    obtain rfl := Option.some.inj hx
    exact U.retI rfl rfl rfl rfl dX9_undo_13
