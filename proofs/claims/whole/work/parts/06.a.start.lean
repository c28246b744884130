/-! FROM THE LAW'S ENTRY: what the start gives, the two constructors, the loop -/
theorem isRef_cases {args : Array Value} {s : State} {t : Term} (h : (Cond.isRef t).before args s = true) : ∃ fm : Option Nat, t.eval args s none [] s = some (va_rf fm) := by
  cases hv : t.eval args s none [] s with
  | none => simp [Cond.before, Cond.holds, Cond.value, hv] at h
  | some w =>
    cases w with
    | null => exact ⟨none, rfl⟩
    | ref a => exact ⟨some a, rfl⟩
    | _ => simp [Cond.before, Cond.holds, Cond.value, hv] at h
abbrev gvn : List Cond := flatC (Jvm.Cond.and given_1 narrow_1)
abbrev tmS (i : Nat) : Term := Term.string RX5 (STRI.getD i 0)
abbrev tmV (i : Nat) : Term := Term.field (tmS i) "java/lang/String" "value" "[B"
theorem gv_ex : ∀ i, i < 6 → Cond.exactly (tmS i) "java/lang/String" ∈ gvn := by decide +kernel
theorem gv_co : ∀ i, i < 6 → Cond.eq (.field (tmS i) "java/lang/String" "coder" "B") (.int 0) ∈ gvn := by decide +kernel
theorem gv_ar : ∀ i, i < 6 → Cond.arrayOf (tmV i) .byte ∈ gvn := by decide +kernel
theorem gv_le : ∀ i, i < 6 → Cond.eq (.length (tmV i)) (.int (Int32.ofNat (STRN.getD i 0))) ∈ gvn := by decide +kernel
theorem gv_el : ∀ i, i < 6 → ∀ j, j < STRN.getD i 0 → Cond.eq (.elem (tmV i) (.int (Int32.ofNat j))) (.int ((STRB.getD i []).getD j 0)) ∈ gvn := by decide +kernel
theorem gv_ne : ∀ i, i < 6 → ∀ j, j < 6 → i ≠ j → Cond.not (Cond.eq (tmS i) (tmS j)) ∈ gvn ∨ Cond.not (Cond.eq (tmS j) (tmS i)) ∈ gvn := by decide +kernel
theorem gv_cs : Cond.eq (.static "java/lang/String" "COMPACT_STRINGS" "Z") (.int 1) ∈ gvn := by decide +kernel
theorem gv_fm : Cond.isRef (.static "jdk/internal/util/Preconditions" "SIOOBE_FORMATTER" "Ljava/util/function/BiFunction;") ∈ gvn := by decide +kernel
theorem ls_cs : Cond.laysStatic "java/lang/String" "COMPACT_STRINGS" "Z" ∈ lw_tbl := wt2 104 (by decide +kernel)
theorem ls_fm : Cond.laysStatic "jdk/internal/util/Preconditions" "SIOOBE_FORMATTER" "Ljava/util/function/BiFunction;" ∈ lw_tbl := wt2 120 (by decide +kernel)
theorem sr_0 : Cond.stringRef RX5 117 "land" ∈ lw_tbl := wt2 90 (by decide +kernel)
theorem sr_1 : Cond.stringRef RX5 123 "show" ∈ lw_tbl := wt2 143 (by decide +kernel)
theorem sr_2 : Cond.stringRef RX5 125 "off" ∈ lw_tbl := wt2 144 (by decide +kernel)
theorem sr_3 : Cond.stringRef RX5 127 "watcher" ∈ lw_tbl := wt2 145 (by decide +kernel)
theorem sr_4 : Cond.stringRef RX5 129 "do" ∈ lw_tbl := wt2 146 (by decide +kernel)
theorem sr_5 : Cond.stringRef RX5 131 "rest" ∈ lw_tbl := wt2 147 (by decide +kernel)
theorem sr_all : ∀ i, i < 6 → Cond.stringRef RX5 (STRI.getD i 0) (STRT.getD i "") ∈ lw_tbl := by
  intro i hi
  match i, hi with
  | 0, _ => exact sr_0
  | 1, _ => exact sr_1
  | 2, _ => exact sr_2
  | 3, _ => exact sr_3
  | 4, _ => exact sr_4
  | 5, _ => exact sr_5
  | i + 6, hi => exact absurd hi (by omega)
theorem arr_id {args : Array Value} {s : State} {ty : FieldType} (h : (Cond.arrayClass ty).before args s = true) (hp : ∀ C, ty ≠ .object C) : ∃ cA : ClassId, ArrOfT s cA ty ∧ va_RA s cA ty := by
  obtain ⟨c, k, comp, h1, h2, h3⟩ := Cond.arrayClass_spec h
  refine ⟨c, fun n z => ⟨fun k h => (by cases h), k, h2, comp, h3⟩, ?_⟩
  cases ty with
  | object C => exact absurd rfl (hp C)
  | _ => exact h1
theorem arr_idq {args : Array Value} {s : State} {C : String} (h : (Cond.arrayOver (.object C)).before args s = true) : ∃ cA : ClassId, ArrOfT s cA (.object C) ∧ va_RA s cA (.object C) := by
  obtain ⟨comp, c, k, h1, h2, h3, h4, h5⟩ := Cond.arrayOver_spec h
  exact ⟨c, fun n z => ⟨fun k h => (by cases h), k, h3, comp, h4⟩, k, comp, h3, h4, h1, h5⟩
set_option maxRecDepth 100000 in
set_option maxHeartbeats 4000000 in
theorem law_V {l : Launch} {G : GG} {adV : Nat → Nat} {fm : Option Nat} {b L : Nat} {xs : Nat → Int32} {R : AH → Prop} (ops : OPS R) (hb0 : ∃ hb, fX9_begin 263 h0 = some hb ∧ R hb) (hL : L ≤ 384) : V l G (EXL G adV fm b L xs) mi_L ⟨13, 600000, 7302250, 508⟩ (FL G b) 0 0 0 [(0, .ref b)] [] FZ := by
  obtain ⟨hb, hbg, hRb⟩ := hb0
  have hF0 : Fre FZ := fun _ _ _ => ⟨rfl, rfl, rfl⟩
  refine K.newc hF0 (x := 0) rfl cl_X8 rfl (by decide) (by decide +kernel) dv_X8 wq_x_L_7 wq_a_RX8 wq_n_RX8 (Nat.le_of_ble_eq_true rfl) (Nat.le_of_ble_eq_true rfl) dL_law_0 rfl ?_
  refine V.dup dL_law_3 rfl rfl ?_
  refine V.callI (As := []) (rest := [.ref (G.1 + 0)]) EXL.ok mic_X8_init rfl rfl rfl (mX8_init EXL.b (o := 0) (by decide +kernel) (Fre_nC hF0) rfl) wq_m_L_9 wq_i_yX8_init ⟨Nat.le_of_ble_eq_true rfl, Nat.le_of_ble_eq_true rfl⟩ (Nat.le_of_ble_eq_true rfl) ⟨Nat.le_of_ble_eq_true rfl, Nat.le_of_ble_eq_true rfl⟩ dL_law_4 rfl rfl ?_
  rintro _ _ ⟨rfl, rfl⟩
  refine V.astore_n [(1, .ref (G.1 + 0)), (0, .ref b)] dL_law_7 rfl rfl (Nat.le_of_ble_eq_true rfl) rfl ?_
  refine K.newc (Fre_kX8 (Fre_nC hF0) rfl) (x := 262) (by decide +kernel) cl_X9 rfl (by decide) (by decide +kernel) dv_X9 wq_x_L_10 wq_a_RX9 wq_n_RX9 (Nat.le_of_ble_eq_true rfl) (Nat.le_of_ble_eq_true rfl) dL_law_8 rfl ?_
  refine V.dup dL_law_11 rfl rfl ?_
  refine V.callI (As := []) (rest := [.ref (G.1 + 262)]) EXL.ok mic_X9_init rfl rfl rfl (mX9_init EXL.b hbg) wq_m_L_12 wq_i_yX9_init ⟨Nat.le_of_ble_eq_true rfl, Nat.le_of_ble_eq_true rfl⟩ (Nat.le_of_ble_eq_true rfl) ⟨Nat.le_of_ble_eq_true rfl, Nat.le_of_ble_eq_true rfl⟩ dL_law_12 rfl rfl ?_
  rintro _ _ ⟨rfl, rfl⟩
  refine V.astore_n [(2, .ref (G.1 + 262)), (1, .ref (G.1 + 0)), (0, .ref b)] dL_law_15 rfl rfl (Nat.le_of_ble_eq_true rfl) rfl ?_
  refine V.iconst dL_law_16 rfl ki_0 ?_
  refine V.istore_n [(3, .int 0), (2, .ref (G.1 + 262)), (1, .ref (G.1 + 0)), (0, .ref b)] dL_law_17 rfl rfl (Nat.le_of_ble_eq_true rfl) rfl ?_
  refine V.pick [3, 2, 1, 0] rfl ?_
  have h := law_loop (l := l) (G := G) (adV := adV) (fm := fm) (b := b) (xs := xs) ops hL 401 0 hb (by omega) (by omega) hRb
  rw [nI_0] at h
  exact h
set_option maxRecDepth 100000 in
set_option maxHeartbeats 4000000 in
theorem whole_start_of {R : AH → Prop} (ops : OPS R) (hb0 : ∃ hb, fX9_begin 263 h0 = some hb ∧ R hb) {p : Program} {e : Env} {s : State} {m : MethodId} {below : List Frame} {meth : Method} {c : Code} (l : Launch) {b L : Nat} {xs : Nat → Int32} (hL : L ≤ 384) (C0 : lw_At p s m meth c b L xs) : W p l e room_1 s m #[Value.ref b] below meth c s.heap [] 0 0 (lw_Z below #[Value.ref b] s) (entryFrame m ([Value.ref b] : List Value).toArray 4) := by
  obtain ⟨hx, hb, hr, hml, hown, hts, hX, hbl, hlocks, hgv⟩ := C0
  have hWS : ∀ w ∈ WS, w.before #[Value.ref b] s = true := fun w hw => hts w (WS_in hw)
  have hfl : ∀ w ∈ gvn, w.before #[Value.ref b] s = true := flat_of_before _ hgv
  obtain ⟨c0, i0, k0⟩ := u_known (C := RX0) (T := TX0) (N := 5) (n := 5) hWS wq_u_X0 (hWS _ wq_a_RX0)
  obtain ⟨c1, i1, k1⟩ := u_known (C := RX2) (T := TX2) (N := 11) (n := 11) hWS wq_u_X2 (hWS _ wq_a_RX2)
  obtain ⟨c2, i2, k2⟩ := u_known (C := RX3) (T := TX3) (N := 2) (n := 2) hWS wq_u_X3 (hWS _ wq_a_RX3)
  obtain ⟨c3, i3, k3⟩ := u_known (C := RX4) (T := TX4) (N := 2) (n := 2) hWS wq_u_X4 (hWS _ wq_a_RX4)
  obtain ⟨c4, i4, k4⟩ := u_known (C := RX5) (T := TX5) (N := 8) (n := 8) hWS wq_u_X5 (hWS _ wq_a_RX5)
  obtain ⟨c5, i5, k5⟩ := u_known (C := RX6) (T := TX6) (N := 2) (n := 2) hWS wq_u_X6 (hWS _ wq_a_RX6)
  obtain ⟨c6, i6, k6⟩ := u_known (C := RX7) (T := TX7) (N := 1) (n := 1) hWS wq_u_X7 (hWS _ wq_a_RX7)
  obtain ⟨c7, i7, k7⟩ := u_known (C := RX8) (T := TX8) (N := 13) (n := 13) hWS wq_u_X8 (hWS _ wq_a_RX8)
  obtain ⟨c8, i8, k8⟩ := u_known (C := RX9) (T := TX9) (N := 19) (n := 19) hWS wq_u_X9 (hWS _ wq_a_RX9)
  obtain ⟨dC, dI, hKc⟩ : ∃ (dC : Nat → ClassId) (dI : Nat → Nat → Nat), ∀ (k : Nat) (q : vw_C), vwCl[k]? = some q → u_Kn s q.1 q.2.1 q.2.2 (dC k) (dI k) := by
    refine ⟨fun k => [c0, c1, c2, c3, c4, c5, c6, c7, c8].getD k c0, fun k => [i0, i1, i2, i3, i4, i5, i6, i7, i8].getD k i0, ?_⟩
    intro k q hq
    match k, hq with
    | 0, hq => cases hq; exact k0
    | 1, hq => cases hq; exact k1
    | 2, hq => cases hq; exact k2
    | 3, hq => cases hq; exact k3
    | 4, hq => cases hq; exact k4
    | 5, hq => cases hq; exact k5
    | 6, hq => cases hq; exact k6
    | 7, hq => cases hq; exact k7
    | 8, hq => cases hq; exact k8
    | k + 9, hq => simp [vwCl] at hq
  obtain ⟨cI, aI⟩ := arr_id (hWS _ wq_ac_int) (fun C h => by cases h)
  obtain ⟨cZ, aZ⟩ := arr_id (hWS _ wq_ac_boolean) (fun C h => by cases h)
  obtain ⟨cC, aC⟩ := arr_idq (hts _ wq_ao_X0)
  obtain ⟨cL, aL⟩ := arr_idq (hts _ wq_ao_X2)
  have hA : ∀ a : Nat, a < s.heap.size → ¬ (fun q : Nat => s.heap.size ≤ q) a := fun a h => Nat.not_le.mpr h
  obtain ⟨adK, adV, hSS, hev⟩ := vk_Sof (args := #[Value.ref b]) (s := s) (N := 6) (tm := tmS) (len := STRN) (byt := STRB) (A := fun q : Nat => s.heap.size ≤ q) (by decide) (fun i hi => hfl _ (gv_ex i hi)) (fun i hi => hfl _ (gv_co i hi)) (fun i hi => hfl _ (gv_ar i hi)) (fun i hi => hfl _ (gv_le i hi)) (fun i hi j hj => hfl _ (gv_el i hi j hj)) (fun i j hi hj hn => (gv_ne i hi j hj hn).imp (fun q => hfl _ q) (fun q => hfl _ q)) hA
  obtain ⟨fm, hfm⟩ := isRef_cases (hfl _ gv_fm)
  obtain ⟨G, hG⟩ : ∃ G : GG, G = (s.heap.size, (dC, dI), fun k => if k = 9 then cI else if k = 10 then cZ else if k = 11 then cC else cL, adK) := ⟨_, rfl⟩
  have hK : KX G s := by
    subst hG
    refine ⟨⟨hKc, fun k q hq => ?_⟩, ⟨fun a i x h hm => va_Nw.of rfl (hts _ hm), va_AO.of (hts _ wq_ao_X0), va_AO.of (hts _ wq_ao_X2)⟩⟩
    match k, hq with
    | 0, hq => cases hq; exact aI
    | 1, hq => cases hq; exact aZ
    | 2, hq => cases hq; exact aC
    | 3, hq => cases hq; exact aL
    | k + 4, hq => simp [tysG] at hq
  have hEX : EXL G adV fm b L xs s := by
    subst hG
    refine ⟨⟨hSS, fun i hi => vk_R.of (hts _ (sr_all i hi)) (hev i hi), va_Zof (hts _ ls_cs) (hWS _ wq_n_RJ0) (va_eqi (hfl _ gv_cs)) hA, va_Zof (hts _ ls_fm) (hWS _ wq_n_RJ3) hfm hA⟩, hX, hbl, hbl⟩
  have hG1 : s.heap.size = G.1 := by rw [hG]
  have hl := lv_entry ([.ref b]) (n := 4) (Nat.le_of_ble_eq_true rfl)
  rw [lg_entry_eq]
  have hP : HW G FZ s.heap := ⟨fun k q hq => by simp [Wl, FZ] at hq, by rw [hG1]; rfl⟩
  have hw := law_V (l := l) (G := G) (adV := adV) (fm := fm) (b := b) (xs := xs) ops hb0 hL p e s m #[Value.ref b] below meth c ⟨hx, hb, hml, hr, hlocks, hown, fun hn => absurd (show "law" = "<init>" from hn) (by decide), hWS, hK, hEX⟩ s.heap [] _ hP va_S.rf (by rw [hG1]; exact Nat.le_refl _) hl
  intro T hT X
  obtain ⟨t, a1, b1⟩ := hw T hT X
  exact ⟨t, a1, b1 ⟨rfl, hG1⟩⟩
