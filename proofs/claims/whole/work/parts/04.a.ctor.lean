/-! the constructors: each makes its cells in order, and lays them into its fields -/
def nC (h : FH) : FH := (h.1 + 1, h.2)
def pP (h : FH) (o k x : Nat) : FH := (h.1, uP h.2.1 o k (some x), h.2.2.1, h.2.2.2)
def jJ (h : FH) (o k : Nat) (v : Int64) : FH := (h.1, h.2.1, h.2.2.1, uJ h.2.2.2 o k v)
theorem nC_at {h : FH} {a b : Nat} : (nC h).2.1 a b = h.2.1 a b := rfl
theorem jJ_at {h : FH} {o k a b : Nat} {v : Int64} : (jJ h o k v).2.1 a b = h.2.1 a b := rfl
theorem pP_eq {h : FH} {o k x : Nat} : (pP h o k x).2.1 o k = some x := by show uP h.2.1 o k (some x) o k = some x; unfold uP; rw [if_pos ⟨rfl, rfl⟩]
theorem pP_ne {h : FH} {o k x a b : Nat} (hn : ¬ (a = o ∧ b = k)) : (pP h o k x).2.1 a b = h.2.1 a b := by show uP h.2.1 o k (some x) a b = _; unfold uP; rw [if_neg hn]
theorem Fre_nC {h : FH} (hF : Fre h) : Fre (nC h) := fun o k hk => hF o k (Nat.le_of_succ_le hk)
theorem Fre_pP {h : FH} {o k x : Nat} (hF : Fre h) (ho : o < h.1) : Fre (pP h o k x) := fun a b hab => by
  obtain ⟨h1, h2, h3⟩ := hF a b hab
  refine ⟨?_, h2, h3⟩
  rw [pP_ne (fun q => by have : h.1 ≤ a := hab; omega)]
  exact h1
theorem Fre_jJ {h : FH} {o k : Nat} {v : Int64} (hF : Fre h) (ho : o < h.1) : Fre (jJ h o k v) := fun a b hab => by
  obtain ⟨h1, h2, h3⟩ := hF a b hab
  refine ⟨h1, h2, ?_⟩
  show uJ h.2.2.2 o k v a b = 0
  have : h.1 ≤ a := hab
  unfold uJ
  rw [if_neg (by omega)]
  exact h3
section KC
variable {l : Launch} {G : GG} {EX : State → Prop} {M : MI} {rm : Room} {FIN : FT1} {k n pc q : Nat} {lv : List (Nat × Value)} {st : List Value} {h : FH}
theorem K.newc {idx ci x : Nat} {C : String} {T : u_T} {N : Nat} {ty : Nat → FieldType} (hF : Fre h) (hx : h.1 = x) (hcl : CL ci C T N ty) (hN : N = NF ci) (hci : ci < 9) (hk : KD x = ci) (hd : ∀ j, j < N → defaultValue (ty j) = if FT ci j = 0 then .int 0 else if FT ci j = 1 then .long 0 else .null)
    (hlk : Cond.classLink M.1.cls idx C ∈ WS) (hin : Cond.instantiable C N ∈ WS) (hini : Cond.initialized C ∈ WS) (hkc : k + 1 ≤ rm.cells) (hks : n + N ≤ rm.slots) (hdg : decode M.2.1 pc = .ok (.new idx, 3)) (hq : pc + 3 = q)
    (kk : V l G EX M rm FIN (k + 1) (n + N) q lv (.ref (G.1 + x) :: st) (nC h)) : V l G EX M rm FIN k n pc lv st h := by
  subst hx
  exact V.newc hF hcl hN hci hk hd hlk hin hini hkc hks hdg hq kk
theorem K.newa {at1 : ArrayType} {ci x : Nat} {ty : FieldType} {v : Int32} {N : Nat} (hF : Fre h) (hx : h.1 = x) (hci : (ci = 9 ∧ ty = .int) ∨ (ci = 10 ∧ ty = .boolean)) (hty : newarray.typeOf at1 = ty) (hk : KD x = ci) (hsz : SZ x = N) (hv : ¬ v < 0) (hN : v.toNatClampNeg = N) (hNb : N ≤ 1000)
    (harr : Cond.arrayClass ty ∈ WS) (hkc : k + 1 ≤ rm.cells) (hks : n + N ≤ rm.slots) (hdg : decode M.2.1 pc = .ok (.newarray at1, 2)) (hq : pc + 2 = q)
    (kk : V l G EX M rm FIN (k + 1) (n + N) q lv (.ref (G.1 + x) :: st) (nC h)) : V l G EX M rm FIN k n pc lv (.int v :: st) h := by
  subst hx
  exact V.newa hF hci hty hk hsz hv hN hNb harr hkc hks hdg hq kk
theorem K.newq {idx ci x : Nat} {C : String} {v : Int32} {N : Nat} (hF : Fre h) (hx : h.1 = x) (hci : (ci = 11 ∧ C = RX0) ∨ (ci = 12 ∧ C = RX2)) (hk : KD x = ci) (hsz : SZ x = N) (hv : ¬ v < 0) (hN : v.toNatClampNeg = N) (hNb : N ≤ 1000)
    (hlk : Cond.classLink M.1.cls idx C ∈ WS) (hkc : k + 1 ≤ rm.cells) (hks : n + N ≤ rm.slots) (hdg : decode M.2.1 pc = .ok (.anewarray idx, 3)) (hq : pc + 3 = q)
    (kk : V l G EX M rm FIN (k + 1) (n + N) q lv (.ref (G.1 + x) :: st) (nC h)) : V l G EX M rm FIN k n pc lv (.int v :: st) h := by
  subst hx
  exact V.newq hF hci hk hsz hv hN hNb hlk hkc hks hdg hq kk
theorem K.putP {idx ci j : Nat} {C : String} {T : u_T} {N : Nat} {ty : Nat → FieldType} {o x : Nat} (hf : FLk M.1.cls idx ci j 2 C T N ty) (ho : KD o = ci) (hlt : o < h.1) (hfin : (T j).2.2.2 = true) (hin2 : M.1.name = "<init>") (hown1 : C = M.1.cls) (hn : narrow (ty j) (.ref (G.1 + x)) = .ref (G.1 + x)) (hfit : fits (ty j) (.ref (G.1 + x)) = true) (hdg : decode M.2.1 pc = .ok (.putfield idx, 3)) (hq : pc + 3 = q)
    (kk : V l G EX M rm FIN k n q lv st (pP h o j x)) : V l G EX M rm FIN k n pc lv (.ref (G.1 + x) :: .ref (G.1 + o) :: st) h := V.putP hf ho hlt hfin hin2 hown1 hn hfit hdg hq kk
theorem K.putJ {idx ci j : Nat} {C : String} {T : u_T} {N : Nat} {ty : Nat → FieldType} {o : Nat} {v : Int64} (hf : FLk M.1.cls idx ci j 1 C T N ty) (ho : KD o = ci) (hlt : o < h.1) (hfin : (T j).2.2.2 = false) (hty : ty j = .long) (hdg : decode M.2.1 pc = .ok (.putfield idx, 3)) (hq : pc + 3 = q)
    (kk : V l G EX M rm FIN k n q lv st (jJ h o j v)) : V l G EX M rm FIN k n pc lv (.long v :: .ref (G.1 + o) :: st) h := V.putJ hf ho hlt hfin hty hdg hq kk
theorem K.aast {o ci x kx : Nat} {i : Int32} {j : Nat} (ho : KD o = ci) (hc : (ci = 11 ∧ kx = 0) ∨ (ci = 12 ∧ kx = 1)) (hlt : o < h.1) (hin : inb i (SZ o) = true) (hj : ix i = j) (hkx : KD x = kx) (hxl : x < h.1) (hdg : decode M.2.1 pc = .ok (.aastore, 1)) (hq : pc + 1 = q)
    (kk : V l G EX M rm FIN k n q lv st (pP h o j x)) : V l G EX M rm FIN k n pc lv (.ref (G.1 + x) :: .int i :: .ref (G.1 + o) :: st) h := by
  subst hj
  exact V.aast ho hc hlt hin hkx hxl hdg hq kk
end KC
theorem wq_cobj : Cond.code objectInit ⟨#[0xb1]⟩ 1 none ∈ WS := wq_c_objectInit

theorem dv_X0 : ∀ j, j < 5 → defaultValue (tyX0 j) = if FT 0 j = 0 then .int 0 else if FT 0 j = 1 then .long 0 else .null := fun j hj => by
  match j, hj with
  | 0, _ => rfl
  | 1, _ => rfl
  | 2, _ => rfl
  | 3, _ => rfl
  | 4, _ => rfl
  | j + 5, hj => exact absurd hj (by omega)
theorem dv_X2 : ∀ j, j < 11 → defaultValue (tyX2 j) = if FT 1 j = 0 then .int 0 else if FT 1 j = 1 then .long 0 else .null := fun j hj => by
  match j, hj with
  | 0, _ => rfl
  | 1, _ => rfl
  | 2, _ => rfl
  | 3, _ => rfl
  | 4, _ => rfl
  | 5, _ => rfl
  | 6, _ => rfl
  | 7, _ => rfl
  | 8, _ => rfl
  | 9, _ => rfl
  | 10, _ => rfl
  | j + 11, hj => exact absurd hj (by omega)
theorem dv_X3 : ∀ j, j < 2 → defaultValue (tyX3 j) = if FT 2 j = 0 then .int 0 else if FT 2 j = 1 then .long 0 else .null := fun j hj => by
  match j, hj with
  | 0, _ => rfl
  | 1, _ => rfl
  | j + 2, hj => exact absurd hj (by omega)
theorem dv_X4 : ∀ j, j < 2 → defaultValue (tyX4 j) = if FT 3 j = 0 then .int 0 else if FT 3 j = 1 then .long 0 else .null := fun j hj => by
  match j, hj with
  | 0, _ => rfl
  | 1, _ => rfl
  | j + 2, hj => exact absurd hj (by omega)
theorem dv_X5 : ∀ j, j < 8 → defaultValue (tyX5 j) = if FT 4 j = 0 then .int 0 else if FT 4 j = 1 then .long 0 else .null := fun j hj => by
  match j, hj with
  | 0, _ => rfl
  | 1, _ => rfl
  | 2, _ => rfl
  | 3, _ => rfl
  | 4, _ => rfl
  | 5, _ => rfl
  | 6, _ => rfl
  | 7, _ => rfl
  | j + 8, hj => exact absurd hj (by omega)
theorem dv_X6 : ∀ j, j < 2 → defaultValue (tyX6 j) = if FT 5 j = 0 then .int 0 else if FT 5 j = 1 then .long 0 else .null := fun j hj => by
  match j, hj with
  | 0, _ => rfl
  | 1, _ => rfl
  | j + 2, hj => exact absurd hj (by omega)
theorem dv_X7 : ∀ j, j < 1 → defaultValue (tyX7 j) = if FT 6 j = 0 then .int 0 else if FT 6 j = 1 then .long 0 else .null := fun j hj => by
  match j, hj with
  | 0, _ => rfl
  | j + 1, hj => exact absurd hj (by omega)
theorem dv_X8 : ∀ j, j < 13 → defaultValue (tyX8 j) = if FT 7 j = 0 then .int 0 else if FT 7 j = 1 then .long 0 else .null := fun j hj => by
  match j, hj with
  | 0, _ => rfl
  | 1, _ => rfl
  | 2, _ => rfl
  | 3, _ => rfl
  | 4, _ => rfl
  | 5, _ => rfl
  | 6, _ => rfl
  | 7, _ => rfl
  | 8, _ => rfl
  | 9, _ => rfl
  | 10, _ => rfl
  | 11, _ => rfl
  | 12, _ => rfl
  | j + 13, hj => exact absurd hj (by omega)
theorem dv_X9 : ∀ j, j < 19 → defaultValue (tyX9 j) = if FT 8 j = 0 then .int 0 else if FT 8 j = 1 then .long 0 else .null := fun j hj => by
  match j, hj with
  | 0, _ => rfl
  | 1, _ => rfl
  | 2, _ => rfl
  | 3, _ => rfl
  | 4, _ => rfl
  | 5, _ => rfl
  | 6, _ => rfl
  | 7, _ => rfl
  | 8, _ => rfl
  | 9, _ => rfl
  | 10, _ => rfl
  | 11, _ => rfl
  | 12, _ => rfl
  | 13, _ => rfl
  | 14, _ => rfl
  | 15, _ => rfl
  | 16, _ => rfl
  | 17, _ => rfl
  | 18, _ => rfl
  | j + 19, hj => exact absurd hj (by omega)
theorem ly_X2_1 {o : Nat} (h : KD o = 1) : KD (o + 1) = 9 ∧ SZ (o + 1) = 5 := (by decide +kernel : ∀ o, o < NN → KD o = 1 → KD (o + 1) = 9 ∧ SZ (o + 1) = 5) o (KD_lt' h (by decide)) h
theorem ly_X2_2 {o : Nat} (h : KD o = 1) : KD (o + 2) = 9 ∧ SZ (o + 2) = 5 := (by decide +kernel : ∀ o, o < NN → KD o = 1 → KD (o + 2) = 9 ∧ SZ (o + 2) = 5) o (KD_lt' h (by decide)) h
theorem ly_X2_3 {o : Nat} (h : KD o = 1) : KD (o + 3) = 9 ∧ SZ (o + 3) = 5 := (by decide +kernel : ∀ o, o < NN → KD o = 1 → KD (o + 3) = 9 ∧ SZ (o + 3) = 5) o (KD_lt' h (by decide)) h
theorem ly_X2_4 {o : Nat} (h : KD o = 1) : KD (o + 4) = 9 ∧ SZ (o + 4) = 5 := (by decide +kernel : ∀ o, o < NN → KD o = 1 → KD (o + 4) = 9 ∧ SZ (o + 4) = 5) o (KD_lt' h (by decide)) h
theorem ly_X2_5 {o : Nat} (h : KD o = 1) : KD (o + 5) = 9 ∧ SZ (o + 5) = 6 := (by decide +kernel : ∀ o, o < NN → KD o = 1 → KD (o + 5) = 9 ∧ SZ (o + 5) = 6) o (KD_lt' h (by decide)) h
theorem ly_X2_6 {o : Nat} (h : KD o = 1) : KD (o + 6) = 9 ∧ SZ (o + 6) = 6 := (by decide +kernel : ∀ o, o < NN → KD o = 1 → KD (o + 6) = 9 ∧ SZ (o + 6) = 6) o (KD_lt' h (by decide)) h
theorem ly_X2_7 {o : Nat} (h : KD o = 1) : KD (o + 7) = 9 ∧ SZ (o + 7) = 6 := (by decide +kernel : ∀ o, o < NN → KD o = 1 → KD (o + 7) = 9 ∧ SZ (o + 7) = 6) o (KD_lt' h (by decide)) h
abbrev mi_X2_init : MI := (yX2_init, cX2_init, 1, none)
theorem mic_X2_init : MIc mi_X2_init 0 := ⟨⟨wq_c_yX2_init, by decide⟩, wq_n_RX2, by decide +kernel⟩
def kX2 (o : Nat) (h : FH) : FH := (pP (nC (pP (nC (pP (nC (pP (nC (pP (nC (pP (nC (pP (nC h) o 4 (o + 1))) o 5 (o + 2))) o 6 (o + 3))) o 7 (o + 4))) o 8 (o + 5))) o 9 (o + 6))) o 10 (o + 7))
set_option maxRecDepth 100000 in
theorem kX2_1 {o : Nat} {h : FH} : (kX2 o h).1 = h.1 + 7 := rfl
theorem kX2_at {o a b : Nat} {h : FH} (ha : a < o) : (kX2 o h).2.1 a b = h.2.1 a b := by
  unfold kX2
  rw [pP_ne (by omega), nC_at, pP_ne (by omega), nC_at, pP_ne (by omega), nC_at, pP_ne (by omega), nC_at, pP_ne (by omega), nC_at, pP_ne (by omega), nC_at, pP_ne (by omega), nC_at]
set_option maxRecDepth 100000 in
theorem Fre_kX2 {o : Nat} {h : FH} (hF : Fre h) (e : h.1 = o + 1) : Fre (kX2 o h) := by
  unfold kX2
  exact (Fre_pP (Fre_nC (Fre_pP (Fre_nC (Fre_pP (Fre_nC (Fre_pP (Fre_nC (Fre_pP (Fre_nC (Fre_pP (Fre_nC (Fre_pP (Fre_nC hF) (show o < h.1 + 1 by omega))) (show o < h.1 + 2 by omega))) (show o < h.1 + 3 by omega))) (show o < h.1 + 4 by omega))) (show o < h.1 + 5 by omega))) (show o < h.1 + 6 by omega))) (show o < h.1 + 7 by omega))
set_option maxRecDepth 100000 in
set_option maxHeartbeats 4000000 in
theorem mX2_init {l : Launch} {G : GG} {EX : State → Prop} (hE : EXB G EX) {o : Nat} {h : FH} (hk : KD o = 1) (hF : Fre h) (e : h.1 = o + 1) : Met l mi_X2_init.1 (Cond.code mi_X2_init.1 mi_X2_init.2.1 mi_X2_init.2.2.1 mi_X2_init.2.2.2 :: WS) ⟨1, 7, 38, 12⟩ (PcG G [.ref (G.1 + o)] h EX) (QcG G (fun w f => w = none ∧ f = kX2 o h)) 7 38 (AA G) := by
  refine V.met mic_X2_init.1 (Nat.le_of_ble_eq_true rfl) ?_
  refine show V l G EX mi_X2_init ⟨1, 7, 38, 12⟩ _ 0 0 0 [(0, .ref (G.1 + o))] [] h from ?_
  refine V.aload_n (j := 0) dX2_init_0 rfl rfl rfl ?_
  refine V.objInit wq_m_X2_3 wq_i_objectInit wq_cobj (Nat.le_of_ble_eq_true rfl) (Nat.le_of_ble_eq_true rfl) dX2_init_1 rfl ?_
  refine V.aload_n (j := 0) dX2_init_4 rfl rfl rfl ?_
  refine V.iconst dX2_init_5 rfl ki_5 ?_
  refine K.newa (at1 := .int) (ty := .int) (N := 5) hF (show h.1 = o + 1 by omega) (by decide) rfl (ly_X2_1 hk).1 (ly_X2_1 hk).2 (by decide) (by decide +kernel) (by decide) wq_ac_int (Nat.le_of_ble_eq_true rfl) (Nat.le_of_ble_eq_true rfl) dX2_init_6 rfl ?_
  refine K.putP (x := (o + 1)) fl_X2_9 hk (show o < h.1 + 1 by omega) rfl rfl rfl rfl rfl dX2_init_8 rfl ?_
  refine V.aload_n (j := 0) dX2_init_11 rfl rfl rfl ?_
  refine V.iconst dX2_init_12 rfl ki_5 ?_
  refine K.newa (at1 := .int) (ty := .int) (N := 5) (Fre_pP (Fre_nC hF) (show o < h.1 + 1 by omega)) (show h.1 + 1 = o + 2 by omega) (by decide) rfl (ly_X2_2 hk).1 (ly_X2_2 hk).2 (by decide) (by decide +kernel) (by decide) wq_ac_int (Nat.le_of_ble_eq_true rfl) (Nat.le_of_ble_eq_true rfl) dX2_init_13 rfl ?_
  refine K.putP (x := (o + 2)) fl_X2_15 hk (show o < h.1 + 2 by omega) rfl rfl rfl rfl rfl dX2_init_15 rfl ?_
  refine V.aload_n (j := 0) dX2_init_18 rfl rfl rfl ?_
  refine V.iconst dX2_init_19 rfl ki_5 ?_
  refine K.newa (at1 := .int) (ty := .int) (N := 5) (Fre_pP (Fre_nC (Fre_pP (Fre_nC hF) (show o < h.1 + 1 by omega))) (show o < h.1 + 2 by omega)) (show h.1 + 2 = o + 3 by omega) (by decide) rfl (ly_X2_3 hk).1 (ly_X2_3 hk).2 (by decide) (by decide +kernel) (by decide) wq_ac_int (Nat.le_of_ble_eq_true rfl) (Nat.le_of_ble_eq_true rfl) dX2_init_20 rfl ?_
  refine K.putP (x := (o + 3)) fl_X2_18 hk (show o < h.1 + 3 by omega) rfl rfl rfl rfl rfl dX2_init_22 rfl ?_
  refine V.aload_n (j := 0) dX2_init_25 rfl rfl rfl ?_
  refine V.iconst dX2_init_26 rfl ki_5 ?_
  refine K.newa (at1 := .int) (ty := .int) (N := 5) (Fre_pP (Fre_nC (Fre_pP (Fre_nC (Fre_pP (Fre_nC hF) (show o < h.1 + 1 by omega))) (show o < h.1 + 2 by omega))) (show o < h.1 + 3 by omega)) (show h.1 + 3 = o + 4 by omega) (by decide) rfl (ly_X2_4 hk).1 (ly_X2_4 hk).2 (by decide) (by decide +kernel) (by decide) wq_ac_int (Nat.le_of_ble_eq_true rfl) (Nat.le_of_ble_eq_true rfl) dX2_init_27 rfl ?_
  refine K.putP (x := (o + 4)) fl_X2_21 hk (show o < h.1 + 4 by omega) rfl rfl rfl rfl rfl dX2_init_29 rfl ?_
  refine V.aload_n (j := 0) dX2_init_32 rfl rfl rfl ?_
  refine V.bipush (v := 6) dX2_init_33 rfl (by decide +kernel) ?_
  refine K.newa (at1 := .int) (ty := .int) (N := 6) (Fre_pP (Fre_nC (Fre_pP (Fre_nC (Fre_pP (Fre_nC (Fre_pP (Fre_nC hF) (show o < h.1 + 1 by omega))) (show o < h.1 + 2 by omega))) (show o < h.1 + 3 by omega))) (show o < h.1 + 4 by omega)) (show h.1 + 4 = o + 5 by omega) (by decide) rfl (ly_X2_5 hk).1 (ly_X2_5 hk).2 (by decide) (by decide +kernel) (by decide) wq_ac_int (Nat.le_of_ble_eq_true rfl) (Nat.le_of_ble_eq_true rfl) dX2_init_35 rfl ?_
  refine K.putP (x := (o + 5)) fl_X2_24 hk (show o < h.1 + 5 by omega) rfl rfl rfl rfl rfl dX2_init_37 rfl ?_
  refine V.aload_n (j := 0) dX2_init_40 rfl rfl rfl ?_
  refine V.bipush (v := 6) dX2_init_41 rfl (by decide +kernel) ?_
  refine K.newa (at1 := .int) (ty := .int) (N := 6) (Fre_pP (Fre_nC (Fre_pP (Fre_nC (Fre_pP (Fre_nC (Fre_pP (Fre_nC (Fre_pP (Fre_nC hF) (show o < h.1 + 1 by omega))) (show o < h.1 + 2 by omega))) (show o < h.1 + 3 by omega))) (show o < h.1 + 4 by omega))) (show o < h.1 + 5 by omega)) (show h.1 + 5 = o + 6 by omega) (by decide) rfl (ly_X2_6 hk).1 (ly_X2_6 hk).2 (by decide) (by decide +kernel) (by decide) wq_ac_int (Nat.le_of_ble_eq_true rfl) (Nat.le_of_ble_eq_true rfl) dX2_init_43 rfl ?_
  refine K.putP (x := (o + 6)) fl_X2_27 hk (show o < h.1 + 6 by omega) rfl rfl rfl rfl rfl dX2_init_45 rfl ?_
  refine V.aload_n (j := 0) dX2_init_48 rfl rfl rfl ?_
  refine V.bipush (v := 6) dX2_init_49 rfl (by decide +kernel) ?_
  refine K.newa (at1 := .int) (ty := .int) (N := 6) (Fre_pP (Fre_nC (Fre_pP (Fre_nC (Fre_pP (Fre_nC (Fre_pP (Fre_nC (Fre_pP (Fre_nC (Fre_pP (Fre_nC hF) (show o < h.1 + 1 by omega))) (show o < h.1 + 2 by omega))) (show o < h.1 + 3 by omega))) (show o < h.1 + 4 by omega))) (show o < h.1 + 5 by omega))) (show o < h.1 + 6 by omega)) (show h.1 + 6 = o + 7 by omega) (by decide) rfl (ly_X2_7 hk).1 (ly_X2_7 hk).2 (by decide) (by decide +kernel) (by decide) wq_ac_int (Nat.le_of_ble_eq_true rfl) (Nat.le_of_ble_eq_true rfl) dX2_init_51 rfl ?_
  refine K.putP (x := (o + 7)) fl_X2_30 hk (show o < h.1 + 7 by omega) rfl rfl rfl rfl rfl dX2_init_53 rfl ?_
  exact V.ret0 rfl (Nat.le_of_ble_eq_true rfl) (Nat.le_of_ble_eq_true rfl) dX2_init_56 ⟨rfl, rfl⟩
theorem ly_X3_1 {o : Nat} (h : KD o = 2) : KD (o + 1) = 12 ∧ SZ (o + 1) = 8 := (by decide +kernel : ∀ o, o < NN → KD o = 2 → KD (o + 1) = 12 ∧ SZ (o + 1) = 8) o (KD_lt' h (by decide)) h
theorem ly_X3_2 {o : Nat} (h : KD o = 2) : KD (o + 2) = 1 ∧ SZ (o + 2) = 11 := (by decide +kernel : ∀ o, o < NN → KD o = 2 → KD (o + 2) = 1 ∧ SZ (o + 2) = 11) o (KD_lt' h (by decide)) h
theorem ly_X3_10 {o : Nat} (h : KD o = 2) : KD (o + 10) = 1 ∧ SZ (o + 10) = 11 := (by decide +kernel : ∀ o, o < NN → KD o = 2 → KD (o + 10) = 1 ∧ SZ (o + 10) = 11) o (KD_lt' h (by decide)) h
theorem ly_X3_18 {o : Nat} (h : KD o = 2) : KD (o + 18) = 1 ∧ SZ (o + 18) = 11 := (by decide +kernel : ∀ o, o < NN → KD o = 2 → KD (o + 18) = 1 ∧ SZ (o + 18) = 11) o (KD_lt' h (by decide)) h
theorem ly_X3_26 {o : Nat} (h : KD o = 2) : KD (o + 26) = 1 ∧ SZ (o + 26) = 11 := (by decide +kernel : ∀ o, o < NN → KD o = 2 → KD (o + 26) = 1 ∧ SZ (o + 26) = 11) o (KD_lt' h (by decide)) h
theorem ly_X3_34 {o : Nat} (h : KD o = 2) : KD (o + 34) = 1 ∧ SZ (o + 34) = 11 := (by decide +kernel : ∀ o, o < NN → KD o = 2 → KD (o + 34) = 1 ∧ SZ (o + 34) = 11) o (KD_lt' h (by decide)) h
theorem ly_X3_42 {o : Nat} (h : KD o = 2) : KD (o + 42) = 1 ∧ SZ (o + 42) = 11 := (by decide +kernel : ∀ o, o < NN → KD o = 2 → KD (o + 42) = 1 ∧ SZ (o + 42) = 11) o (KD_lt' h (by decide)) h
theorem ly_X3_50 {o : Nat} (h : KD o = 2) : KD (o + 50) = 1 ∧ SZ (o + 50) = 11 := (by decide +kernel : ∀ o, o < NN → KD o = 2 → KD (o + 50) = 1 ∧ SZ (o + 50) = 11) o (KD_lt' h (by decide)) h
theorem ly_X3_58 {o : Nat} (h : KD o = 2) : KD (o + 58) = 1 ∧ SZ (o + 58) = 11 := (by decide +kernel : ∀ o, o < NN → KD o = 2 → KD (o + 58) = 1 ∧ SZ (o + 58) = 11) o (KD_lt' h (by decide)) h
abbrev mi_X3_init : MI := (yX3_init, cX3_init, 2, none)
theorem mic_X3_init : MIc mi_X3_init 0 := ⟨⟨wq_c_yX3_init, by decide⟩, wq_n_RX3, by decide +kernel⟩
def kX3 (o : Nat) (h : FH) : FH := (pP (kX2 (o + 58) (nC (pP (kX2 (o + 50) (nC (pP (kX2 (o + 42) (nC (pP (kX2 (o + 34) (nC (pP (kX2 (o + 26) (nC (pP (kX2 (o + 18) (nC (pP (kX2 (o + 10) (nC (pP (kX2 (o + 2) (nC (pP (nC h) o 0 (o + 1)))) (o + 1) 0 (o + 2)))) (o + 1) 1 (o + 10)))) (o + 1) 2 (o + 18)))) (o + 1) 3 (o + 26)))) (o + 1) 4 (o + 34)))) (o + 1) 5 (o + 42)))) (o + 1) 6 (o + 50)))) (o + 1) 7 (o + 58))
set_option maxRecDepth 100000 in
theorem kX3_1 {o : Nat} {h : FH} : (kX3 o h).1 = h.1 + 65 := rfl
theorem kX3_at {o a b : Nat} {h : FH} (ha : a < o) : (kX3 o h).2.1 a b = h.2.1 a b := by
  unfold kX3
  rw [pP_ne (by omega), kX2_at (by omega), nC_at, pP_ne (by omega), kX2_at (by omega), nC_at, pP_ne (by omega), kX2_at (by omega), nC_at, pP_ne (by omega), kX2_at (by omega), nC_at, pP_ne (by omega), kX2_at (by omega), nC_at, pP_ne (by omega), kX2_at (by omega), nC_at, pP_ne (by omega), kX2_at (by omega), nC_at, pP_ne (by omega), kX2_at (by omega), nC_at, pP_ne (by omega), nC_at]
set_option maxRecDepth 100000 in
theorem Fre_kX3 {o : Nat} {h : FH} (hF : Fre h) (e : h.1 = o + 1) : Fre (kX3 o h) := by
  unfold kX3
  exact (Fre_pP (Fre_kX2 (Fre_nC (Fre_pP (Fre_kX2 (Fre_nC (Fre_pP (Fre_kX2 (Fre_nC (Fre_pP (Fre_kX2 (Fre_nC (Fre_pP (Fre_kX2 (Fre_nC (Fre_pP (Fre_kX2 (Fre_nC (Fre_pP (Fre_kX2 (Fre_nC (Fre_pP (Fre_kX2 (Fre_nC (Fre_pP (Fre_nC hF) (show o < h.1 + 1 by omega))) (show h.1 + 2 = o + 3 by omega) ) (show (o + 1) < h.1 + 9 by omega))) (show h.1 + 10 = o + 11 by omega) ) (show (o + 1) < h.1 + 17 by omega))) (show h.1 + 18 = o + 19 by omega) ) (show (o + 1) < h.1 + 25 by omega))) (show h.1 + 26 = o + 27 by omega) ) (show (o + 1) < h.1 + 33 by omega))) (show h.1 + 34 = o + 35 by omega) ) (show (o + 1) < h.1 + 41 by omega))) (show h.1 + 42 = o + 43 by omega) ) (show (o + 1) < h.1 + 49 by omega))) (show h.1 + 50 = o + 51 by omega) ) (show (o + 1) < h.1 + 57 by omega))) (show h.1 + 58 = o + 59 by omega) ) (show (o + 1) < h.1 + 65 by omega))
set_option maxRecDepth 100000 in
set_option maxHeartbeats 4000000 in
theorem mX3_init {l : Launch} {G : GG} {EX : State → Prop} (hE : EXB G EX) {o : Nat} {h : FH} (hk : KD o = 2) (hF : Fre h) (e : h.1 = o + 1) : Met l mi_X3_init.1 (Cond.code mi_X3_init.1 mi_X3_init.2.1 mi_X3_init.2.2.1 mi_X3_init.2.2.2 :: WS) ⟨2, 65, 400, 32⟩ (PcG G [.ref (G.1 + o)] h EX) (QcG G (fun w f => w = none ∧ f = kX3 o h)) 65 400 (AA G) := by
  refine V.met mic_X3_init.1 (Nat.le_of_ble_eq_true rfl) ?_
  refine show V l G EX mi_X3_init ⟨2, 65, 400, 32⟩ _ 0 0 0 [(0, .ref (G.1 + o))] [] h from ?_
  refine V.aload_n (j := 0) dX3_init_0 rfl rfl rfl ?_
  refine V.objInit wq_m_X3_3 wq_i_objectInit wq_cobj (Nat.le_of_ble_eq_true rfl) (Nat.le_of_ble_eq_true rfl) dX3_init_1 rfl ?_
  refine V.aload_n (j := 0) dX3_init_4 rfl rfl rfl ?_
  refine V.bipush (v := 8) dX3_init_5 rfl (by decide +kernel) ?_
  refine K.newq (ci := 12) (N := 8) hF (show h.1 = o + 1 by omega) (by decide) (ly_X3_1 hk).1 (ly_X3_1 hk).2 (by decide) (by decide +kernel) (by decide) wq_x_X3_9 (Nat.le_of_ble_eq_true rfl) (Nat.le_of_ble_eq_true rfl) dX3_init_7 rfl ?_
  refine K.putP (x := (o + 1)) fl_X3_11 hk (show o < h.1 + 1 by omega) rfl rfl rfl rfl rfl dX3_init_10 rfl ?_
  refine V.iconst dX3_init_13 rfl ki_0 ?_
  refine V.istore_n [(1, .int (0 : Int32)), (0, .ref (G.1 + o))] dX3_init_14 rfl rfl (Nat.le_of_ble_eq_true rfl) rfl ?_
  refine V.iload_n (j := 0) dX3_init_15 rfl rfl rfl ?_
  refine V.aload_n (j := 1) dX3_init_16 rfl rfl rfl ?_
  refine V.getP (x := (o + 1)) fl_X3_11 hk (show o < h.1 + 1 by omega) (by rw [pP_eq]) dX3_init_17 rfl ?_
  refine V.alen (v := 8) (ci := 12) (ly_X3_1 hk).1 (by decide) (show (o + 1) < h.1 + 1 by omega) (by rw [(ly_X3_1 hk).2]; decide) dX3_init_20 rfl ?_
  refine V.icmp_ge (tgt := 43) (A := (none : Option Nat)) (B := some 0) (r := 0) (by decide) dX3_init_21 (by decide) rfl (fun hx => absurd hx (by decide)) (fun _ => ?_)
  refine V.aload_n (j := 1) dX3_init_24 rfl rfl rfl ?_
  refine V.getP (x := (o + 1)) fl_X3_11 hk (show o < h.1 + 1 by omega) (by rw [pP_eq]) dX3_init_25 rfl ?_
  refine V.iload_n (j := 0) dX3_init_28 rfl rfl rfl ?_
  refine K.newc (Fre_pP (Fre_nC hF) (show o < h.1 + 1 by omega)) (show h.1 + 1 = o + 2 by omega) cl_X2 rfl (by decide) (ly_X3_2 hk).1 dv_X2 wq_x_X3_9 wq_a_RX2 wq_n_RX2 (Nat.le_of_ble_eq_true rfl) (Nat.le_of_ble_eq_true rfl) dX3_init_29 rfl ?_
  refine V.dup dX3_init_32 rfl rfl ?_
  refine V.callIN (As := []) (rest := [.ref (G.1 + (o + 2)), .int (0 : Int32), .ref (G.1 + (o + 1))]) hE.1 mic_X2_init rfl rfl rfl (mX2_init hE (ly_X3_2 hk).1 (Fre_nC (Fre_pP (Fre_nC hF) (show o < h.1 + 1 by omega))) (show h.1 + 2 = o + 3 by omega)) wq_z_X3_17 wq_i_yX2_init ⟨(Nat.le_of_ble_eq_true rfl), (Nat.le_of_ble_eq_true rfl)⟩ (Nat.le_of_ble_eq_true rfl) ⟨(Nat.le_of_ble_eq_true rfl), (Nat.le_of_ble_eq_true rfl)⟩ dX3_init_33 rfl rfl ?_
  rintro _ _ ⟨rfl, rfl⟩
  refine show V l G EX mi_X3_init ⟨2, 65, 400, 32⟩ _ _ _ 36 [(1, .int (0 : Int32)), (0, .ref (G.1 + o))] [.ref (G.1 + (o + 2)), .int (0 : Int32), .ref (G.1 + (o + 1))] (kX2 (o + 2) (nC (pP (nC h) o 0 (o + 1)))) from ?_
  refine K.aast (ci := 12) (kx := 1) (j := 0) (ly_X3_1 hk).1 (by decide) (show (o + 1) < h.1 + 9 by omega) (by rw [(ly_X3_1 hk).2]; decide) (by decide) (ly_X3_2 hk).1 (show (o + 2) < h.1 + 9 by omega) dX3_init_36 rfl ?_
  refine V.iinc (v := 1) [(1, .int (1 : Int32)), (0, .ref (G.1 + o))] (j := 0) rfl (by decide) (Nat.le_of_ble_eq_true rfl) rfl dX3_init_37 rfl ?_
  refine V.goto (q := 15) dX3_init_40 (by decide) ?_
  refine V.iload_n (j := 0) dX3_init_15 rfl rfl rfl ?_
  refine V.aload_n (j := 1) dX3_init_16 rfl rfl rfl ?_
  refine V.getP (x := (o + 1)) fl_X3_11 hk (show o < h.1 + 9 by omega) (by rw [pP_ne (by omega), kX2_at (by omega), nC_at, pP_eq]) dX3_init_17 rfl ?_
  refine V.alen (v := 8) (ci := 12) (ly_X3_1 hk).1 (by decide) (show (o + 1) < h.1 + 9 by omega) (by rw [(ly_X3_1 hk).2]; decide) dX3_init_20 rfl ?_
  refine V.icmp_ge (tgt := 43) (A := (none : Option Nat)) (B := some 0) (r := 0) (by decide) dX3_init_21 (by decide) rfl (fun hx => absurd hx (by decide)) (fun _ => ?_)
  refine V.aload_n (j := 1) dX3_init_24 rfl rfl rfl ?_
  refine V.getP (x := (o + 1)) fl_X3_11 hk (show o < h.1 + 9 by omega) (by rw [pP_ne (by omega), kX2_at (by omega), nC_at, pP_eq]) dX3_init_25 rfl ?_
  refine V.iload_n (j := 0) dX3_init_28 rfl rfl rfl ?_
  refine K.newc (Fre_pP (Fre_kX2 (Fre_nC (Fre_pP (Fre_nC hF) (show o < h.1 + 1 by omega))) (show h.1 + 2 = o + 3 by omega) ) (show (o + 1) < h.1 + 9 by omega)) (show h.1 + 9 = o + 10 by omega) cl_X2 rfl (by decide) (ly_X3_10 hk).1 dv_X2 wq_x_X3_9 wq_a_RX2 wq_n_RX2 (Nat.le_of_ble_eq_true rfl) (Nat.le_of_ble_eq_true rfl) dX3_init_29 rfl ?_
  refine V.dup dX3_init_32 rfl rfl ?_
  refine V.callIN (As := []) (rest := [.ref (G.1 + (o + 10)), .int (1 : Int32), .ref (G.1 + (o + 1))]) hE.1 mic_X2_init rfl rfl rfl (mX2_init hE (ly_X3_10 hk).1 (Fre_nC (Fre_pP (Fre_kX2 (Fre_nC (Fre_pP (Fre_nC hF) (show o < h.1 + 1 by omega))) (show h.1 + 2 = o + 3 by omega) ) (show (o + 1) < h.1 + 9 by omega))) (show h.1 + 10 = o + 11 by omega)) wq_z_X3_17 wq_i_yX2_init ⟨(Nat.le_of_ble_eq_true rfl), (Nat.le_of_ble_eq_true rfl)⟩ (Nat.le_of_ble_eq_true rfl) ⟨(Nat.le_of_ble_eq_true rfl), (Nat.le_of_ble_eq_true rfl)⟩ dX3_init_33 rfl rfl ?_
  rintro _ _ ⟨rfl, rfl⟩
  refine show V l G EX mi_X3_init ⟨2, 65, 400, 32⟩ _ _ _ 36 [(1, .int (1 : Int32)), (0, .ref (G.1 + o))] [.ref (G.1 + (o + 10)), .int (1 : Int32), .ref (G.1 + (o + 1))] (kX2 (o + 10) (nC (pP (kX2 (o + 2) (nC (pP (nC h) o 0 (o + 1)))) (o + 1) 0 (o + 2)))) from ?_
  refine K.aast (ci := 12) (kx := 1) (j := 1) (ly_X3_1 hk).1 (by decide) (show (o + 1) < h.1 + 17 by omega) (by rw [(ly_X3_1 hk).2]; decide) (by decide) (ly_X3_10 hk).1 (show (o + 10) < h.1 + 17 by omega) dX3_init_36 rfl ?_
  refine V.iinc (v := 2) [(1, .int (2 : Int32)), (0, .ref (G.1 + o))] (j := 0) rfl (by decide) (Nat.le_of_ble_eq_true rfl) rfl dX3_init_37 rfl ?_
  refine V.goto (q := 15) dX3_init_40 (by decide) ?_
  refine V.iload_n (j := 0) dX3_init_15 rfl rfl rfl ?_
  refine V.aload_n (j := 1) dX3_init_16 rfl rfl rfl ?_
  refine V.getP (x := (o + 1)) fl_X3_11 hk (show o < h.1 + 17 by omega) (by rw [pP_ne (by omega), kX2_at (by omega), nC_at, pP_ne (by omega), kX2_at (by omega), nC_at, pP_eq]) dX3_init_17 rfl ?_
  refine V.alen (v := 8) (ci := 12) (ly_X3_1 hk).1 (by decide) (show (o + 1) < h.1 + 17 by omega) (by rw [(ly_X3_1 hk).2]; decide) dX3_init_20 rfl ?_
  refine V.icmp_ge (tgt := 43) (A := (none : Option Nat)) (B := some 0) (r := 0) (by decide) dX3_init_21 (by decide) rfl (fun hx => absurd hx (by decide)) (fun _ => ?_)
  refine V.aload_n (j := 1) dX3_init_24 rfl rfl rfl ?_
  refine V.getP (x := (o + 1)) fl_X3_11 hk (show o < h.1 + 17 by omega) (by rw [pP_ne (by omega), kX2_at (by omega), nC_at, pP_ne (by omega), kX2_at (by omega), nC_at, pP_eq]) dX3_init_25 rfl ?_
  refine V.iload_n (j := 0) dX3_init_28 rfl rfl rfl ?_
  refine K.newc (Fre_pP (Fre_kX2 (Fre_nC (Fre_pP (Fre_kX2 (Fre_nC (Fre_pP (Fre_nC hF) (show o < h.1 + 1 by omega))) (show h.1 + 2 = o + 3 by omega) ) (show (o + 1) < h.1 + 9 by omega))) (show h.1 + 10 = o + 11 by omega) ) (show (o + 1) < h.1 + 17 by omega)) (show h.1 + 17 = o + 18 by omega) cl_X2 rfl (by decide) (ly_X3_18 hk).1 dv_X2 wq_x_X3_9 wq_a_RX2 wq_n_RX2 (Nat.le_of_ble_eq_true rfl) (Nat.le_of_ble_eq_true rfl) dX3_init_29 rfl ?_
  refine V.dup dX3_init_32 rfl rfl ?_
  refine V.callIN (As := []) (rest := [.ref (G.1 + (o + 18)), .int (2 : Int32), .ref (G.1 + (o + 1))]) hE.1 mic_X2_init rfl rfl rfl (mX2_init hE (ly_X3_18 hk).1 (Fre_nC (Fre_pP (Fre_kX2 (Fre_nC (Fre_pP (Fre_kX2 (Fre_nC (Fre_pP (Fre_nC hF) (show o < h.1 + 1 by omega))) (show h.1 + 2 = o + 3 by omega) ) (show (o + 1) < h.1 + 9 by omega))) (show h.1 + 10 = o + 11 by omega) ) (show (o + 1) < h.1 + 17 by omega))) (show h.1 + 18 = o + 19 by omega)) wq_z_X3_17 wq_i_yX2_init ⟨(Nat.le_of_ble_eq_true rfl), (Nat.le_of_ble_eq_true rfl)⟩ (Nat.le_of_ble_eq_true rfl) ⟨(Nat.le_of_ble_eq_true rfl), (Nat.le_of_ble_eq_true rfl)⟩ dX3_init_33 rfl rfl ?_
  rintro _ _ ⟨rfl, rfl⟩
  refine show V l G EX mi_X3_init ⟨2, 65, 400, 32⟩ _ _ _ 36 [(1, .int (2 : Int32)), (0, .ref (G.1 + o))] [.ref (G.1 + (o + 18)), .int (2 : Int32), .ref (G.1 + (o + 1))] (kX2 (o + 18) (nC (pP (kX2 (o + 10) (nC (pP (kX2 (o + 2) (nC (pP (nC h) o 0 (o + 1)))) (o + 1) 0 (o + 2)))) (o + 1) 1 (o + 10)))) from ?_
  refine K.aast (ci := 12) (kx := 1) (j := 2) (ly_X3_1 hk).1 (by decide) (show (o + 1) < h.1 + 25 by omega) (by rw [(ly_X3_1 hk).2]; decide) (by decide) (ly_X3_18 hk).1 (show (o + 18) < h.1 + 25 by omega) dX3_init_36 rfl ?_
  refine V.iinc (v := 3) [(1, .int (3 : Int32)), (0, .ref (G.1 + o))] (j := 0) rfl (by decide) (Nat.le_of_ble_eq_true rfl) rfl dX3_init_37 rfl ?_
  refine V.goto (q := 15) dX3_init_40 (by decide) ?_
  refine V.iload_n (j := 0) dX3_init_15 rfl rfl rfl ?_
  refine V.aload_n (j := 1) dX3_init_16 rfl rfl rfl ?_
  refine V.getP (x := (o + 1)) fl_X3_11 hk (show o < h.1 + 25 by omega) (by rw [pP_ne (by omega), kX2_at (by omega), nC_at, pP_ne (by omega), kX2_at (by omega), nC_at, pP_ne (by omega), kX2_at (by omega), nC_at, pP_eq]) dX3_init_17 rfl ?_
  refine V.alen (v := 8) (ci := 12) (ly_X3_1 hk).1 (by decide) (show (o + 1) < h.1 + 25 by omega) (by rw [(ly_X3_1 hk).2]; decide) dX3_init_20 rfl ?_
  refine V.icmp_ge (tgt := 43) (A := (none : Option Nat)) (B := some 0) (r := 0) (by decide) dX3_init_21 (by decide) rfl (fun hx => absurd hx (by decide)) (fun _ => ?_)
  refine V.aload_n (j := 1) dX3_init_24 rfl rfl rfl ?_
  refine V.getP (x := (o + 1)) fl_X3_11 hk (show o < h.1 + 25 by omega) (by rw [pP_ne (by omega), kX2_at (by omega), nC_at, pP_ne (by omega), kX2_at (by omega), nC_at, pP_ne (by omega), kX2_at (by omega), nC_at, pP_eq]) dX3_init_25 rfl ?_
  refine V.iload_n (j := 0) dX3_init_28 rfl rfl rfl ?_
  refine K.newc (Fre_pP (Fre_kX2 (Fre_nC (Fre_pP (Fre_kX2 (Fre_nC (Fre_pP (Fre_kX2 (Fre_nC (Fre_pP (Fre_nC hF) (show o < h.1 + 1 by omega))) (show h.1 + 2 = o + 3 by omega) ) (show (o + 1) < h.1 + 9 by omega))) (show h.1 + 10 = o + 11 by omega) ) (show (o + 1) < h.1 + 17 by omega))) (show h.1 + 18 = o + 19 by omega) ) (show (o + 1) < h.1 + 25 by omega)) (show h.1 + 25 = o + 26 by omega) cl_X2 rfl (by decide) (ly_X3_26 hk).1 dv_X2 wq_x_X3_9 wq_a_RX2 wq_n_RX2 (Nat.le_of_ble_eq_true rfl) (Nat.le_of_ble_eq_true rfl) dX3_init_29 rfl ?_
  refine V.dup dX3_init_32 rfl rfl ?_
  refine V.callIN (As := []) (rest := [.ref (G.1 + (o + 26)), .int (3 : Int32), .ref (G.1 + (o + 1))]) hE.1 mic_X2_init rfl rfl rfl (mX2_init hE (ly_X3_26 hk).1 (Fre_nC (Fre_pP (Fre_kX2 (Fre_nC (Fre_pP (Fre_kX2 (Fre_nC (Fre_pP (Fre_kX2 (Fre_nC (Fre_pP (Fre_nC hF) (show o < h.1 + 1 by omega))) (show h.1 + 2 = o + 3 by omega) ) (show (o + 1) < h.1 + 9 by omega))) (show h.1 + 10 = o + 11 by omega) ) (show (o + 1) < h.1 + 17 by omega))) (show h.1 + 18 = o + 19 by omega) ) (show (o + 1) < h.1 + 25 by omega))) (show h.1 + 26 = o + 27 by omega)) wq_z_X3_17 wq_i_yX2_init ⟨(Nat.le_of_ble_eq_true rfl), (Nat.le_of_ble_eq_true rfl)⟩ (Nat.le_of_ble_eq_true rfl) ⟨(Nat.le_of_ble_eq_true rfl), (Nat.le_of_ble_eq_true rfl)⟩ dX3_init_33 rfl rfl ?_
  rintro _ _ ⟨rfl, rfl⟩
  refine show V l G EX mi_X3_init ⟨2, 65, 400, 32⟩ _ _ _ 36 [(1, .int (3 : Int32)), (0, .ref (G.1 + o))] [.ref (G.1 + (o + 26)), .int (3 : Int32), .ref (G.1 + (o + 1))] (kX2 (o + 26) (nC (pP (kX2 (o + 18) (nC (pP (kX2 (o + 10) (nC (pP (kX2 (o + 2) (nC (pP (nC h) o 0 (o + 1)))) (o + 1) 0 (o + 2)))) (o + 1) 1 (o + 10)))) (o + 1) 2 (o + 18)))) from ?_
  refine K.aast (ci := 12) (kx := 1) (j := 3) (ly_X3_1 hk).1 (by decide) (show (o + 1) < h.1 + 33 by omega) (by rw [(ly_X3_1 hk).2]; decide) (by decide) (ly_X3_26 hk).1 (show (o + 26) < h.1 + 33 by omega) dX3_init_36 rfl ?_
  refine V.iinc (v := 4) [(1, .int (4 : Int32)), (0, .ref (G.1 + o))] (j := 0) rfl (by decide) (Nat.le_of_ble_eq_true rfl) rfl dX3_init_37 rfl ?_
  refine V.goto (q := 15) dX3_init_40 (by decide) ?_
  refine V.iload_n (j := 0) dX3_init_15 rfl rfl rfl ?_
  refine V.aload_n (j := 1) dX3_init_16 rfl rfl rfl ?_
  refine V.getP (x := (o + 1)) fl_X3_11 hk (show o < h.1 + 33 by omega) (by rw [pP_ne (by omega), kX2_at (by omega), nC_at, pP_ne (by omega), kX2_at (by omega), nC_at, pP_ne (by omega), kX2_at (by omega), nC_at, pP_ne (by omega), kX2_at (by omega), nC_at, pP_eq]) dX3_init_17 rfl ?_
  refine V.alen (v := 8) (ci := 12) (ly_X3_1 hk).1 (by decide) (show (o + 1) < h.1 + 33 by omega) (by rw [(ly_X3_1 hk).2]; decide) dX3_init_20 rfl ?_
  refine V.icmp_ge (tgt := 43) (A := (none : Option Nat)) (B := some 0) (r := 0) (by decide) dX3_init_21 (by decide) rfl (fun hx => absurd hx (by decide)) (fun _ => ?_)
  refine V.aload_n (j := 1) dX3_init_24 rfl rfl rfl ?_
  refine V.getP (x := (o + 1)) fl_X3_11 hk (show o < h.1 + 33 by omega) (by rw [pP_ne (by omega), kX2_at (by omega), nC_at, pP_ne (by omega), kX2_at (by omega), nC_at, pP_ne (by omega), kX2_at (by omega), nC_at, pP_ne (by omega), kX2_at (by omega), nC_at, pP_eq]) dX3_init_25 rfl ?_
  refine V.iload_n (j := 0) dX3_init_28 rfl rfl rfl ?_
  refine K.newc (Fre_pP (Fre_kX2 (Fre_nC (Fre_pP (Fre_kX2 (Fre_nC (Fre_pP (Fre_kX2 (Fre_nC (Fre_pP (Fre_kX2 (Fre_nC (Fre_pP (Fre_nC hF) (show o < h.1 + 1 by omega))) (show h.1 + 2 = o + 3 by omega) ) (show (o + 1) < h.1 + 9 by omega))) (show h.1 + 10 = o + 11 by omega) ) (show (o + 1) < h.1 + 17 by omega))) (show h.1 + 18 = o + 19 by omega) ) (show (o + 1) < h.1 + 25 by omega))) (show h.1 + 26 = o + 27 by omega) ) (show (o + 1) < h.1 + 33 by omega)) (show h.1 + 33 = o + 34 by omega) cl_X2 rfl (by decide) (ly_X3_34 hk).1 dv_X2 wq_x_X3_9 wq_a_RX2 wq_n_RX2 (Nat.le_of_ble_eq_true rfl) (Nat.le_of_ble_eq_true rfl) dX3_init_29 rfl ?_
  refine V.dup dX3_init_32 rfl rfl ?_
  refine V.callIN (As := []) (rest := [.ref (G.1 + (o + 34)), .int (4 : Int32), .ref (G.1 + (o + 1))]) hE.1 mic_X2_init rfl rfl rfl (mX2_init hE (ly_X3_34 hk).1 (Fre_nC (Fre_pP (Fre_kX2 (Fre_nC (Fre_pP (Fre_kX2 (Fre_nC (Fre_pP (Fre_kX2 (Fre_nC (Fre_pP (Fre_kX2 (Fre_nC (Fre_pP (Fre_nC hF) (show o < h.1 + 1 by omega))) (show h.1 + 2 = o + 3 by omega) ) (show (o + 1) < h.1 + 9 by omega))) (show h.1 + 10 = o + 11 by omega) ) (show (o + 1) < h.1 + 17 by omega))) (show h.1 + 18 = o + 19 by omega) ) (show (o + 1) < h.1 + 25 by omega))) (show h.1 + 26 = o + 27 by omega) ) (show (o + 1) < h.1 + 33 by omega))) (show h.1 + 34 = o + 35 by omega)) wq_z_X3_17 wq_i_yX2_init ⟨(Nat.le_of_ble_eq_true rfl), (Nat.le_of_ble_eq_true rfl)⟩ (Nat.le_of_ble_eq_true rfl) ⟨(Nat.le_of_ble_eq_true rfl), (Nat.le_of_ble_eq_true rfl)⟩ dX3_init_33 rfl rfl ?_
  rintro _ _ ⟨rfl, rfl⟩
  refine show V l G EX mi_X3_init ⟨2, 65, 400, 32⟩ _ _ _ 36 [(1, .int (4 : Int32)), (0, .ref (G.1 + o))] [.ref (G.1 + (o + 34)), .int (4 : Int32), .ref (G.1 + (o + 1))] (kX2 (o + 34) (nC (pP (kX2 (o + 26) (nC (pP (kX2 (o + 18) (nC (pP (kX2 (o + 10) (nC (pP (kX2 (o + 2) (nC (pP (nC h) o 0 (o + 1)))) (o + 1) 0 (o + 2)))) (o + 1) 1 (o + 10)))) (o + 1) 2 (o + 18)))) (o + 1) 3 (o + 26)))) from ?_
  refine K.aast (ci := 12) (kx := 1) (j := 4) (ly_X3_1 hk).1 (by decide) (show (o + 1) < h.1 + 41 by omega) (by rw [(ly_X3_1 hk).2]; decide) (by decide) (ly_X3_34 hk).1 (show (o + 34) < h.1 + 41 by omega) dX3_init_36 rfl ?_
  refine V.iinc (v := 5) [(1, .int (5 : Int32)), (0, .ref (G.1 + o))] (j := 0) rfl (by decide) (Nat.le_of_ble_eq_true rfl) rfl dX3_init_37 rfl ?_
  refine V.goto (q := 15) dX3_init_40 (by decide) ?_
  refine V.iload_n (j := 0) dX3_init_15 rfl rfl rfl ?_
  refine V.aload_n (j := 1) dX3_init_16 rfl rfl rfl ?_
  refine V.getP (x := (o + 1)) fl_X3_11 hk (show o < h.1 + 41 by omega) (by rw [pP_ne (by omega), kX2_at (by omega), nC_at, pP_ne (by omega), kX2_at (by omega), nC_at, pP_ne (by omega), kX2_at (by omega), nC_at, pP_ne (by omega), kX2_at (by omega), nC_at, pP_ne (by omega), kX2_at (by omega), nC_at, pP_eq]) dX3_init_17 rfl ?_
  refine V.alen (v := 8) (ci := 12) (ly_X3_1 hk).1 (by decide) (show (o + 1) < h.1 + 41 by omega) (by rw [(ly_X3_1 hk).2]; decide) dX3_init_20 rfl ?_
  refine V.icmp_ge (tgt := 43) (A := (none : Option Nat)) (B := some 0) (r := 0) (by decide) dX3_init_21 (by decide) rfl (fun hx => absurd hx (by decide)) (fun _ => ?_)
  refine V.aload_n (j := 1) dX3_init_24 rfl rfl rfl ?_
  refine V.getP (x := (o + 1)) fl_X3_11 hk (show o < h.1 + 41 by omega) (by rw [pP_ne (by omega), kX2_at (by omega), nC_at, pP_ne (by omega), kX2_at (by omega), nC_at, pP_ne (by omega), kX2_at (by omega), nC_at, pP_ne (by omega), kX2_at (by omega), nC_at, pP_ne (by omega), kX2_at (by omega), nC_at, pP_eq]) dX3_init_25 rfl ?_
  refine V.iload_n (j := 0) dX3_init_28 rfl rfl rfl ?_
  refine K.newc (Fre_pP (Fre_kX2 (Fre_nC (Fre_pP (Fre_kX2 (Fre_nC (Fre_pP (Fre_kX2 (Fre_nC (Fre_pP (Fre_kX2 (Fre_nC (Fre_pP (Fre_kX2 (Fre_nC (Fre_pP (Fre_nC hF) (show o < h.1 + 1 by omega))) (show h.1 + 2 = o + 3 by omega) ) (show (o + 1) < h.1 + 9 by omega))) (show h.1 + 10 = o + 11 by omega) ) (show (o + 1) < h.1 + 17 by omega))) (show h.1 + 18 = o + 19 by omega) ) (show (o + 1) < h.1 + 25 by omega))) (show h.1 + 26 = o + 27 by omega) ) (show (o + 1) < h.1 + 33 by omega))) (show h.1 + 34 = o + 35 by omega) ) (show (o + 1) < h.1 + 41 by omega)) (show h.1 + 41 = o + 42 by omega) cl_X2 rfl (by decide) (ly_X3_42 hk).1 dv_X2 wq_x_X3_9 wq_a_RX2 wq_n_RX2 (Nat.le_of_ble_eq_true rfl) (Nat.le_of_ble_eq_true rfl) dX3_init_29 rfl ?_
  refine V.dup dX3_init_32 rfl rfl ?_
  refine V.callIN (As := []) (rest := [.ref (G.1 + (o + 42)), .int (5 : Int32), .ref (G.1 + (o + 1))]) hE.1 mic_X2_init rfl rfl rfl (mX2_init hE (ly_X3_42 hk).1 (Fre_nC (Fre_pP (Fre_kX2 (Fre_nC (Fre_pP (Fre_kX2 (Fre_nC (Fre_pP (Fre_kX2 (Fre_nC (Fre_pP (Fre_kX2 (Fre_nC (Fre_pP (Fre_kX2 (Fre_nC (Fre_pP (Fre_nC hF) (show o < h.1 + 1 by omega))) (show h.1 + 2 = o + 3 by omega) ) (show (o + 1) < h.1 + 9 by omega))) (show h.1 + 10 = o + 11 by omega) ) (show (o + 1) < h.1 + 17 by omega))) (show h.1 + 18 = o + 19 by omega) ) (show (o + 1) < h.1 + 25 by omega))) (show h.1 + 26 = o + 27 by omega) ) (show (o + 1) < h.1 + 33 by omega))) (show h.1 + 34 = o + 35 by omega) ) (show (o + 1) < h.1 + 41 by omega))) (show h.1 + 42 = o + 43 by omega)) wq_z_X3_17 wq_i_yX2_init ⟨(Nat.le_of_ble_eq_true rfl), (Nat.le_of_ble_eq_true rfl)⟩ (Nat.le_of_ble_eq_true rfl) ⟨(Nat.le_of_ble_eq_true rfl), (Nat.le_of_ble_eq_true rfl)⟩ dX3_init_33 rfl rfl ?_
  rintro _ _ ⟨rfl, rfl⟩
  refine show V l G EX mi_X3_init ⟨2, 65, 400, 32⟩ _ _ _ 36 [(1, .int (5 : Int32)), (0, .ref (G.1 + o))] [.ref (G.1 + (o + 42)), .int (5 : Int32), .ref (G.1 + (o + 1))] (kX2 (o + 42) (nC (pP (kX2 (o + 34) (nC (pP (kX2 (o + 26) (nC (pP (kX2 (o + 18) (nC (pP (kX2 (o + 10) (nC (pP (kX2 (o + 2) (nC (pP (nC h) o 0 (o + 1)))) (o + 1) 0 (o + 2)))) (o + 1) 1 (o + 10)))) (o + 1) 2 (o + 18)))) (o + 1) 3 (o + 26)))) (o + 1) 4 (o + 34)))) from ?_
  refine K.aast (ci := 12) (kx := 1) (j := 5) (ly_X3_1 hk).1 (by decide) (show (o + 1) < h.1 + 49 by omega) (by rw [(ly_X3_1 hk).2]; decide) (by decide) (ly_X3_42 hk).1 (show (o + 42) < h.1 + 49 by omega) dX3_init_36 rfl ?_
  refine V.iinc (v := 6) [(1, .int (6 : Int32)), (0, .ref (G.1 + o))] (j := 0) rfl (by decide) (Nat.le_of_ble_eq_true rfl) rfl dX3_init_37 rfl ?_
  refine V.goto (q := 15) dX3_init_40 (by decide) ?_
  refine V.iload_n (j := 0) dX3_init_15 rfl rfl rfl ?_
  refine V.aload_n (j := 1) dX3_init_16 rfl rfl rfl ?_
  refine V.getP (x := (o + 1)) fl_X3_11 hk (show o < h.1 + 49 by omega) (by rw [pP_ne (by omega), kX2_at (by omega), nC_at, pP_ne (by omega), kX2_at (by omega), nC_at, pP_ne (by omega), kX2_at (by omega), nC_at, pP_ne (by omega), kX2_at (by omega), nC_at, pP_ne (by omega), kX2_at (by omega), nC_at, pP_ne (by omega), kX2_at (by omega), nC_at, pP_eq]) dX3_init_17 rfl ?_
  refine V.alen (v := 8) (ci := 12) (ly_X3_1 hk).1 (by decide) (show (o + 1) < h.1 + 49 by omega) (by rw [(ly_X3_1 hk).2]; decide) dX3_init_20 rfl ?_
  refine V.icmp_ge (tgt := 43) (A := (none : Option Nat)) (B := some 0) (r := 0) (by decide) dX3_init_21 (by decide) rfl (fun hx => absurd hx (by decide)) (fun _ => ?_)
  refine V.aload_n (j := 1) dX3_init_24 rfl rfl rfl ?_
  refine V.getP (x := (o + 1)) fl_X3_11 hk (show o < h.1 + 49 by omega) (by rw [pP_ne (by omega), kX2_at (by omega), nC_at, pP_ne (by omega), kX2_at (by omega), nC_at, pP_ne (by omega), kX2_at (by omega), nC_at, pP_ne (by omega), kX2_at (by omega), nC_at, pP_ne (by omega), kX2_at (by omega), nC_at, pP_ne (by omega), kX2_at (by omega), nC_at, pP_eq]) dX3_init_25 rfl ?_
  refine V.iload_n (j := 0) dX3_init_28 rfl rfl rfl ?_
  refine K.newc (Fre_pP (Fre_kX2 (Fre_nC (Fre_pP (Fre_kX2 (Fre_nC (Fre_pP (Fre_kX2 (Fre_nC (Fre_pP (Fre_kX2 (Fre_nC (Fre_pP (Fre_kX2 (Fre_nC (Fre_pP (Fre_kX2 (Fre_nC (Fre_pP (Fre_nC hF) (show o < h.1 + 1 by omega))) (show h.1 + 2 = o + 3 by omega) ) (show (o + 1) < h.1 + 9 by omega))) (show h.1 + 10 = o + 11 by omega) ) (show (o + 1) < h.1 + 17 by omega))) (show h.1 + 18 = o + 19 by omega) ) (show (o + 1) < h.1 + 25 by omega))) (show h.1 + 26 = o + 27 by omega) ) (show (o + 1) < h.1 + 33 by omega))) (show h.1 + 34 = o + 35 by omega) ) (show (o + 1) < h.1 + 41 by omega))) (show h.1 + 42 = o + 43 by omega) ) (show (o + 1) < h.1 + 49 by omega)) (show h.1 + 49 = o + 50 by omega) cl_X2 rfl (by decide) (ly_X3_50 hk).1 dv_X2 wq_x_X3_9 wq_a_RX2 wq_n_RX2 (Nat.le_of_ble_eq_true rfl) (Nat.le_of_ble_eq_true rfl) dX3_init_29 rfl ?_
  refine V.dup dX3_init_32 rfl rfl ?_
  refine V.callIN (As := []) (rest := [.ref (G.1 + (o + 50)), .int (6 : Int32), .ref (G.1 + (o + 1))]) hE.1 mic_X2_init rfl rfl rfl (mX2_init hE (ly_X3_50 hk).1 (Fre_nC (Fre_pP (Fre_kX2 (Fre_nC (Fre_pP (Fre_kX2 (Fre_nC (Fre_pP (Fre_kX2 (Fre_nC (Fre_pP (Fre_kX2 (Fre_nC (Fre_pP (Fre_kX2 (Fre_nC (Fre_pP (Fre_kX2 (Fre_nC (Fre_pP (Fre_nC hF) (show o < h.1 + 1 by omega))) (show h.1 + 2 = o + 3 by omega) ) (show (o + 1) < h.1 + 9 by omega))) (show h.1 + 10 = o + 11 by omega) ) (show (o + 1) < h.1 + 17 by omega))) (show h.1 + 18 = o + 19 by omega) ) (show (o + 1) < h.1 + 25 by omega))) (show h.1 + 26 = o + 27 by omega) ) (show (o + 1) < h.1 + 33 by omega))) (show h.1 + 34 = o + 35 by omega) ) (show (o + 1) < h.1 + 41 by omega))) (show h.1 + 42 = o + 43 by omega) ) (show (o + 1) < h.1 + 49 by omega))) (show h.1 + 50 = o + 51 by omega)) wq_z_X3_17 wq_i_yX2_init ⟨(Nat.le_of_ble_eq_true rfl), (Nat.le_of_ble_eq_true rfl)⟩ (Nat.le_of_ble_eq_true rfl) ⟨(Nat.le_of_ble_eq_true rfl), (Nat.le_of_ble_eq_true rfl)⟩ dX3_init_33 rfl rfl ?_
  rintro _ _ ⟨rfl, rfl⟩
  refine show V l G EX mi_X3_init ⟨2, 65, 400, 32⟩ _ _ _ 36 [(1, .int (6 : Int32)), (0, .ref (G.1 + o))] [.ref (G.1 + (o + 50)), .int (6 : Int32), .ref (G.1 + (o + 1))] (kX2 (o + 50) (nC (pP (kX2 (o + 42) (nC (pP (kX2 (o + 34) (nC (pP (kX2 (o + 26) (nC (pP (kX2 (o + 18) (nC (pP (kX2 (o + 10) (nC (pP (kX2 (o + 2) (nC (pP (nC h) o 0 (o + 1)))) (o + 1) 0 (o + 2)))) (o + 1) 1 (o + 10)))) (o + 1) 2 (o + 18)))) (o + 1) 3 (o + 26)))) (o + 1) 4 (o + 34)))) (o + 1) 5 (o + 42)))) from ?_
  refine K.aast (ci := 12) (kx := 1) (j := 6) (ly_X3_1 hk).1 (by decide) (show (o + 1) < h.1 + 57 by omega) (by rw [(ly_X3_1 hk).2]; decide) (by decide) (ly_X3_50 hk).1 (show (o + 50) < h.1 + 57 by omega) dX3_init_36 rfl ?_
  refine V.iinc (v := 7) [(1, .int (7 : Int32)), (0, .ref (G.1 + o))] (j := 0) rfl (by decide) (Nat.le_of_ble_eq_true rfl) rfl dX3_init_37 rfl ?_
  refine V.goto (q := 15) dX3_init_40 (by decide) ?_
  refine V.iload_n (j := 0) dX3_init_15 rfl rfl rfl ?_
  refine V.aload_n (j := 1) dX3_init_16 rfl rfl rfl ?_
  refine V.getP (x := (o + 1)) fl_X3_11 hk (show o < h.1 + 57 by omega) (by rw [pP_ne (by omega), kX2_at (by omega), nC_at, pP_ne (by omega), kX2_at (by omega), nC_at, pP_ne (by omega), kX2_at (by omega), nC_at, pP_ne (by omega), kX2_at (by omega), nC_at, pP_ne (by omega), kX2_at (by omega), nC_at, pP_ne (by omega), kX2_at (by omega), nC_at, pP_ne (by omega), kX2_at (by omega), nC_at, pP_eq]) dX3_init_17 rfl ?_
  refine V.alen (v := 8) (ci := 12) (ly_X3_1 hk).1 (by decide) (show (o + 1) < h.1 + 57 by omega) (by rw [(ly_X3_1 hk).2]; decide) dX3_init_20 rfl ?_
  refine V.icmp_ge (tgt := 43) (A := (none : Option Nat)) (B := some 0) (r := 0) (by decide) dX3_init_21 (by decide) rfl (fun hx => absurd hx (by decide)) (fun _ => ?_)
  refine V.aload_n (j := 1) dX3_init_24 rfl rfl rfl ?_
  refine V.getP (x := (o + 1)) fl_X3_11 hk (show o < h.1 + 57 by omega) (by rw [pP_ne (by omega), kX2_at (by omega), nC_at, pP_ne (by omega), kX2_at (by omega), nC_at, pP_ne (by omega), kX2_at (by omega), nC_at, pP_ne (by omega), kX2_at (by omega), nC_at, pP_ne (by omega), kX2_at (by omega), nC_at, pP_ne (by omega), kX2_at (by omega), nC_at, pP_ne (by omega), kX2_at (by omega), nC_at, pP_eq]) dX3_init_25 rfl ?_
  refine V.iload_n (j := 0) dX3_init_28 rfl rfl rfl ?_
  refine K.newc (Fre_pP (Fre_kX2 (Fre_nC (Fre_pP (Fre_kX2 (Fre_nC (Fre_pP (Fre_kX2 (Fre_nC (Fre_pP (Fre_kX2 (Fre_nC (Fre_pP (Fre_kX2 (Fre_nC (Fre_pP (Fre_kX2 (Fre_nC (Fre_pP (Fre_kX2 (Fre_nC (Fre_pP (Fre_nC hF) (show o < h.1 + 1 by omega))) (show h.1 + 2 = o + 3 by omega) ) (show (o + 1) < h.1 + 9 by omega))) (show h.1 + 10 = o + 11 by omega) ) (show (o + 1) < h.1 + 17 by omega))) (show h.1 + 18 = o + 19 by omega) ) (show (o + 1) < h.1 + 25 by omega))) (show h.1 + 26 = o + 27 by omega) ) (show (o + 1) < h.1 + 33 by omega))) (show h.1 + 34 = o + 35 by omega) ) (show (o + 1) < h.1 + 41 by omega))) (show h.1 + 42 = o + 43 by omega) ) (show (o + 1) < h.1 + 49 by omega))) (show h.1 + 50 = o + 51 by omega) ) (show (o + 1) < h.1 + 57 by omega)) (show h.1 + 57 = o + 58 by omega) cl_X2 rfl (by decide) (ly_X3_58 hk).1 dv_X2 wq_x_X3_9 wq_a_RX2 wq_n_RX2 (Nat.le_of_ble_eq_true rfl) (Nat.le_of_ble_eq_true rfl) dX3_init_29 rfl ?_
  refine V.dup dX3_init_32 rfl rfl ?_
  refine V.callIN (As := []) (rest := [.ref (G.1 + (o + 58)), .int (7 : Int32), .ref (G.1 + (o + 1))]) hE.1 mic_X2_init rfl rfl rfl (mX2_init hE (ly_X3_58 hk).1 (Fre_nC (Fre_pP (Fre_kX2 (Fre_nC (Fre_pP (Fre_kX2 (Fre_nC (Fre_pP (Fre_kX2 (Fre_nC (Fre_pP (Fre_kX2 (Fre_nC (Fre_pP (Fre_kX2 (Fre_nC (Fre_pP (Fre_kX2 (Fre_nC (Fre_pP (Fre_kX2 (Fre_nC (Fre_pP (Fre_nC hF) (show o < h.1 + 1 by omega))) (show h.1 + 2 = o + 3 by omega) ) (show (o + 1) < h.1 + 9 by omega))) (show h.1 + 10 = o + 11 by omega) ) (show (o + 1) < h.1 + 17 by omega))) (show h.1 + 18 = o + 19 by omega) ) (show (o + 1) < h.1 + 25 by omega))) (show h.1 + 26 = o + 27 by omega) ) (show (o + 1) < h.1 + 33 by omega))) (show h.1 + 34 = o + 35 by omega) ) (show (o + 1) < h.1 + 41 by omega))) (show h.1 + 42 = o + 43 by omega) ) (show (o + 1) < h.1 + 49 by omega))) (show h.1 + 50 = o + 51 by omega) ) (show (o + 1) < h.1 + 57 by omega))) (show h.1 + 58 = o + 59 by omega)) wq_z_X3_17 wq_i_yX2_init ⟨(Nat.le_of_ble_eq_true rfl), (Nat.le_of_ble_eq_true rfl)⟩ (Nat.le_of_ble_eq_true rfl) ⟨(Nat.le_of_ble_eq_true rfl), (Nat.le_of_ble_eq_true rfl)⟩ dX3_init_33 rfl rfl ?_
  rintro _ _ ⟨rfl, rfl⟩
  refine show V l G EX mi_X3_init ⟨2, 65, 400, 32⟩ _ _ _ 36 [(1, .int (7 : Int32)), (0, .ref (G.1 + o))] [.ref (G.1 + (o + 58)), .int (7 : Int32), .ref (G.1 + (o + 1))] (kX2 (o + 58) (nC (pP (kX2 (o + 50) (nC (pP (kX2 (o + 42) (nC (pP (kX2 (o + 34) (nC (pP (kX2 (o + 26) (nC (pP (kX2 (o + 18) (nC (pP (kX2 (o + 10) (nC (pP (kX2 (o + 2) (nC (pP (nC h) o 0 (o + 1)))) (o + 1) 0 (o + 2)))) (o + 1) 1 (o + 10)))) (o + 1) 2 (o + 18)))) (o + 1) 3 (o + 26)))) (o + 1) 4 (o + 34)))) (o + 1) 5 (o + 42)))) (o + 1) 6 (o + 50)))) from ?_
  refine K.aast (ci := 12) (kx := 1) (j := 7) (ly_X3_1 hk).1 (by decide) (show (o + 1) < h.1 + 65 by omega) (by rw [(ly_X3_1 hk).2]; decide) (by decide) (ly_X3_58 hk).1 (show (o + 58) < h.1 + 65 by omega) dX3_init_36 rfl ?_
  refine V.iinc (v := 8) [(1, .int (8 : Int32)), (0, .ref (G.1 + o))] (j := 0) rfl (by decide) (Nat.le_of_ble_eq_true rfl) rfl dX3_init_37 rfl ?_
  refine V.goto (q := 15) dX3_init_40 (by decide) ?_
  refine V.iload_n (j := 0) dX3_init_15 rfl rfl rfl ?_
  refine V.aload_n (j := 1) dX3_init_16 rfl rfl rfl ?_
  refine V.getP (x := (o + 1)) fl_X3_11 hk (show o < h.1 + 65 by omega) (by rw [pP_ne (by omega), kX2_at (by omega), nC_at, pP_ne (by omega), kX2_at (by omega), nC_at, pP_ne (by omega), kX2_at (by omega), nC_at, pP_ne (by omega), kX2_at (by omega), nC_at, pP_ne (by omega), kX2_at (by omega), nC_at, pP_ne (by omega), kX2_at (by omega), nC_at, pP_ne (by omega), kX2_at (by omega), nC_at, pP_ne (by omega), kX2_at (by omega), nC_at, pP_eq]) dX3_init_17 rfl ?_
  refine V.alen (v := 8) (ci := 12) (ly_X3_1 hk).1 (by decide) (show (o + 1) < h.1 + 65 by omega) (by rw [(ly_X3_1 hk).2]; decide) dX3_init_20 rfl ?_
  refine V.icmp_ge (tgt := 43) (A := some 0) (B := (none : Option Nat)) (r := 0) (by decide) dX3_init_21 (by decide) rfl (fun _ => ?_) (fun hx => absurd hx (by decide))
  exact V.ret0 rfl (Nat.le_of_ble_eq_true rfl) (Nat.le_of_ble_eq_true rfl) dX3_init_43 ⟨rfl, rfl⟩
theorem ly_X6_1 {o : Nat} (h : KD o = 5) : KD (o + 1) = 9 ∧ SZ (o + 1) = 30 := (by decide +kernel : ∀ o, o < NN → KD o = 5 → KD (o + 1) = 9 ∧ SZ (o + 1) = 30) o (KD_lt' h (by decide)) h
abbrev mi_X6_init : MI := (yX6_init, cX6_init, 1, none)
theorem mic_X6_init : MIc mi_X6_init 0 := ⟨⟨wq_c_yX6_init, by decide⟩, wq_n_RX6, by decide +kernel⟩
def kX6 (o : Nat) (h : FH) : FH := (pP (nC h) o 0 (o + 1))
set_option maxRecDepth 100000 in
theorem kX6_1 {o : Nat} {h : FH} : (kX6 o h).1 = h.1 + 1 := rfl
theorem kX6_at {o a b : Nat} {h : FH} (ha : a < o) : (kX6 o h).2.1 a b = h.2.1 a b := by
  unfold kX6
  rw [pP_ne (by omega), nC_at]
set_option maxRecDepth 100000 in
theorem Fre_kX6 {o : Nat} {h : FH} (hF : Fre h) (e : h.1 = o + 1) : Fre (kX6 o h) := by
  unfold kX6
  exact (Fre_pP (Fre_nC hF) (show o < h.1 + 1 by omega))
set_option maxRecDepth 100000 in
set_option maxHeartbeats 4000000 in
theorem mX6_init {l : Launch} {G : GG} {EX : State → Prop} (hE : EXB G EX) {o : Nat} {h : FH} (hk : KD o = 5) (hF : Fre h) (e : h.1 = o + 1) : Met l mi_X6_init.1 (Cond.code mi_X6_init.1 mi_X6_init.2.1 mi_X6_init.2.2.1 mi_X6_init.2.2.2 :: WS) ⟨1, 1, 30, 12⟩ (PcG G [.ref (G.1 + o)] h EX) (QcG G (fun w f => w = none ∧ f = kX6 o h)) 1 30 (AA G) := by
  refine V.met mic_X6_init.1 (Nat.le_of_ble_eq_true rfl) ?_
  refine show V l G EX mi_X6_init ⟨1, 1, 30, 12⟩ _ 0 0 0 [(0, .ref (G.1 + o))] [] h from ?_
  refine V.aload_n (j := 0) dX6_init_0 rfl rfl rfl ?_
  refine V.objInit wq_m_X6_3 wq_i_objectInit wq_cobj (Nat.le_of_ble_eq_true rfl) (Nat.le_of_ble_eq_true rfl) dX6_init_1 rfl ?_
  refine V.aload_n (j := 0) dX6_init_4 rfl rfl rfl ?_
  refine V.bipush (v := 30) dX6_init_5 rfl (by decide +kernel) ?_
  refine K.newa (at1 := .int) (ty := .int) (N := 30) hF (show h.1 = o + 1 by omega) (by decide) rfl (ly_X6_1 hk).1 (ly_X6_1 hk).2 (by decide) (by decide +kernel) (by decide) wq_ac_int (Nat.le_of_ble_eq_true rfl) (Nat.le_of_ble_eq_true rfl) dX6_init_7 rfl ?_
  refine K.putP (x := (o + 1)) fl_X6_9 hk (show o < h.1 + 1 by omega) rfl rfl rfl rfl rfl dX6_init_9 rfl ?_
  exact V.ret0 rfl (Nat.le_of_ble_eq_true rfl) (Nat.le_of_ble_eq_true rfl) dX6_init_12 ⟨rfl, rfl⟩
theorem ly_X0_1 {o : Nat} (h : KD o = 0) : KD (o + 1) = 1 ∧ SZ (o + 1) = 11 := (by decide +kernel : ∀ o, o < NN → KD o = 0 → KD (o + 1) = 1 ∧ SZ (o + 1) = 11) o (KD_lt' h (by decide)) h
theorem ly_X0_9 {o : Nat} (h : KD o = 0) : KD (o + 9) = 2 ∧ SZ (o + 9) = 2 := (by decide +kernel : ∀ o, o < NN → KD o = 0 → KD (o + 9) = 2 ∧ SZ (o + 9) = 2) o (KD_lt' h (by decide)) h
theorem ly_X0_75 {o : Nat} (h : KD o = 0) : KD (o + 75) = 5 ∧ SZ (o + 75) = 2 := (by decide +kernel : ∀ o, o < NN → KD o = 0 → KD (o + 75) = 5 ∧ SZ (o + 75) = 2) o (KD_lt' h (by decide)) h
theorem ly_X0_77 {o : Nat} (h : KD o = 0) : KD (o + 77) = 5 ∧ SZ (o + 77) = 2 := (by decide +kernel : ∀ o, o < NN → KD o = 0 → KD (o + 77) = 5 ∧ SZ (o + 77) = 2) o (KD_lt' h (by decide)) h
theorem ly_X0_79 {o : Nat} (h : KD o = 0) : KD (o + 79) = 5 ∧ SZ (o + 79) = 2 := (by decide +kernel : ∀ o, o < NN → KD o = 0 → KD (o + 79) = 5 ∧ SZ (o + 79) = 2) o (KD_lt' h (by decide)) h
abbrev mi_X0_init : MI := (yX0_init, cX0_init, 1, none)
theorem mic_X0_init : MIc mi_X0_init 0 := ⟨⟨wq_c_yX0_init, by decide⟩, wq_n_RX0, by decide +kernel⟩
def kX0 (o : Nat) (h : FH) : FH := (pP (kX6 (o + 79) (nC (pP (kX6 (o + 77) (nC (pP (kX6 (o + 75) (nC (pP (kX3 (o + 9) (nC (pP (kX2 (o + 1) (nC h)) o 0 (o + 1)))) o 1 (o + 9)))) o 2 (o + 75)))) o 3 (o + 77)))) o 4 (o + 79))
set_option maxRecDepth 100000 in
theorem kX0_1 {o : Nat} {h : FH} : (kX0 o h).1 = h.1 + 80 := rfl
theorem kX0_at {o a b : Nat} {h : FH} (ha : a < o) : (kX0 o h).2.1 a b = h.2.1 a b := by
  unfold kX0
  rw [pP_ne (by omega), kX6_at (by omega), nC_at, pP_ne (by omega), kX6_at (by omega), nC_at, pP_ne (by omega), kX6_at (by omega), nC_at, pP_ne (by omega), kX3_at (by omega), nC_at, pP_ne (by omega), kX2_at (by omega), nC_at]
set_option maxRecDepth 100000 in
theorem Fre_kX0 {o : Nat} {h : FH} (hF : Fre h) (e : h.1 = o + 1) : Fre (kX0 o h) := by
  unfold kX0
  exact (Fre_pP (Fre_kX6 (Fre_nC (Fre_pP (Fre_kX6 (Fre_nC (Fre_pP (Fre_kX6 (Fre_nC (Fre_pP (Fre_kX3 (Fre_nC (Fre_pP (Fre_kX2 (Fre_nC hF) (show h.1 + 1 = o + 2 by omega) ) (show o < h.1 + 8 by omega))) (show h.1 + 9 = o + 10 by omega) ) (show o < h.1 + 74 by omega))) (show h.1 + 75 = o + 76 by omega) ) (show o < h.1 + 76 by omega))) (show h.1 + 77 = o + 78 by omega) ) (show o < h.1 + 78 by omega))) (show h.1 + 79 = o + 80 by omega) ) (show o < h.1 + 80 by omega))
set_option maxRecDepth 100000 in
set_option maxHeartbeats 4000000 in
theorem mX0_init {l : Launch} {G : GG} {EX : State → Prop} (hE : EXB G EX) {o : Nat} {h : FH} (hk : KD o = 0) (hF : Fre h) (e : h.1 = o + 1) : Met l mi_X0_init.1 (Cond.code mi_X0_init.1 mi_X0_init.2.1 mi_X0_init.2.2.1 mi_X0_init.2.2.2 :: WS) ⟨3, 80, 547, 53⟩ (PcG G [.ref (G.1 + o)] h EX) (QcG G (fun w f => w = none ∧ f = kX0 o h)) 80 547 (AA G) := by
  refine V.met mic_X0_init.1 (Nat.le_of_ble_eq_true rfl) ?_
  refine show V l G EX mi_X0_init ⟨3, 80, 547, 53⟩ _ 0 0 0 [(0, .ref (G.1 + o))] [] h from ?_
  refine V.aload_n (j := 0) dX0_init_0 rfl rfl rfl ?_
  refine V.objInit wq_m_X0_1 wq_i_objectInit wq_cobj (Nat.le_of_ble_eq_true rfl) (Nat.le_of_ble_eq_true rfl) dX0_init_1 rfl ?_
  refine V.aload_n (j := 0) dX0_init_4 rfl rfl rfl ?_
  refine K.newc hF (show h.1 = o + 1 by omega) cl_X2 rfl (by decide) (ly_X0_1 hk).1 dv_X2 wq_x_X0_7 wq_a_RX2 wq_n_RX2 (Nat.le_of_ble_eq_true rfl) (Nat.le_of_ble_eq_true rfl) dX0_init_5 rfl ?_
  refine V.dup dX0_init_8 rfl rfl ?_
  refine V.callIN (As := []) (rest := [.ref (G.1 + (o + 1)), .ref (G.1 + o)]) hE.1 mic_X2_init rfl rfl rfl (mX2_init hE (ly_X0_1 hk).1 (Fre_nC hF) (show h.1 + 1 = o + 2 by omega)) wq_z_X0_9 wq_i_yX2_init ⟨(Nat.le_of_ble_eq_true rfl), (Nat.le_of_ble_eq_true rfl)⟩ (Nat.le_of_ble_eq_true rfl) ⟨(Nat.le_of_ble_eq_true rfl), (Nat.le_of_ble_eq_true rfl)⟩ dX0_init_9 rfl rfl ?_
  rintro _ _ ⟨rfl, rfl⟩
  refine show V l G EX mi_X0_init ⟨3, 80, 547, 53⟩ _ _ _ 12 [(0, .ref (G.1 + o))] [.ref (G.1 + (o + 1)), .ref (G.1 + o)] (kX2 (o + 1) (nC h)) from ?_
  refine K.putP (x := (o + 1)) fl_X0_10 hk (show o < h.1 + 8 by omega) rfl rfl rfl rfl rfl dX0_init_12 rfl ?_
  refine V.aload_n (j := 0) dX0_init_15 rfl rfl rfl ?_
  refine K.newc (Fre_pP (Fre_kX2 (Fre_nC hF) (show h.1 + 1 = o + 2 by omega) ) (show o < h.1 + 8 by omega)) (show h.1 + 8 = o + 9 by omega) cl_X3 rfl (by decide) (ly_X0_9 hk).1 dv_X3 wq_x_X0_16 wq_a_RX3 wq_n_RX3 (Nat.le_of_ble_eq_true rfl) (Nat.le_of_ble_eq_true rfl) dX0_init_16 rfl ?_
  refine V.dup dX0_init_19 rfl rfl ?_
  refine V.callI (As := []) (rest := [.ref (G.1 + (o + 9)), .ref (G.1 + o)]) hE.1 mic_X3_init rfl rfl rfl (mX3_init hE (ly_X0_9 hk).1 (Fre_nC (Fre_pP (Fre_kX2 (Fre_nC hF) (show h.1 + 1 = o + 2 by omega) ) (show o < h.1 + 8 by omega))) (show h.1 + 9 = o + 10 by omega)) wq_m_X0_18 wq_i_yX3_init ⟨(Nat.le_of_ble_eq_true rfl), (Nat.le_of_ble_eq_true rfl)⟩ (Nat.le_of_ble_eq_true rfl) ⟨(Nat.le_of_ble_eq_true rfl), (Nat.le_of_ble_eq_true rfl)⟩ dX0_init_20 rfl rfl ?_
  rintro _ _ ⟨rfl, rfl⟩
  refine show V l G EX mi_X0_init ⟨3, 80, 547, 53⟩ _ _ _ 23 [(0, .ref (G.1 + o))] [.ref (G.1 + (o + 9)), .ref (G.1 + o)] (kX3 (o + 9) (nC (pP (kX2 (o + 1) (nC h)) o 0 (o + 1)))) from ?_
  refine K.putP (x := (o + 9)) fl_X0_19 hk (show o < h.1 + 74 by omega) rfl rfl rfl rfl rfl dX0_init_23 rfl ?_
  refine V.aload_n (j := 0) dX0_init_26 rfl rfl rfl ?_
  refine K.newc (Fre_pP (Fre_kX3 (Fre_nC (Fre_pP (Fre_kX2 (Fre_nC hF) (show h.1 + 1 = o + 2 by omega) ) (show o < h.1 + 8 by omega))) (show h.1 + 9 = o + 10 by omega) ) (show o < h.1 + 74 by omega)) (show h.1 + 74 = o + 75 by omega) cl_X6 rfl (by decide) (ly_X0_75 hk).1 dv_X6 wq_x_X0_23 wq_a_RX6 wq_n_RX6 (Nat.le_of_ble_eq_true rfl) (Nat.le_of_ble_eq_true rfl) dX0_init_27 rfl ?_
  refine V.dup dX0_init_30 rfl rfl ?_
  refine V.callIN (As := []) (rest := [.ref (G.1 + (o + 75)), .ref (G.1 + o)]) hE.1 mic_X6_init rfl rfl rfl (mX6_init hE (ly_X0_75 hk).1 (Fre_nC (Fre_pP (Fre_kX3 (Fre_nC (Fre_pP (Fre_kX2 (Fre_nC hF) (show h.1 + 1 = o + 2 by omega) ) (show o < h.1 + 8 by omega))) (show h.1 + 9 = o + 10 by omega) ) (show o < h.1 + 74 by omega))) (show h.1 + 75 = o + 76 by omega)) wq_z_X0_25 wq_i_yX6_init ⟨(Nat.le_of_ble_eq_true rfl), (Nat.le_of_ble_eq_true rfl)⟩ (Nat.le_of_ble_eq_true rfl) ⟨(Nat.le_of_ble_eq_true rfl), (Nat.le_of_ble_eq_true rfl)⟩ dX0_init_31 rfl rfl ?_
  rintro _ _ ⟨rfl, rfl⟩
  refine show V l G EX mi_X0_init ⟨3, 80, 547, 53⟩ _ _ _ 34 [(0, .ref (G.1 + o))] [.ref (G.1 + (o + 75)), .ref (G.1 + o)] (kX6 (o + 75) (nC (pP (kX3 (o + 9) (nC (pP (kX2 (o + 1) (nC h)) o 0 (o + 1)))) o 1 (o + 9)))) from ?_
  refine K.putP (x := (o + 75)) fl_X0_26 hk (show o < h.1 + 76 by omega) rfl rfl rfl rfl rfl dX0_init_34 rfl ?_
  refine V.aload_n (j := 0) dX0_init_37 rfl rfl rfl ?_
  refine K.newc (Fre_pP (Fre_kX6 (Fre_nC (Fre_pP (Fre_kX3 (Fre_nC (Fre_pP (Fre_kX2 (Fre_nC hF) (show h.1 + 1 = o + 2 by omega) ) (show o < h.1 + 8 by omega))) (show h.1 + 9 = o + 10 by omega) ) (show o < h.1 + 74 by omega))) (show h.1 + 75 = o + 76 by omega) ) (show o < h.1 + 76 by omega)) (show h.1 + 76 = o + 77 by omega) cl_X6 rfl (by decide) (ly_X0_77 hk).1 dv_X6 wq_x_X0_23 wq_a_RX6 wq_n_RX6 (Nat.le_of_ble_eq_true rfl) (Nat.le_of_ble_eq_true rfl) dX0_init_38 rfl ?_
  refine V.dup dX0_init_41 rfl rfl ?_
  refine V.callIN (As := []) (rest := [.ref (G.1 + (o + 77)), .ref (G.1 + o)]) hE.1 mic_X6_init rfl rfl rfl (mX6_init hE (ly_X0_77 hk).1 (Fre_nC (Fre_pP (Fre_kX6 (Fre_nC (Fre_pP (Fre_kX3 (Fre_nC (Fre_pP (Fre_kX2 (Fre_nC hF) (show h.1 + 1 = o + 2 by omega) ) (show o < h.1 + 8 by omega))) (show h.1 + 9 = o + 10 by omega) ) (show o < h.1 + 74 by omega))) (show h.1 + 75 = o + 76 by omega) ) (show o < h.1 + 76 by omega))) (show h.1 + 77 = o + 78 by omega)) wq_z_X0_25 wq_i_yX6_init ⟨(Nat.le_of_ble_eq_true rfl), (Nat.le_of_ble_eq_true rfl)⟩ (Nat.le_of_ble_eq_true rfl) ⟨(Nat.le_of_ble_eq_true rfl), (Nat.le_of_ble_eq_true rfl)⟩ dX0_init_42 rfl rfl ?_
  rintro _ _ ⟨rfl, rfl⟩
  refine show V l G EX mi_X0_init ⟨3, 80, 547, 53⟩ _ _ _ 45 [(0, .ref (G.1 + o))] [.ref (G.1 + (o + 77)), .ref (G.1 + o)] (kX6 (o + 77) (nC (pP (kX6 (o + 75) (nC (pP (kX3 (o + 9) (nC (pP (kX2 (o + 1) (nC h)) o 0 (o + 1)))) o 1 (o + 9)))) o 2 (o + 75)))) from ?_
  refine K.putP (x := (o + 77)) fl_X0_30 hk (show o < h.1 + 78 by omega) rfl rfl rfl rfl rfl dX0_init_45 rfl ?_
  refine V.aload_n (j := 0) dX0_init_48 rfl rfl rfl ?_
  refine K.newc (Fre_pP (Fre_kX6 (Fre_nC (Fre_pP (Fre_kX6 (Fre_nC (Fre_pP (Fre_kX3 (Fre_nC (Fre_pP (Fre_kX2 (Fre_nC hF) (show h.1 + 1 = o + 2 by omega) ) (show o < h.1 + 8 by omega))) (show h.1 + 9 = o + 10 by omega) ) (show o < h.1 + 74 by omega))) (show h.1 + 75 = o + 76 by omega) ) (show o < h.1 + 76 by omega))) (show h.1 + 77 = o + 78 by omega) ) (show o < h.1 + 78 by omega)) (show h.1 + 78 = o + 79 by omega) cl_X6 rfl (by decide) (ly_X0_79 hk).1 dv_X6 wq_x_X0_23 wq_a_RX6 wq_n_RX6 (Nat.le_of_ble_eq_true rfl) (Nat.le_of_ble_eq_true rfl) dX0_init_49 rfl ?_
  refine V.dup dX0_init_52 rfl rfl ?_
  refine V.callIN (As := []) (rest := [.ref (G.1 + (o + 79)), .ref (G.1 + o)]) hE.1 mic_X6_init rfl rfl rfl (mX6_init hE (ly_X0_79 hk).1 (Fre_nC (Fre_pP (Fre_kX6 (Fre_nC (Fre_pP (Fre_kX6 (Fre_nC (Fre_pP (Fre_kX3 (Fre_nC (Fre_pP (Fre_kX2 (Fre_nC hF) (show h.1 + 1 = o + 2 by omega) ) (show o < h.1 + 8 by omega))) (show h.1 + 9 = o + 10 by omega) ) (show o < h.1 + 74 by omega))) (show h.1 + 75 = o + 76 by omega) ) (show o < h.1 + 76 by omega))) (show h.1 + 77 = o + 78 by omega) ) (show o < h.1 + 78 by omega))) (show h.1 + 79 = o + 80 by omega)) wq_z_X0_25 wq_i_yX6_init ⟨(Nat.le_of_ble_eq_true rfl), (Nat.le_of_ble_eq_true rfl)⟩ (Nat.le_of_ble_eq_true rfl) ⟨(Nat.le_of_ble_eq_true rfl), (Nat.le_of_ble_eq_true rfl)⟩ dX0_init_53 rfl rfl ?_
  rintro _ _ ⟨rfl, rfl⟩
  refine show V l G EX mi_X0_init ⟨3, 80, 547, 53⟩ _ _ _ 56 [(0, .ref (G.1 + o))] [.ref (G.1 + (o + 79)), .ref (G.1 + o)] (kX6 (o + 79) (nC (pP (kX6 (o + 77) (nC (pP (kX6 (o + 75) (nC (pP (kX3 (o + 9) (nC (pP (kX2 (o + 1) (nC h)) o 0 (o + 1)))) o 1 (o + 9)))) o 2 (o + 75)))) o 3 (o + 77)))) from ?_
  refine K.putP (x := (o + 79)) fl_X0_33 hk (show o < h.1 + 80 by omega) rfl rfl rfl rfl rfl dX0_init_56 rfl ?_
  exact V.ret0 rfl (Nat.le_of_ble_eq_true rfl) (Nat.le_of_ble_eq_true rfl) dX0_init_59 ⟨rfl, rfl⟩
theorem ly_X7_1 {o : Nat} (h : KD o = 6) : KD (o + 1) = 9 ∧ SZ (o + 1) = 6 := (by decide +kernel : ∀ o, o < NN → KD o = 6 → KD (o + 1) = 9 ∧ SZ (o + 1) = 6) o (KD_lt' h (by decide)) h
abbrev mi_X7_init : MI := (yX7_init, cX7_init, 1, none)
theorem mic_X7_init : MIc mi_X7_init 0 := ⟨⟨wq_c_yX7_init, by decide⟩, wq_n_RX7, by decide +kernel⟩
def kX7 (o : Nat) (h : FH) : FH := (pP (nC h) o 0 (o + 1))
set_option maxRecDepth 100000 in
theorem kX7_1 {o : Nat} {h : FH} : (kX7 o h).1 = h.1 + 1 := rfl
theorem kX7_at {o a b : Nat} {h : FH} (ha : a < o) : (kX7 o h).2.1 a b = h.2.1 a b := by
  unfold kX7
  rw [pP_ne (by omega), nC_at]
set_option maxRecDepth 100000 in
theorem Fre_kX7 {o : Nat} {h : FH} (hF : Fre h) (e : h.1 = o + 1) : Fre (kX7 o h) := by
  unfold kX7
  exact (Fre_pP (Fre_nC hF) (show o < h.1 + 1 by omega))
set_option maxRecDepth 100000 in
set_option maxHeartbeats 4000000 in
theorem mX7_init {l : Launch} {G : GG} {EX : State → Prop} (hE : EXB G EX) {o : Nat} {h : FH} (hk : KD o = 6) (hF : Fre h) (e : h.1 = o + 1) : Met l mi_X7_init.1 (Cond.code mi_X7_init.1 mi_X7_init.2.1 mi_X7_init.2.2.1 mi_X7_init.2.2.2 :: WS) ⟨1, 1, 6, 12⟩ (PcG G [.ref (G.1 + o)] h EX) (QcG G (fun w f => w = none ∧ f = kX7 o h)) 1 6 (AA G) := by
  refine V.met mic_X7_init.1 (Nat.le_of_ble_eq_true rfl) ?_
  refine show V l G EX mi_X7_init ⟨1, 1, 6, 12⟩ _ 0 0 0 [(0, .ref (G.1 + o))] [] h from ?_
  refine V.aload_n (j := 0) dX7_init_0 rfl rfl rfl ?_
  refine V.objInit wq_m_X7_3 wq_i_objectInit wq_cobj (Nat.le_of_ble_eq_true rfl) (Nat.le_of_ble_eq_true rfl) dX7_init_1 rfl ?_
  refine V.aload_n (j := 0) dX7_init_4 rfl rfl rfl ?_
  refine V.bipush (v := 6) dX7_init_5 rfl (by decide +kernel) ?_
  refine K.newa (at1 := .int) (ty := .int) (N := 6) hF (show h.1 = o + 1 by omega) (by decide) rfl (ly_X7_1 hk).1 (ly_X7_1 hk).2 (by decide) (by decide +kernel) (by decide) wq_ac_int (Nat.le_of_ble_eq_true rfl) (Nat.le_of_ble_eq_true rfl) dX7_init_7 rfl ?_
  refine K.putP (x := (o + 1)) fl_X7_9 hk (show o < h.1 + 1 by omega) rfl rfl rfl rfl rfl dX7_init_9 rfl ?_
  exact V.ret0 rfl (Nat.le_of_ble_eq_true rfl) (Nat.le_of_ble_eq_true rfl) dX7_init_12 ⟨rfl, rfl⟩
theorem ly_X5_1 {o : Nat} (h : KD o = 4) : KD (o + 1) = 9 ∧ SZ (o + 1) = 150 := (by decide +kernel : ∀ o, o < NN → KD o = 4 → KD (o + 1) = 9 ∧ SZ (o + 1) = 150) o (KD_lt' h (by decide)) h
theorem ly_X5_2 {o : Nat} (h : KD o = 4) : KD (o + 2) = 9 ∧ SZ (o + 2) = 3 := (by decide +kernel : ∀ o, o < NN → KD o = 4 → KD (o + 2) = 9 ∧ SZ (o + 2) = 3) o (KD_lt' h (by decide)) h
abbrev mi_X5_init : MI := (yX5_init, cX5_init, 1, none)
theorem mic_X5_init : MIc mi_X5_init 0 := ⟨⟨wq_c_yX5_init, by decide⟩, wq_n_RX5, by decide +kernel⟩
def kX5 (o : Nat) (h : FH) : FH := (pP (nC (pP (nC h) o 0 (o + 1))) o 2 (o + 2))
set_option maxRecDepth 100000 in
theorem kX5_1 {o : Nat} {h : FH} : (kX5 o h).1 = h.1 + 2 := rfl
theorem kX5_at {o a b : Nat} {h : FH} (ha : a < o) : (kX5 o h).2.1 a b = h.2.1 a b := by
  unfold kX5
  rw [pP_ne (by omega), nC_at, pP_ne (by omega), nC_at]
set_option maxRecDepth 100000 in
theorem Fre_kX5 {o : Nat} {h : FH} (hF : Fre h) (e : h.1 = o + 1) : Fre (kX5 o h) := by
  unfold kX5
  exact (Fre_pP (Fre_nC (Fre_pP (Fre_nC hF) (show o < h.1 + 1 by omega))) (show o < h.1 + 2 by omega))
set_option maxRecDepth 100000 in
set_option maxHeartbeats 4000000 in
theorem mX5_init {l : Launch} {G : GG} {EX : State → Prop} (hE : EXB G EX) {o : Nat} {h : FH} (hk : KD o = 4) (hF : Fre h) (e : h.1 = o + 1) : Met l mi_X5_init.1 (Cond.code mi_X5_init.1 mi_X5_init.2.1 mi_X5_init.2.2.1 mi_X5_init.2.2.2 :: WS) ⟨1, 2, 153, 12⟩ (PcG G [.ref (G.1 + o)] h EX) (QcG G (fun w f => w = none ∧ f = kX5 o h)) 2 153 (AA G) := by
  refine V.met mic_X5_init.1 (Nat.le_of_ble_eq_true rfl) ?_
  refine show V l G EX mi_X5_init ⟨1, 2, 153, 12⟩ _ 0 0 0 [(0, .ref (G.1 + o))] [] h from ?_
  refine V.aload_n (j := 0) dX5_init_0 rfl rfl rfl ?_
  refine V.objInit wq_m_X5_3 wq_i_objectInit wq_cobj (Nat.le_of_ble_eq_true rfl) (Nat.le_of_ble_eq_true rfl) dX5_init_1 rfl ?_
  refine V.aload_n (j := 0) dX5_init_4 rfl rfl rfl ?_
  refine V.sipush (v := 150) dX5_init_5 rfl (by decide +kernel) ?_
  refine K.newa (at1 := .int) (ty := .int) (N := 150) hF (show h.1 = o + 1 by omega) (by decide) rfl (ly_X5_1 hk).1 (ly_X5_1 hk).2 (by decide) (by decide +kernel) (by decide) wq_ac_int (Nat.le_of_ble_eq_true rfl) (Nat.le_of_ble_eq_true rfl) dX5_init_8 rfl ?_
  refine K.putP (x := (o + 1)) fl_X5_9 hk (show o < h.1 + 1 by omega) rfl rfl rfl rfl rfl dX5_init_10 rfl ?_
  refine V.aload_n (j := 0) dX5_init_13 rfl rfl rfl ?_
  refine V.iconst dX5_init_14 rfl ki_3 ?_
  refine K.newa (at1 := .int) (ty := .int) (N := 3) (Fre_pP (Fre_nC hF) (show o < h.1 + 1 by omega)) (show h.1 + 1 = o + 2 by omega) (by decide) rfl (ly_X5_2 hk).1 (ly_X5_2 hk).2 (by decide) (by decide +kernel) (by decide) wq_ac_int (Nat.le_of_ble_eq_true rfl) (Nat.le_of_ble_eq_true rfl) dX5_init_15 rfl ?_
  refine K.putP (x := (o + 2)) fl_X5_15 hk (show o < h.1 + 2 by omega) rfl rfl rfl rfl rfl dX5_init_17 rfl ?_
  exact V.ret0 rfl (Nat.le_of_ble_eq_true rfl) (Nat.le_of_ble_eq_true rfl) dX5_init_20 ⟨rfl, rfl⟩
theorem ly_X4_1 {o : Nat} (h : KD o = 3) : KD (o + 1) = 9 ∧ SZ (o + 1) = 4 := (by decide +kernel : ∀ o, o < NN → KD o = 3 → KD (o + 1) = 9 ∧ SZ (o + 1) = 4) o (KD_lt' h (by decide)) h
abbrev mi_X4_init : MI := (yX4_init, cX4_init, 1, none)
theorem mic_X4_init : MIc mi_X4_init 0 := ⟨⟨wq_c_yX4_init, by decide⟩, wq_n_RX4, by decide +kernel⟩
def kX4 (o : Nat) (h : FH) : FH := (pP (nC h) o 0 (o + 1))
set_option maxRecDepth 100000 in
theorem kX4_1 {o : Nat} {h : FH} : (kX4 o h).1 = h.1 + 1 := rfl
theorem kX4_at {o a b : Nat} {h : FH} (ha : a < o) : (kX4 o h).2.1 a b = h.2.1 a b := by
  unfold kX4
  rw [pP_ne (by omega), nC_at]
set_option maxRecDepth 100000 in
theorem Fre_kX4 {o : Nat} {h : FH} (hF : Fre h) (e : h.1 = o + 1) : Fre (kX4 o h) := by
  unfold kX4
  exact (Fre_pP (Fre_nC hF) (show o < h.1 + 1 by omega))
set_option maxRecDepth 100000 in
set_option maxHeartbeats 4000000 in
theorem mX4_init {l : Launch} {G : GG} {EX : State → Prop} (hE : EXB G EX) {o : Nat} {h : FH} (hk : KD o = 3) (hF : Fre h) (e : h.1 = o + 1) : Met l mi_X4_init.1 (Cond.code mi_X4_init.1 mi_X4_init.2.1 mi_X4_init.2.2.1 mi_X4_init.2.2.2 :: WS) ⟨1, 1, 4, 12⟩ (PcG G [.ref (G.1 + o)] h EX) (QcG G (fun w f => w = none ∧ f = kX4 o h)) 1 4 (AA G) := by
  refine V.met mic_X4_init.1 (Nat.le_of_ble_eq_true rfl) ?_
  refine show V l G EX mi_X4_init ⟨1, 1, 4, 12⟩ _ 0 0 0 [(0, .ref (G.1 + o))] [] h from ?_
  refine V.aload_n (j := 0) dX4_init_0 rfl rfl rfl ?_
  refine V.objInit wq_m_X4_3 wq_i_objectInit wq_cobj (Nat.le_of_ble_eq_true rfl) (Nat.le_of_ble_eq_true rfl) dX4_init_1 rfl ?_
  refine V.aload_n (j := 0) dX4_init_4 rfl rfl rfl ?_
  refine V.iconst dX4_init_5 rfl ki_4 ?_
  refine K.newa (at1 := .int) (ty := .int) (N := 4) hF (show h.1 = o + 1 by omega) (by decide) rfl (ly_X4_1 hk).1 (ly_X4_1 hk).2 (by decide) (by decide +kernel) (by decide) wq_ac_int (Nat.le_of_ble_eq_true rfl) (Nat.le_of_ble_eq_true rfl) dX4_init_6 rfl ?_
  refine K.putP (x := (o + 1)) fl_X4_9 hk (show o < h.1 + 1 by omega) rfl rfl rfl rfl rfl dX4_init_8 rfl ?_
  exact V.ret0 rfl (Nat.le_of_ble_eq_true rfl) (Nat.le_of_ble_eq_true rfl) dX4_init_11 ⟨rfl, rfl⟩
theorem ly_X8_1 {o : Nat} (h : KD o = 7) : KD (o + 1) = 0 ∧ SZ (o + 1) = 5 := (by decide +kernel : ∀ o, o < NN → KD o = 7 → KD (o + 1) = 0 ∧ SZ (o + 1) = 5) o (KD_lt' h (by decide)) h
theorem ly_X8_82 {o : Nat} (h : KD o = 7) : KD (o + 82) = 11 ∧ SZ (o + 82) = 2 := (by decide +kernel : ∀ o, o < NN → KD o = 7 → KD (o + 82) = 11 ∧ SZ (o + 82) = 2) o (KD_lt' h (by decide)) h
theorem ly_X8_83 {o : Nat} (h : KD o = 7) : KD (o + 83) = 10 ∧ SZ (o + 83) = 2 := (by decide +kernel : ∀ o, o < NN → KD o = 7 → KD (o + 83) = 10 ∧ SZ (o + 83) = 2) o (KD_lt' h (by decide)) h
theorem ly_X8_84 {o : Nat} (h : KD o = 7) : KD (o + 84) = 1 ∧ SZ (o + 84) = 11 := (by decide +kernel : ∀ o, o < NN → KD o = 7 → KD (o + 84) = 1 ∧ SZ (o + 84) = 11) o (KD_lt' h (by decide)) h
theorem ly_X8_92 {o : Nat} (h : KD o = 7) : KD (o + 92) = 6 ∧ SZ (o + 92) = 1 := (by decide +kernel : ∀ o, o < NN → KD o = 7 → KD (o + 92) = 6 ∧ SZ (o + 92) = 1) o (KD_lt' h (by decide)) h
theorem ly_X8_94 {o : Nat} (h : KD o = 7) : KD (o + 94) = 4 ∧ SZ (o + 94) = 8 := (by decide +kernel : ∀ o, o < NN → KD o = 7 → KD (o + 94) = 4 ∧ SZ (o + 94) = 8) o (KD_lt' h (by decide)) h
theorem ly_X8_97 {o : Nat} (h : KD o = 7) : KD (o + 97) = 3 ∧ SZ (o + 97) = 2 := (by decide +kernel : ∀ o, o < NN → KD o = 7 → KD (o + 97) = 3 ∧ SZ (o + 97) = 2) o (KD_lt' h (by decide)) h
theorem ly_X8_99 {o : Nat} (h : KD o = 7) : KD (o + 99) = 9 ∧ SZ (o + 99) = 6 := (by decide +kernel : ∀ o, o < NN → KD o = 7 → KD (o + 99) = 9 ∧ SZ (o + 99) = 6) o (KD_lt' h (by decide)) h
theorem ly_X8_100 {o : Nat} (h : KD o = 7) : KD (o + 100) = 0 ∧ SZ (o + 100) = 5 := (by decide +kernel : ∀ o, o < NN → KD o = 7 → KD (o + 100) = 0 ∧ SZ (o + 100) = 5) o (KD_lt' h (by decide)) h
theorem ly_X8_181 {o : Nat} (h : KD o = 7) : KD (o + 181) = 0 ∧ SZ (o + 181) = 5 := (by decide +kernel : ∀ o, o < NN → KD o = 7 → KD (o + 181) = 0 ∧ SZ (o + 181) = 5) o (KD_lt' h (by decide)) h
abbrev mi_X8_init : MI := (yX8_init, cX8_init, 2, none)
theorem mic_X8_init : MIc mi_X8_init 0 := ⟨⟨wq_c_yX8_init, by decide⟩, wq_n_RX8, by decide +kernel⟩
def kX8 (o : Nat) (h : FH) : FH := (pP (kX0 (o + 181) (nC (pP (kX0 (o + 100) (nC (jJ (pP (nC (pP (kX4 (o + 97) (nC (pP (kX5 (o + 94) (nC (pP (kX7 (o + 92) (nC (pP (kX2 (o + 84) (nC (pP (nC (pP (nC (pP (kX0 (o + 1) (nC h)) o 0 (o + 1))) o 1 (o + 82))) o 2 (o + 83)))) o 3 (o + 84)))) o 4 (o + 92)))) o 5 (o + 94)))) o 6 (o + 97))) o 7 (o + 99)) o 9 1))) (o + 82) 0 (o + 100)))) (o + 82) 1 (o + 181))
set_option maxRecDepth 100000 in
theorem kX8_1 {o : Nat} {h : FH} : (kX8 o h).1 = h.1 + 261 := rfl
theorem kX8_at {o a b : Nat} {h : FH} (ha : a < o) : (kX8 o h).2.1 a b = h.2.1 a b := by
  unfold kX8
  rw [pP_ne (by omega), kX0_at (by omega), nC_at, pP_ne (by omega), kX0_at (by omega), nC_at, jJ_at, pP_ne (by omega), nC_at, pP_ne (by omega), kX4_at (by omega), nC_at, pP_ne (by omega), kX5_at (by omega), nC_at, pP_ne (by omega), kX7_at (by omega), nC_at, pP_ne (by omega), kX2_at (by omega), nC_at, pP_ne (by omega), nC_at, pP_ne (by omega), nC_at, pP_ne (by omega), kX0_at (by omega), nC_at]
set_option maxRecDepth 100000 in
theorem Fre_kX8 {o : Nat} {h : FH} (hF : Fre h) (e : h.1 = o + 1) : Fre (kX8 o h) := by
  unfold kX8
  exact (Fre_pP (Fre_kX0 (Fre_nC (Fre_pP (Fre_kX0 (Fre_nC (Fre_jJ (Fre_pP (Fre_nC (Fre_pP (Fre_kX4 (Fre_nC (Fre_pP (Fre_kX5 (Fre_nC (Fre_pP (Fre_kX7 (Fre_nC (Fre_pP (Fre_kX2 (Fre_nC (Fre_pP (Fre_nC (Fre_pP (Fre_nC (Fre_pP (Fre_kX0 (Fre_nC hF) (show h.1 + 1 = o + 2 by omega) ) (show o < h.1 + 81 by omega))) (show o < h.1 + 82 by omega))) (show o < h.1 + 83 by omega))) (show h.1 + 84 = o + 85 by omega) ) (show o < h.1 + 91 by omega))) (show h.1 + 92 = o + 93 by omega) ) (show o < h.1 + 93 by omega))) (show h.1 + 94 = o + 95 by omega) ) (show o < h.1 + 96 by omega))) (show h.1 + 97 = o + 98 by omega) ) (show o < h.1 + 98 by omega))) (show o < h.1 + 99 by omega)) (show o < h.1 + 99 by omega))) (show h.1 + 100 = o + 101 by omega) ) (show (o + 82) < h.1 + 180 by omega))) (show h.1 + 181 = o + 182 by omega) ) (show (o + 82) < h.1 + 261 by omega))
set_option maxRecDepth 100000 in
set_option maxHeartbeats 4000000 in
theorem mX8_init {l : Launch} {G : GG} {EX : State → Prop} (hE : EXB G EX) {o : Nat} {h : FH} (hk : KD o = 7) (hF : Fre h) (e : h.1 = o + 1) : Met l mi_X8_init.1 (Cond.code mi_X8_init.1 mi_X8_init.2.1 mi_X8_init.2.2.1 mi_X8_init.2.2.2 :: WS) ⟨4, 261, 1889, 73⟩ (PcG G [.ref (G.1 + o)] h EX) (QcG G (fun w f => w = none ∧ f = kX8 o h)) 261 1889 (AA G) := by
  refine V.met mic_X8_init.1 (Nat.le_of_ble_eq_true rfl) ?_
  refine show V l G EX mi_X8_init ⟨4, 261, 1889, 73⟩ _ 0 0 0 [(0, .ref (G.1 + o))] [] h from ?_
  refine V.aload_n (j := 0) dX8_init_0 rfl rfl rfl ?_
  refine V.objInit wq_m_X8_1 wq_i_objectInit wq_cobj (Nat.le_of_ble_eq_true rfl) (Nat.le_of_ble_eq_true rfl) dX8_init_1 rfl ?_
  refine V.aload_n (j := 0) dX8_init_4 rfl rfl rfl ?_
  refine K.newc hF (show h.1 = o + 1 by omega) cl_X0 rfl (by decide) (ly_X8_1 hk).1 dv_X0 wq_x_X8_7 wq_a_RX0 wq_n_RX0 (Nat.le_of_ble_eq_true rfl) (Nat.le_of_ble_eq_true rfl) dX8_init_5 rfl ?_
  refine V.dup dX8_init_8 rfl rfl ?_
  refine V.callIN (As := []) (rest := [.ref (G.1 + (o + 1)), .ref (G.1 + o)]) hE.1 mic_X0_init rfl rfl rfl (mX0_init hE (ly_X8_1 hk).1 (Fre_nC hF) (show h.1 + 1 = o + 2 by omega)) wq_z_X8_9 wq_i_yX0_init ⟨(Nat.le_of_ble_eq_true rfl), (Nat.le_of_ble_eq_true rfl)⟩ (Nat.le_of_ble_eq_true rfl) ⟨(Nat.le_of_ble_eq_true rfl), (Nat.le_of_ble_eq_true rfl)⟩ dX8_init_9 rfl rfl ?_
  rintro _ _ ⟨rfl, rfl⟩
  refine show V l G EX mi_X8_init ⟨4, 261, 1889, 73⟩ _ _ _ 12 [(0, .ref (G.1 + o))] [.ref (G.1 + (o + 1)), .ref (G.1 + o)] (kX0 (o + 1) (nC h)) from ?_
  refine K.putP (x := (o + 1)) fl_X8_10 hk (show o < h.1 + 81 by omega) rfl rfl rfl rfl rfl dX8_init_12 rfl ?_
  refine V.aload_n (j := 0) dX8_init_15 rfl rfl rfl ?_
  refine V.iconst dX8_init_16 rfl ki_2 ?_
  refine K.newq (ci := 11) (N := 2) (Fre_pP (Fre_kX0 (Fre_nC hF) (show h.1 + 1 = o + 2 by omega) ) (show o < h.1 + 81 by omega)) (show h.1 + 81 = o + 82 by omega) (by decide) (ly_X8_82 hk).1 (ly_X8_82 hk).2 (by decide) (by decide +kernel) (by decide) wq_x_X8_7 (Nat.le_of_ble_eq_true rfl) (Nat.le_of_ble_eq_true rfl) dX8_init_17 rfl ?_
  refine K.putP (x := (o + 82)) fl_X8_16 hk (show o < h.1 + 82 by omega) rfl rfl rfl rfl rfl dX8_init_20 rfl ?_
  refine V.aload_n (j := 0) dX8_init_23 rfl rfl rfl ?_
  refine V.iconst dX8_init_24 rfl ki_2 ?_
  refine K.newa (at1 := .boolean) (ty := .boolean) (N := 2) (Fre_pP (Fre_nC (Fre_pP (Fre_kX0 (Fre_nC hF) (show h.1 + 1 = o + 2 by omega) ) (show o < h.1 + 81 by omega))) (show o < h.1 + 82 by omega)) (show h.1 + 82 = o + 83 by omega) (by decide) rfl (ly_X8_83 hk).1 (ly_X8_83 hk).2 (by decide) (by decide +kernel) (by decide) wq_ac_boolean (Nat.le_of_ble_eq_true rfl) (Nat.le_of_ble_eq_true rfl) dX8_init_25 rfl ?_
  refine K.putP (x := (o + 83)) fl_X8_20 hk (show o < h.1 + 83 by omega) rfl rfl rfl rfl rfl dX8_init_27 rfl ?_
  refine V.aload_n (j := 0) dX8_init_30 rfl rfl rfl ?_
  refine K.newc (Fre_pP (Fre_nC (Fre_pP (Fre_nC (Fre_pP (Fre_kX0 (Fre_nC hF) (show h.1 + 1 = o + 2 by omega) ) (show o < h.1 + 81 by omega))) (show o < h.1 + 82 by omega))) (show o < h.1 + 83 by omega)) (show h.1 + 83 = o + 84 by omega) cl_X2 rfl (by decide) (ly_X8_84 hk).1 dv_X2 wq_x_X8_24 wq_a_RX2 wq_n_RX2 (Nat.le_of_ble_eq_true rfl) (Nat.le_of_ble_eq_true rfl) dX8_init_31 rfl ?_
  refine V.dup dX8_init_34 rfl rfl ?_
  refine V.callIN (As := []) (rest := [.ref (G.1 + (o + 84)), .ref (G.1 + o)]) hE.1 mic_X2_init rfl rfl rfl (mX2_init hE (ly_X8_84 hk).1 (Fre_nC (Fre_pP (Fre_nC (Fre_pP (Fre_nC (Fre_pP (Fre_kX0 (Fre_nC hF) (show h.1 + 1 = o + 2 by omega) ) (show o < h.1 + 81 by omega))) (show o < h.1 + 82 by omega))) (show o < h.1 + 83 by omega))) (show h.1 + 84 = o + 85 by omega)) wq_z_X8_26 wq_i_yX2_init ⟨(Nat.le_of_ble_eq_true rfl), (Nat.le_of_ble_eq_true rfl)⟩ (Nat.le_of_ble_eq_true rfl) ⟨(Nat.le_of_ble_eq_true rfl), (Nat.le_of_ble_eq_true rfl)⟩ dX8_init_35 rfl rfl ?_
  rintro _ _ ⟨rfl, rfl⟩
  refine show V l G EX mi_X8_init ⟨4, 261, 1889, 73⟩ _ _ _ 38 [(0, .ref (G.1 + o))] [.ref (G.1 + (o + 84)), .ref (G.1 + o)] (kX2 (o + 84) (nC (pP (nC (pP (nC (pP (kX0 (o + 1) (nC h)) o 0 (o + 1))) o 1 (o + 82))) o 2 (o + 83)))) from ?_
  refine K.putP (x := (o + 84)) fl_X8_27 hk (show o < h.1 + 91 by omega) rfl rfl rfl rfl rfl dX8_init_38 rfl ?_
  refine V.aload_n (j := 0) dX8_init_41 rfl rfl rfl ?_
  refine K.newc (Fre_pP (Fre_kX2 (Fre_nC (Fre_pP (Fre_nC (Fre_pP (Fre_nC (Fre_pP (Fre_kX0 (Fre_nC hF) (show h.1 + 1 = o + 2 by omega) ) (show o < h.1 + 81 by omega))) (show o < h.1 + 82 by omega))) (show o < h.1 + 83 by omega))) (show h.1 + 84 = o + 85 by omega) ) (show o < h.1 + 91 by omega)) (show h.1 + 91 = o + 92 by omega) cl_X7 rfl (by decide) (ly_X8_92 hk).1 dv_X7 wq_x_X8_31 wq_a_RX7 wq_n_RX7 (Nat.le_of_ble_eq_true rfl) (Nat.le_of_ble_eq_true rfl) dX8_init_42 rfl ?_
  refine V.dup dX8_init_45 rfl rfl ?_
  refine V.callIN (As := []) (rest := [.ref (G.1 + (o + 92)), .ref (G.1 + o)]) hE.1 mic_X7_init rfl rfl rfl (mX7_init hE (ly_X8_92 hk).1 (Fre_nC (Fre_pP (Fre_kX2 (Fre_nC (Fre_pP (Fre_nC (Fre_pP (Fre_nC (Fre_pP (Fre_kX0 (Fre_nC hF) (show h.1 + 1 = o + 2 by omega) ) (show o < h.1 + 81 by omega))) (show o < h.1 + 82 by omega))) (show o < h.1 + 83 by omega))) (show h.1 + 84 = o + 85 by omega) ) (show o < h.1 + 91 by omega))) (show h.1 + 92 = o + 93 by omega)) wq_z_X8_33 wq_i_yX7_init ⟨(Nat.le_of_ble_eq_true rfl), (Nat.le_of_ble_eq_true rfl)⟩ (Nat.le_of_ble_eq_true rfl) ⟨(Nat.le_of_ble_eq_true rfl), (Nat.le_of_ble_eq_true rfl)⟩ dX8_init_46 rfl rfl ?_
  rintro _ _ ⟨rfl, rfl⟩
  refine show V l G EX mi_X8_init ⟨4, 261, 1889, 73⟩ _ _ _ 49 [(0, .ref (G.1 + o))] [.ref (G.1 + (o + 92)), .ref (G.1 + o)] (kX7 (o + 92) (nC (pP (kX2 (o + 84) (nC (pP (nC (pP (nC (pP (kX0 (o + 1) (nC h)) o 0 (o + 1))) o 1 (o + 82))) o 2 (o + 83)))) o 3 (o + 84)))) from ?_
  refine K.putP (x := (o + 92)) fl_X8_34 hk (show o < h.1 + 93 by omega) rfl rfl rfl rfl rfl dX8_init_49 rfl ?_
  refine V.aload_n (j := 0) dX8_init_52 rfl rfl rfl ?_
  refine K.newc (Fre_pP (Fre_kX7 (Fre_nC (Fre_pP (Fre_kX2 (Fre_nC (Fre_pP (Fre_nC (Fre_pP (Fre_nC (Fre_pP (Fre_kX0 (Fre_nC hF) (show h.1 + 1 = o + 2 by omega) ) (show o < h.1 + 81 by omega))) (show o < h.1 + 82 by omega))) (show o < h.1 + 83 by omega))) (show h.1 + 84 = o + 85 by omega) ) (show o < h.1 + 91 by omega))) (show h.1 + 92 = o + 93 by omega) ) (show o < h.1 + 93 by omega)) (show h.1 + 93 = o + 94 by omega) cl_X5 rfl (by decide) (ly_X8_94 hk).1 dv_X5 wq_x_X8_38 wq_a_RX5 wq_n_RX5 (Nat.le_of_ble_eq_true rfl) (Nat.le_of_ble_eq_true rfl) dX8_init_53 rfl ?_
  refine V.dup dX8_init_56 rfl rfl ?_
  refine V.callIN (As := []) (rest := [.ref (G.1 + (o + 94)), .ref (G.1 + o)]) hE.1 mic_X5_init rfl rfl rfl (mX5_init hE (ly_X8_94 hk).1 (Fre_nC (Fre_pP (Fre_kX7 (Fre_nC (Fre_pP (Fre_kX2 (Fre_nC (Fre_pP (Fre_nC (Fre_pP (Fre_nC (Fre_pP (Fre_kX0 (Fre_nC hF) (show h.1 + 1 = o + 2 by omega) ) (show o < h.1 + 81 by omega))) (show o < h.1 + 82 by omega))) (show o < h.1 + 83 by omega))) (show h.1 + 84 = o + 85 by omega) ) (show o < h.1 + 91 by omega))) (show h.1 + 92 = o + 93 by omega) ) (show o < h.1 + 93 by omega))) (show h.1 + 94 = o + 95 by omega)) wq_z_X8_40 wq_i_yX5_init ⟨(Nat.le_of_ble_eq_true rfl), (Nat.le_of_ble_eq_true rfl)⟩ (Nat.le_of_ble_eq_true rfl) ⟨(Nat.le_of_ble_eq_true rfl), (Nat.le_of_ble_eq_true rfl)⟩ dX8_init_57 rfl rfl ?_
  rintro _ _ ⟨rfl, rfl⟩
  refine show V l G EX mi_X8_init ⟨4, 261, 1889, 73⟩ _ _ _ 60 [(0, .ref (G.1 + o))] [.ref (G.1 + (o + 94)), .ref (G.1 + o)] (kX5 (o + 94) (nC (pP (kX7 (o + 92) (nC (pP (kX2 (o + 84) (nC (pP (nC (pP (nC (pP (kX0 (o + 1) (nC h)) o 0 (o + 1))) o 1 (o + 82))) o 2 (o + 83)))) o 3 (o + 84)))) o 4 (o + 92)))) from ?_
  refine K.putP (x := (o + 94)) fl_X8_41 hk (show o < h.1 + 96 by omega) rfl rfl rfl rfl rfl dX8_init_60 rfl ?_
  refine V.aload_n (j := 0) dX8_init_63 rfl rfl rfl ?_
  refine K.newc (Fre_pP (Fre_kX5 (Fre_nC (Fre_pP (Fre_kX7 (Fre_nC (Fre_pP (Fre_kX2 (Fre_nC (Fre_pP (Fre_nC (Fre_pP (Fre_nC (Fre_pP (Fre_kX0 (Fre_nC hF) (show h.1 + 1 = o + 2 by omega) ) (show o < h.1 + 81 by omega))) (show o < h.1 + 82 by omega))) (show o < h.1 + 83 by omega))) (show h.1 + 84 = o + 85 by omega) ) (show o < h.1 + 91 by omega))) (show h.1 + 92 = o + 93 by omega) ) (show o < h.1 + 93 by omega))) (show h.1 + 94 = o + 95 by omega) ) (show o < h.1 + 96 by omega)) (show h.1 + 96 = o + 97 by omega) cl_X4 rfl (by decide) (ly_X8_97 hk).1 dv_X4 wq_x_X8_45 wq_a_RX4 wq_n_RX4 (Nat.le_of_ble_eq_true rfl) (Nat.le_of_ble_eq_true rfl) dX8_init_64 rfl ?_
  refine V.dup dX8_init_67 rfl rfl ?_
  refine V.callIN (As := []) (rest := [.ref (G.1 + (o + 97)), .ref (G.1 + o)]) hE.1 mic_X4_init rfl rfl rfl (mX4_init hE (ly_X8_97 hk).1 (Fre_nC (Fre_pP (Fre_kX5 (Fre_nC (Fre_pP (Fre_kX7 (Fre_nC (Fre_pP (Fre_kX2 (Fre_nC (Fre_pP (Fre_nC (Fre_pP (Fre_nC (Fre_pP (Fre_kX0 (Fre_nC hF) (show h.1 + 1 = o + 2 by omega) ) (show o < h.1 + 81 by omega))) (show o < h.1 + 82 by omega))) (show o < h.1 + 83 by omega))) (show h.1 + 84 = o + 85 by omega) ) (show o < h.1 + 91 by omega))) (show h.1 + 92 = o + 93 by omega) ) (show o < h.1 + 93 by omega))) (show h.1 + 94 = o + 95 by omega) ) (show o < h.1 + 96 by omega))) (show h.1 + 97 = o + 98 by omega)) wq_z_X8_47 wq_i_yX4_init ⟨(Nat.le_of_ble_eq_true rfl), (Nat.le_of_ble_eq_true rfl)⟩ (Nat.le_of_ble_eq_true rfl) ⟨(Nat.le_of_ble_eq_true rfl), (Nat.le_of_ble_eq_true rfl)⟩ dX8_init_68 rfl rfl ?_
  rintro _ _ ⟨rfl, rfl⟩
  refine show V l G EX mi_X8_init ⟨4, 261, 1889, 73⟩ _ _ _ 71 [(0, .ref (G.1 + o))] [.ref (G.1 + (o + 97)), .ref (G.1 + o)] (kX4 (o + 97) (nC (pP (kX5 (o + 94) (nC (pP (kX7 (o + 92) (nC (pP (kX2 (o + 84) (nC (pP (nC (pP (nC (pP (kX0 (o + 1) (nC h)) o 0 (o + 1))) o 1 (o + 82))) o 2 (o + 83)))) o 3 (o + 84)))) o 4 (o + 92)))) o 5 (o + 94)))) from ?_
  refine K.putP (x := (o + 97)) fl_X8_48 hk (show o < h.1 + 98 by omega) rfl rfl rfl rfl rfl dX8_init_71 rfl ?_
  refine V.aload_n (j := 0) dX8_init_74 rfl rfl rfl ?_
  refine V.bipush (v := 6) dX8_init_75 rfl (by decide +kernel) ?_
  refine K.newa (at1 := .int) (ty := .int) (N := 6) (Fre_pP (Fre_kX4 (Fre_nC (Fre_pP (Fre_kX5 (Fre_nC (Fre_pP (Fre_kX7 (Fre_nC (Fre_pP (Fre_kX2 (Fre_nC (Fre_pP (Fre_nC (Fre_pP (Fre_nC (Fre_pP (Fre_kX0 (Fre_nC hF) (show h.1 + 1 = o + 2 by omega) ) (show o < h.1 + 81 by omega))) (show o < h.1 + 82 by omega))) (show o < h.1 + 83 by omega))) (show h.1 + 84 = o + 85 by omega) ) (show o < h.1 + 91 by omega))) (show h.1 + 92 = o + 93 by omega) ) (show o < h.1 + 93 by omega))) (show h.1 + 94 = o + 95 by omega) ) (show o < h.1 + 96 by omega))) (show h.1 + 97 = o + 98 by omega) ) (show o < h.1 + 98 by omega)) (show h.1 + 98 = o + 99 by omega) (by decide) rfl (ly_X8_99 hk).1 (ly_X8_99 hk).2 (by decide) (by decide +kernel) (by decide) wq_ac_int (Nat.le_of_ble_eq_true rfl) (Nat.le_of_ble_eq_true rfl) dX8_init_77 rfl ?_
  refine K.putP (x := (o + 99)) fl_X8_52 hk (show o < h.1 + 99 by omega) rfl rfl rfl rfl rfl dX8_init_79 rfl ?_
  refine V.aload_n (j := 0) dX8_init_82 rfl rfl rfl ?_
  refine V.lconst dX8_init_83 rfl kl_1 ?_
  refine K.putJ fl_X8_56 hk (show o < h.1 + 99 by omega) rfl rfl dX8_init_84 rfl ?_
  refine V.iconst dX8_init_87 rfl ki_0 ?_
  refine V.istore_n [(1, .int (0 : Int32)), (0, .ref (G.1 + o))] dX8_init_88 rfl rfl (Nat.le_of_ble_eq_true rfl) rfl ?_
  refine V.iload_n (j := 0) dX8_init_89 rfl rfl rfl ?_
  refine V.aload_n (j := 1) dX8_init_90 rfl rfl rfl ?_
  refine V.getP (x := (o + 82)) fl_X8_16 hk (show o < h.1 + 99 by omega) (by rw [jJ_at, pP_ne (by omega), nC_at, pP_ne (by omega), kX4_at (by omega), nC_at, pP_ne (by omega), kX5_at (by omega), nC_at, pP_ne (by omega), kX7_at (by omega), nC_at, pP_ne (by omega), kX2_at (by omega), nC_at, pP_ne (by omega), nC_at, pP_eq]) dX8_init_91 rfl ?_
  refine V.alen (v := 2) (ci := 11) (ly_X8_82 hk).1 (by decide) (show (o + 82) < h.1 + 99 by omega) (by rw [(ly_X8_82 hk).2]; decide) dX8_init_94 rfl ?_
  refine V.icmp_ge (tgt := 117) (A := (none : Option Nat)) (B := some 0) (r := 0) (by decide) dX8_init_95 (by decide) rfl (fun hx => absurd hx (by decide)) (fun _ => ?_)
  refine V.aload_n (j := 1) dX8_init_98 rfl rfl rfl ?_
  refine V.getP (x := (o + 82)) fl_X8_16 hk (show o < h.1 + 99 by omega) (by rw [jJ_at, pP_ne (by omega), nC_at, pP_ne (by omega), kX4_at (by omega), nC_at, pP_ne (by omega), kX5_at (by omega), nC_at, pP_ne (by omega), kX7_at (by omega), nC_at, pP_ne (by omega), kX2_at (by omega), nC_at, pP_ne (by omega), nC_at, pP_eq]) dX8_init_99 rfl ?_
  refine V.iload_n (j := 0) dX8_init_102 rfl rfl rfl ?_
  refine K.newc (Fre_jJ (Fre_pP (Fre_nC (Fre_pP (Fre_kX4 (Fre_nC (Fre_pP (Fre_kX5 (Fre_nC (Fre_pP (Fre_kX7 (Fre_nC (Fre_pP (Fre_kX2 (Fre_nC (Fre_pP (Fre_nC (Fre_pP (Fre_nC (Fre_pP (Fre_kX0 (Fre_nC hF) (show h.1 + 1 = o + 2 by omega) ) (show o < h.1 + 81 by omega))) (show o < h.1 + 82 by omega))) (show o < h.1 + 83 by omega))) (show h.1 + 84 = o + 85 by omega) ) (show o < h.1 + 91 by omega))) (show h.1 + 92 = o + 93 by omega) ) (show o < h.1 + 93 by omega))) (show h.1 + 94 = o + 95 by omega) ) (show o < h.1 + 96 by omega))) (show h.1 + 97 = o + 98 by omega) ) (show o < h.1 + 98 by omega))) (show o < h.1 + 99 by omega)) (show o < h.1 + 99 by omega)) (show h.1 + 99 = o + 100 by omega) cl_X0 rfl (by decide) (ly_X8_100 hk).1 dv_X0 wq_x_X8_7 wq_a_RX0 wq_n_RX0 (Nat.le_of_ble_eq_true rfl) (Nat.le_of_ble_eq_true rfl) dX8_init_103 rfl ?_
  refine V.dup dX8_init_106 rfl rfl ?_
  refine V.callIN (As := []) (rest := [.ref (G.1 + (o + 100)), .int (0 : Int32), .ref (G.1 + (o + 82))]) hE.1 mic_X0_init rfl rfl rfl (mX0_init hE (ly_X8_100 hk).1 (Fre_nC (Fre_jJ (Fre_pP (Fre_nC (Fre_pP (Fre_kX4 (Fre_nC (Fre_pP (Fre_kX5 (Fre_nC (Fre_pP (Fre_kX7 (Fre_nC (Fre_pP (Fre_kX2 (Fre_nC (Fre_pP (Fre_nC (Fre_pP (Fre_nC (Fre_pP (Fre_kX0 (Fre_nC hF) (show h.1 + 1 = o + 2 by omega) ) (show o < h.1 + 81 by omega))) (show o < h.1 + 82 by omega))) (show o < h.1 + 83 by omega))) (show h.1 + 84 = o + 85 by omega) ) (show o < h.1 + 91 by omega))) (show h.1 + 92 = o + 93 by omega) ) (show o < h.1 + 93 by omega))) (show h.1 + 94 = o + 95 by omega) ) (show o < h.1 + 96 by omega))) (show h.1 + 97 = o + 98 by omega) ) (show o < h.1 + 98 by omega))) (show o < h.1 + 99 by omega)) (show o < h.1 + 99 by omega))) (show h.1 + 100 = o + 101 by omega)) wq_z_X8_9 wq_i_yX0_init ⟨(Nat.le_of_ble_eq_true rfl), (Nat.le_of_ble_eq_true rfl)⟩ (Nat.le_of_ble_eq_true rfl) ⟨(Nat.le_of_ble_eq_true rfl), (Nat.le_of_ble_eq_true rfl)⟩ dX8_init_107 rfl rfl ?_
  rintro _ _ ⟨rfl, rfl⟩
  refine show V l G EX mi_X8_init ⟨4, 261, 1889, 73⟩ _ _ _ 110 [(1, .int (0 : Int32)), (0, .ref (G.1 + o))] [.ref (G.1 + (o + 100)), .int (0 : Int32), .ref (G.1 + (o + 82))] (kX0 (o + 100) (nC (jJ (pP (nC (pP (kX4 (o + 97) (nC (pP (kX5 (o + 94) (nC (pP (kX7 (o + 92) (nC (pP (kX2 (o + 84) (nC (pP (nC (pP (nC (pP (kX0 (o + 1) (nC h)) o 0 (o + 1))) o 1 (o + 82))) o 2 (o + 83)))) o 3 (o + 84)))) o 4 (o + 92)))) o 5 (o + 94)))) o 6 (o + 97))) o 7 (o + 99)) o 9 1))) from ?_
  refine K.aast (ci := 11) (kx := 0) (j := 0) (ly_X8_82 hk).1 (by decide) (show (o + 82) < h.1 + 180 by omega) (by rw [(ly_X8_82 hk).2]; decide) (by decide) (ly_X8_100 hk).1 (show (o + 100) < h.1 + 180 by omega) dX8_init_110 rfl ?_
  refine V.iinc (v := 1) [(1, .int (1 : Int32)), (0, .ref (G.1 + o))] (j := 0) rfl (by decide) (Nat.le_of_ble_eq_true rfl) rfl dX8_init_111 rfl ?_
  refine V.goto (q := 89) dX8_init_114 (by decide) ?_
  refine V.iload_n (j := 0) dX8_init_89 rfl rfl rfl ?_
  refine V.aload_n (j := 1) dX8_init_90 rfl rfl rfl ?_
  refine V.getP (x := (o + 82)) fl_X8_16 hk (show o < h.1 + 180 by omega) (by rw [pP_ne (by omega), kX0_at (by omega), nC_at, jJ_at, pP_ne (by omega), nC_at, pP_ne (by omega), kX4_at (by omega), nC_at, pP_ne (by omega), kX5_at (by omega), nC_at, pP_ne (by omega), kX7_at (by omega), nC_at, pP_ne (by omega), kX2_at (by omega), nC_at, pP_ne (by omega), nC_at, pP_eq]) dX8_init_91 rfl ?_
  refine V.alen (v := 2) (ci := 11) (ly_X8_82 hk).1 (by decide) (show (o + 82) < h.1 + 180 by omega) (by rw [(ly_X8_82 hk).2]; decide) dX8_init_94 rfl ?_
  refine V.icmp_ge (tgt := 117) (A := (none : Option Nat)) (B := some 0) (r := 0) (by decide) dX8_init_95 (by decide) rfl (fun hx => absurd hx (by decide)) (fun _ => ?_)
  refine V.aload_n (j := 1) dX8_init_98 rfl rfl rfl ?_
  refine V.getP (x := (o + 82)) fl_X8_16 hk (show o < h.1 + 180 by omega) (by rw [pP_ne (by omega), kX0_at (by omega), nC_at, jJ_at, pP_ne (by omega), nC_at, pP_ne (by omega), kX4_at (by omega), nC_at, pP_ne (by omega), kX5_at (by omega), nC_at, pP_ne (by omega), kX7_at (by omega), nC_at, pP_ne (by omega), kX2_at (by omega), nC_at, pP_ne (by omega), nC_at, pP_eq]) dX8_init_99 rfl ?_
  refine V.iload_n (j := 0) dX8_init_102 rfl rfl rfl ?_
  refine K.newc (Fre_pP (Fre_kX0 (Fre_nC (Fre_jJ (Fre_pP (Fre_nC (Fre_pP (Fre_kX4 (Fre_nC (Fre_pP (Fre_kX5 (Fre_nC (Fre_pP (Fre_kX7 (Fre_nC (Fre_pP (Fre_kX2 (Fre_nC (Fre_pP (Fre_nC (Fre_pP (Fre_nC (Fre_pP (Fre_kX0 (Fre_nC hF) (show h.1 + 1 = o + 2 by omega) ) (show o < h.1 + 81 by omega))) (show o < h.1 + 82 by omega))) (show o < h.1 + 83 by omega))) (show h.1 + 84 = o + 85 by omega) ) (show o < h.1 + 91 by omega))) (show h.1 + 92 = o + 93 by omega) ) (show o < h.1 + 93 by omega))) (show h.1 + 94 = o + 95 by omega) ) (show o < h.1 + 96 by omega))) (show h.1 + 97 = o + 98 by omega) ) (show o < h.1 + 98 by omega))) (show o < h.1 + 99 by omega)) (show o < h.1 + 99 by omega))) (show h.1 + 100 = o + 101 by omega) ) (show (o + 82) < h.1 + 180 by omega)) (show h.1 + 180 = o + 181 by omega) cl_X0 rfl (by decide) (ly_X8_181 hk).1 dv_X0 wq_x_X8_7 wq_a_RX0 wq_n_RX0 (Nat.le_of_ble_eq_true rfl) (Nat.le_of_ble_eq_true rfl) dX8_init_103 rfl ?_
  refine V.dup dX8_init_106 rfl rfl ?_
  refine V.callIN (As := []) (rest := [.ref (G.1 + (o + 181)), .int (1 : Int32), .ref (G.1 + (o + 82))]) hE.1 mic_X0_init rfl rfl rfl (mX0_init hE (ly_X8_181 hk).1 (Fre_nC (Fre_pP (Fre_kX0 (Fre_nC (Fre_jJ (Fre_pP (Fre_nC (Fre_pP (Fre_kX4 (Fre_nC (Fre_pP (Fre_kX5 (Fre_nC (Fre_pP (Fre_kX7 (Fre_nC (Fre_pP (Fre_kX2 (Fre_nC (Fre_pP (Fre_nC (Fre_pP (Fre_nC (Fre_pP (Fre_kX0 (Fre_nC hF) (show h.1 + 1 = o + 2 by omega) ) (show o < h.1 + 81 by omega))) (show o < h.1 + 82 by omega))) (show o < h.1 + 83 by omega))) (show h.1 + 84 = o + 85 by omega) ) (show o < h.1 + 91 by omega))) (show h.1 + 92 = o + 93 by omega) ) (show o < h.1 + 93 by omega))) (show h.1 + 94 = o + 95 by omega) ) (show o < h.1 + 96 by omega))) (show h.1 + 97 = o + 98 by omega) ) (show o < h.1 + 98 by omega))) (show o < h.1 + 99 by omega)) (show o < h.1 + 99 by omega))) (show h.1 + 100 = o + 101 by omega) ) (show (o + 82) < h.1 + 180 by omega))) (show h.1 + 181 = o + 182 by omega)) wq_z_X8_9 wq_i_yX0_init ⟨(Nat.le_of_ble_eq_true rfl), (Nat.le_of_ble_eq_true rfl)⟩ (Nat.le_of_ble_eq_true rfl) ⟨(Nat.le_of_ble_eq_true rfl), (Nat.le_of_ble_eq_true rfl)⟩ dX8_init_107 rfl rfl ?_
  rintro _ _ ⟨rfl, rfl⟩
  refine show V l G EX mi_X8_init ⟨4, 261, 1889, 73⟩ _ _ _ 110 [(1, .int (1 : Int32)), (0, .ref (G.1 + o))] [.ref (G.1 + (o + 181)), .int (1 : Int32), .ref (G.1 + (o + 82))] (kX0 (o + 181) (nC (pP (kX0 (o + 100) (nC (jJ (pP (nC (pP (kX4 (o + 97) (nC (pP (kX5 (o + 94) (nC (pP (kX7 (o + 92) (nC (pP (kX2 (o + 84) (nC (pP (nC (pP (nC (pP (kX0 (o + 1) (nC h)) o 0 (o + 1))) o 1 (o + 82))) o 2 (o + 83)))) o 3 (o + 84)))) o 4 (o + 92)))) o 5 (o + 94)))) o 6 (o + 97))) o 7 (o + 99)) o 9 1))) (o + 82) 0 (o + 100)))) from ?_
  refine K.aast (ci := 11) (kx := 0) (j := 1) (ly_X8_82 hk).1 (by decide) (show (o + 82) < h.1 + 261 by omega) (by rw [(ly_X8_82 hk).2]; decide) (by decide) (ly_X8_181 hk).1 (show (o + 181) < h.1 + 261 by omega) dX8_init_110 rfl ?_
  refine V.iinc (v := 2) [(1, .int (2 : Int32)), (0, .ref (G.1 + o))] (j := 0) rfl (by decide) (Nat.le_of_ble_eq_true rfl) rfl dX8_init_111 rfl ?_
  refine V.goto (q := 89) dX8_init_114 (by decide) ?_
  refine V.iload_n (j := 0) dX8_init_89 rfl rfl rfl ?_
  refine V.aload_n (j := 1) dX8_init_90 rfl rfl rfl ?_
  refine V.getP (x := (o + 82)) fl_X8_16 hk (show o < h.1 + 261 by omega) (by rw [pP_ne (by omega), kX0_at (by omega), nC_at, pP_ne (by omega), kX0_at (by omega), nC_at, jJ_at, pP_ne (by omega), nC_at, pP_ne (by omega), kX4_at (by omega), nC_at, pP_ne (by omega), kX5_at (by omega), nC_at, pP_ne (by omega), kX7_at (by omega), nC_at, pP_ne (by omega), kX2_at (by omega), nC_at, pP_ne (by omega), nC_at, pP_eq]) dX8_init_91 rfl ?_
  refine V.alen (v := 2) (ci := 11) (ly_X8_82 hk).1 (by decide) (show (o + 82) < h.1 + 261 by omega) (by rw [(ly_X8_82 hk).2]; decide) dX8_init_94 rfl ?_
  refine V.icmp_ge (tgt := 117) (A := some 0) (B := (none : Option Nat)) (r := 0) (by decide) dX8_init_95 (by decide) rfl (fun _ => ?_) (fun hx => absurd hx (by decide))
  exact V.ret0 rfl (Nat.le_of_ble_eq_true rfl) (Nat.le_of_ble_eq_true rfl) dX8_init_117 ⟨rfl, rfl⟩
