/-! THE WORLD BEHIND THE CONSTRUCTORS: all objects are there; int slots, long slots, and what the arrays of objects hold -/
abbrev AH : Type := (Nat → Nat → Int32) × (Nat → Nat → Int64) × (Nat → Nat → Nat)
def PQ (q : Nat → Nat → Nat) (o k : Nat) : Option Nat := if KD o < 11 then some (PC o k) else some (q o k)
abbrev up (h : AH) : FH := (NN, PQ h.2.2, h.1, h.2.1)
def hI (h : AH) (o k : Nat) : Int32 := h.1 o k
def hJ (h : AH) (o k : Nat) : Int64 := h.2.1 o k
def hQ (h : AH) (o k : Nat) : Nat := h.2.2 o k
def sI (h : AH) (o k : Nat) (v : Int32) : AH := (uI h.1 o k v, h.2)
def sJ (h : AH) (o k : Nat) (v : Int64) : AH := (h.1, uJ h.2.1 o k v, h.2.2)
def sQ (h : AH) (o k : Nat) (v : Nat) : AH := (h.1, h.2.1, fun a b => if a = o ∧ b = k then v else h.2.2 a b)
def oG {α : Type} (b : Bool) (t : Option α) : Option α := if b = true then t else none
def oL {α β : Type} (a : α) (f : α → β) : β := f a
def ob {α β : Type} (x : Option α) (f : α → Option β) : Option β := match x with | some a => f a | none => none
def ob2 {α γ β : Type} (x : Option (α × γ)) (f : α → γ → Option β) : Option β := match x with | some a => f a.1 a.2 | none => none
def isB (v : Int32) : Bool := decide (v = 0 ∨ v = 1)
theorem oG_some {α : Type} {b : Bool} {t : Option α} {r : α} (h : oG b t = some r) : b = true ∧ t = some r := by
  unfold oG at h
  by_cases hb : b = true
  · rw [if_pos hb] at h; exact ⟨hb, h⟩
  · rw [if_neg hb] at h; cases h
theorem ob_some {α β : Type} {x : Option α} {f : α → Option β} {r : β} (h : ob x f = some r) : ∃ a, x = some a ∧ f a = some r := by
  cases x with
  | none => cases h
  | some a => exact ⟨a, rfl, h⟩
theorem ob2_some {α γ β : Type} {x : Option (α × γ)} {f : α → γ → Option β} {r : β} (h : ob2 x f = some r) : ∃ a c, x = some (a, c) ∧ f a c = some r := by
  cases x with
  | none => cases h
  | some a => exact ⟨a.1, a.2, rfl, h⟩
theorem isB_nar {v : Int32} (h : isB v = true) : narrow .boolean (.int v) = .int v := by
  have h := of_decide_eq_true h
  rcases h with rfl | rfl <;> rfl
theorem PQ_uP {q : Nat → Nat → Nat} {o k x : Nat} (ho : ¬ KD o < 11) : uP (PQ q) o k (some x) = PQ (fun a b => if a = o ∧ b = k then x else q a b) := by
  funext a b
  unfold uP PQ
  by_cases h : a = o ∧ b = k
  · rw [if_pos h, if_neg (by rw [h.1]; exact ho)]
    show some x = some (if a = o ∧ b = k then x else q a b)
    rw [if_pos h]
  · rw [if_neg h]
    by_cases h2 : KD a < 11
    · rw [if_pos h2, if_pos h2]
    · rw [if_neg h2, if_neg h2]
      show some (q a b) = some (if a = o ∧ b = k then x else q a b)
      rw [if_neg h]
/-- from here the method ends with vo, and the world is h1 -/
abbrev U (l : Launch) (G : GG) (EX : State → Prop) (M : MI) (fr lo : Nat) (vo : Option Value) (h1 : AH) (pc : Nat) (lv : List (Nat × Value)) (st : List Value) (h : AH) : Prop :=
  V l G EX M ⟨fr, 0, 0, lo⟩ (FQ G (fun w f => w = vo ∧ f = up h1) 0 0) 0 0 pc lv st (up h)
/-- a method's contract: from the arguments av and the world h it ends with vo and the world h1 -/
def MetU (l : Launch) (G : GG) (EX : State → Prop) (M : MI) (fr lo : Nat) (av : List Value) (h : AH) (vo : Option Value) (h1 : AH) : Prop :=
  Met l M.1 (Cond.code M.1 M.2.1 M.2.2.1 M.2.2.2 :: WS) ⟨fr, 0, 0, lo⟩ (PcG G av (up h) EX) (QcG G (fun w f => w = vo ∧ f = up h1)) 0 0 (AA G)
theorem MetU.of {l : Launch} {G : GG} {EX : State → Prop} {M : MI} {fr lo : Nat} {av : List Value} {h : AH} {vo : Option Value} {h1 : AH} (hM : MIok M) (hlen : (lg_sl av).length ≤ M.2.2.1) (hV : U l G EX M fr lo vo h1 0 (lv_args 0 av) [] h) : MetU l G EX M fr lo av h vo h1 := V.met hM hlen hV
section UP
variable {l : Launch} {G : GG} {EX : State → Prop} {M : MI} {fr lo : Nat} {vo : Option Value} {h1 h : AH} {pc q : Nat} {lv : List (Nat × Value)} {st : List Value} {α : Type} {r : α}
theorem U.letI {e : Int32} {T : Int32 → Option α} (hx : oL e T = some r) (kk : ∀ v, T v = some r → U l G EX M fr lo vo h1 pc lv (.int v :: st) h) : U l G EX M fr lo vo h1 pc lv (.int e :: st) h := kk e hx
theorem U.letJ {e : Int64} {T : Int64 → Option α} (hx : oL e T = some r) (kk : ∀ v, T v = some r → U l G EX M fr lo vo h1 pc lv (.long v :: st) h) : U l G EX M fr lo vo h1 pc lv (.long e :: st) h := kk e hx
theorem U.iinc {i j : Nat} {d : Int} {x dd : Int32} {T : Int32 → Option α} (hx : oL (x + dd) T = some r) (lv2 : Int32 → List (Nat × Value)) (hj : lv[j]? = some (i, .int x)) (hd : Int32.ofInt d = dd) (hn : i < M.2.2.1) (hv : ∀ v, (i, Value.int v) :: lv.filter (fun q => !(q.1 == i) && !(q.1 + 1 == i && q.2.category == 2)) = lv2 v) (hdg : decode M.2.1 pc = .ok (.iinc i d, 3)) (hq : pc + 3 = q) (kk : ∀ v, T v = some r → U l G EX M fr lo vo h1 q (lv2 v) st h) : U l G EX M fr lo vo h1 pc lv st h :=
  V.iinc (v := x + dd) (lv2 (x + dd)) hj (by rw [hd]) hn (hv _) hdg hq (kk _ hx)
theorem U.getI {idx ci j : Nat} {C : String} {T : u_T} {N : Nat} {ty : Nat → FieldType} {o : Nat} (hf : FLk M.1.cls idx ci j 0 C T N ty) (ho : KD o = ci) (hdg : decode M.2.1 pc = .ok (.getfield idx, 3)) (hq : pc + 3 = q)
    (kk : U l G EX M fr lo vo h1 q lv (.int (hI h o j) :: st) h) : U l G EX M fr lo vo h1 pc lv (.ref (G.1 + o) :: st) h :=
  V.getI hf ho (KD_lt' ho (Nat.ne_of_lt (Nat.lt_trans hf.2.2.2.1 (by decide)))) hdg hq kk
theorem U.getJ {idx ci j : Nat} {C : String} {T : u_T} {N : Nat} {ty : Nat → FieldType} {o : Nat} (hf : FLk M.1.cls idx ci j 1 C T N ty) (ho : KD o = ci) (hdg : decode M.2.1 pc = .ok (.getfield idx, 3)) (hq : pc + 3 = q)
    (kk : U l G EX M fr lo vo h1 q lv (.long (hJ h o j) :: st) h) : U l G EX M fr lo vo h1 pc lv (.ref (G.1 + o) :: st) h :=
  V.getJ hf ho (KD_lt' ho (Nat.ne_of_lt (Nat.lt_trans hf.2.2.2.1 (by decide)))) hdg hq kk
theorem U.getP {idx ci j : Nat} {C : String} {T : u_T} {N : Nat} {ty : Nat → FieldType} {o : Nat} (hf : FLk M.1.cls idx ci j 2 C T N ty) (ho : KD o = ci) (hdg : decode M.2.1 pc = .ok (.getfield idx, 3)) (hq : pc + 3 = q)
    (kk : U l G EX M fr lo vo h1 q lv (.ref (G.1 + PC o j) :: st) h) : U l G EX M fr lo vo h1 pc lv (.ref (G.1 + o) :: st) h :=
  V.getP hf ho (KD_lt' ho (Nat.ne_of_lt (Nat.lt_trans hf.2.2.2.1 (by decide)))) (by show PQ h.2.2 o j = _; unfold PQ; rw [if_pos (by rw [ho]; exact Nat.lt_trans hf.2.2.2.1 (by decide))]) hdg hq kk
theorem U.putI {idx ci j : Nat} {C : String} {T : u_T} {N : Nat} {ty : Nat → FieldType} {o : Nat} {v : Int32} {F : AH → Option α} (hx : oL (sI h o j v) F = some r) (hf : FLk M.1.cls idx ci j 0 C T N ty) (ho : KD o = ci) (hfin : (T j).2.2.2 = false) (hty : ty j = .int) (hdg : decode M.2.1 pc = .ok (.putfield idx, 3)) (hq : pc + 3 = q)
    (kk : ∀ h', F h' = some r → U l G EX M fr lo vo h1 q lv st h') : U l G EX M fr lo vo h1 pc lv (.int v :: .ref (G.1 + o) :: st) h :=
  V.putI hf ho (KD_lt' ho (Nat.ne_of_lt (Nat.lt_trans hf.2.2.2.1 (by decide)))) hfin hty hdg hq (kk (sI h o j v) hx)
theorem U.putJ {idx ci j : Nat} {C : String} {T : u_T} {N : Nat} {ty : Nat → FieldType} {o : Nat} {v : Int64} {F : AH → Option α} (hx : oL (sJ h o j v) F = some r) (hf : FLk M.1.cls idx ci j 1 C T N ty) (ho : KD o = ci) (hfin : (T j).2.2.2 = false) (hty : ty j = .long) (hdg : decode M.2.1 pc = .ok (.putfield idx, 3)) (hq : pc + 3 = q)
    (kk : ∀ h', F h' = some r → U l G EX M fr lo vo h1 q lv st h') : U l G EX M fr lo vo h1 pc lv (.long v :: .ref (G.1 + o) :: st) h :=
  V.putJ hf ho (KD_lt' ho (Nat.ne_of_lt (Nat.lt_trans hf.2.2.2.1 (by decide)))) hfin hty hdg hq (kk (sJ h o j v) hx)
theorem U.iald {o : Nat} {i : Int32} {F : Option α} (hx : oG (inb i (SZ o)) F = some r) (ho : KD o = 9) (hdg : decode M.2.1 pc = .ok (.iaload, 1)) (hq : pc + 1 = q)
    (kk : F = some r → U l G EX M fr lo vo h1 q lv (.int (hI h o (ix i)) :: st) h) : U l G EX M fr lo vo h1 pc lv (.int i :: .ref (G.1 + o) :: st) h :=
  V.iald ho (KD_lt' ho (by decide)) (oG_some hx).1 hdg hq (kk (oG_some hx).2)
theorem U.zald {o : Nat} {i : Int32} {F : Option α} (hx : oG (inb i (SZ o)) F = some r) (ho : KD o = 10) (hdg : decode M.2.1 pc = .ok (.baload, 1)) (hq : pc + 1 = q)
    (kk : F = some r → U l G EX M fr lo vo h1 q lv (.int (hI h o (ix i)) :: st) h) : U l G EX M fr lo vo h1 pc lv (.int i :: .ref (G.1 + o) :: st) h :=
  V.zald ho (KD_lt' ho (by decide)) (oG_some hx).1 hdg hq (kk (oG_some hx).2)
theorem U.aald {o ci kx : Nat} {i : Int32} {F : Option α} (hx : oG (inb i (SZ o)) (oG (decide (KD (hQ h o (ix i)) = kx)) F) = some r) (ho : KD o = ci) (hc : ci = 11 ∨ ci = 12) (hdg : decode M.2.1 pc = .ok (.aaload, 1)) (hq : pc + 1 = q)
    (kk : KD (hQ h o (ix i)) = kx → F = some r → U l G EX M fr lo vo h1 q lv (.ref (G.1 + hQ h o (ix i)) :: st) h) : U l G EX M fr lo vo h1 pc lv (.int i :: .ref (G.1 + o) :: st) h := by
  obtain ⟨a, hx⟩ := oG_some hx
  obtain ⟨b, hx⟩ := oG_some hx
  exact V.aald ho hc (KD_lt' ho (by omega)) a (by show PQ h.2.2 o _ = _; unfold PQ; rw [if_neg (by omega)]; rfl) hdg hq (kk (of_decide_eq_true b) hx)
theorem U.iast {o : Nat} {i x : Int32} {F : AH → Option α} (hx : oG (inb i (SZ o)) (oL (sI h o (ix i) x) F) = some r) (ho : KD o = 9) (hdg : decode M.2.1 pc = .ok (.iastore, 1)) (hq : pc + 1 = q)
    (kk : ∀ h', F h' = some r → U l G EX M fr lo vo h1 q lv st h') : U l G EX M fr lo vo h1 pc lv (.int x :: .int i :: .ref (G.1 + o) :: st) h :=
  V.iast ho (KD_lt' ho (by decide)) (oG_some hx).1 hdg hq (kk (sI h o (ix i) x) (oG_some hx).2)
theorem U.zast {o : Nat} {i x : Int32} {F : AH → Option α} (hx : oG (inb i (SZ o)) (oG (isB x) (oL (sI h o (ix i) x) F)) = some r) (ho : KD o = 10) (hdg : decode M.2.1 pc = .ok (.bastore, 1)) (hq : pc + 1 = q)
    (kk : ∀ h', F h' = some r → U l G EX M fr lo vo h1 q lv st h') : U l G EX M fr lo vo h1 pc lv (.int x :: .int i :: .ref (G.1 + o) :: st) h :=
  V.zast ho (KD_lt' ho (by decide)) (oG_some hx).1 (isB_nar (oG_some (oG_some hx).2).1) hdg hq (kk (sI h o (ix i) x) (oG_some (oG_some hx).2).2)
theorem U.aast {o ci x kx : Nat} {i : Int32} {F : AH → Option α} (hx : oG (inb i (SZ o)) (oL (sQ h o (ix i) x) F) = some r) (ho : KD o = ci) (hc : (ci = 11 ∧ kx = 0) ∨ (ci = 12 ∧ kx = 1)) (hkx : KD x = kx) (hdg : decode M.2.1 pc = .ok (.aastore, 1)) (hq : pc + 1 = q)
    (kk : ∀ h', F h' = some r → U l G EX M fr lo vo h1 q lv st h') : U l G EX M fr lo vo h1 pc lv (.ref (G.1 + x) :: .int i :: .ref (G.1 + o) :: st) h := by
  have k9 := kk (sQ h o (ix i) x) (oG_some hx).2
  refine V.aast ho hc (KD_lt' ho (by omega)) (oG_some hx).1 hkx (KD_lt' hkx (by omega)) hdg hq ?_
  show V l G EX M ⟨fr, 0, 0, lo⟩ _ 0 0 q lv st (NN, uP (PQ h.2.2) o (ix i) (some x), h.1, h.2.1)
  rw [PQ_uP (by omega)]
  exact k9
theorem U.alen {o ci : Nat} (ho : KD o = ci) (hc : ci = 9 ∨ ci = 10 ∨ ci = 11 ∨ ci = 12) (hdg : decode M.2.1 pc = .ok (.arraylength, 1)) (hq : pc + 1 = q)
    (kk : U l G EX M fr lo vo h1 q lv (.int (Int32.ofNat (SZ o)) :: st) h) : U l G EX M fr lo vo h1 pc lv (.ref (G.1 + o) :: st) h :=
  V.alen ho hc (KD_lt' ho (by omega)) rfl hdg hq kk
/-- ends -/
theorem U.retI {v : Int32} {ty : FieldType} (hv : vo = some (.int v)) (hh : h1 = h) (hr : M.2.2.2 = some ty) (hn : narrow ty (.int v) = .int v) (hdg : decode M.2.1 pc = .ok (.ireturn, 1)) : U l G EX M fr lo vo h1 pc lv [.int v] h := V.retI hr hn (Nat.le_refl _) (Nat.le_refl _) hdg ⟨hv.symm, by rw [hh]⟩
theorem U.retJ {v : Int64} (hv : vo = some (.long v)) (hh : h1 = h) (hr : M.2.2.2 = some .long) (hdg : decode M.2.1 pc = .ok (.lreturn, 1)) : U l G EX M fr lo vo h1 pc lv [.long v] h := V.retJ hr (Nat.le_refl _) (Nat.le_refl _) hdg ⟨hv.symm, by rw [hh]⟩
theorem U.ret0 (hv : vo = none) (hh : h1 = h) (hr : M.2.2.2 = none) (hdg : decode M.2.1 pc = .ok (.return_, 1)) : U l G EX M fr lo vo h1 pc lv [] h := V.ret0 hr (Nat.le_refl _) (Nat.le_refl _) hdg ⟨hv.symm, by rw [hh]⟩
/-- calls -/
theorem U.callS {Mc : MI} {fr' lo' idx na : Nat} {As rest st' : List Value} {vc : Option Value} {h' : AH} (hE : EXok G EX) (hM : MetU l G EX Mc fr' lo' As h vc h') (hMc : MIc Mc na) (hna : As.length = na) (hml : Cond.methodLink M.1.cls idx Mc.1 ∈ WS) (hst : Cond.static Mc.1 ∈ WS)
    (hr : fr' + 1 ≤ fr ∧ 8 + (Mc.2.2.1 + 11) + lo' ≤ lo) (hcat : (rest.map fun v => v.category).sum ≤ 8) (hdg : decode M.2.1 pc = .ok (.invokestatic idx, 3)) (hstack : st = As.reverse ++ rest) (hq : pc + 3 = q) (hst' : vc.toList ++ rest = st')
    (kk : U l G EX M fr lo vo h1 q lv st' h') : U l G EX M fr lo vo h1 pc lv st h := by
  subst hst'
  refine V.callS hE hMc hna hM hml hst hr hcat ⟨Nat.le_refl _, Nat.le_refl _⟩ hdg hstack hq ?_
  rintro _ _ ⟨rfl, rfl⟩
  exact kk
theorem U.callSN {Mc : MI} {fr' lo' idx na : Nat} {host : String} {As rest st' : List Value} {vc : Option Value} {h' : AH} (hE : EXok G EX) (hM : MetU l G EX Mc fr' lo' As h vc h') (hMc : MIc Mc na) (hna : As.length = na) (hml : Cond.methodLinkNest M.1.cls idx Mc.1 host ∈ lw_tbl) (hst : Cond.static Mc.1 ∈ WS)
    (hr : fr' + 1 ≤ fr ∧ 8 + (Mc.2.2.1 + 11) + lo' ≤ lo) (hcat : (rest.map fun v => v.category).sum ≤ 8) (hdg : decode M.2.1 pc = .ok (.invokestatic idx, 3)) (hstack : st = As.reverse ++ rest) (hq : pc + 3 = q) (hst' : vc.toList ++ rest = st')
    (kk : U l G EX M fr lo vo h1 q lv st' h') : U l G EX M fr lo vo h1 pc lv st h := by
  subst hst'
  refine V.callSN hE hMc hna hM hml hst hr hcat ⟨Nat.le_refl _, Nat.le_refl _⟩ hdg hstack hq ?_
  rintro _ _ ⟨rfl, rfl⟩
  exact kk
theorem U.callV {Mc : MI} {fr' lo' idx na o ci : Nat} {rc : vw_C} {As rest st' : List Value} {vc : Option Value} {h' : AH} (hE : EXok G EX) (hM : MetU l G EX Mc fr' lo' (.ref (G.1 + o) :: As) h vc h') (hMc : MIc Mc na) (hna : As.length = na) (ho : KD o = ci) (hci : ci < 9) (hrc : vwCl[ci]? = some rc) (hrn : Mc.1.cls = rc.1) (hml : Cond.methodLink M.1.cls idx Mc.1 ∈ WS) (hin : Cond.instanceMethod Mc.1 ∈ WS) (hse : Cond.selects Mc.1.cls Mc.1 Mc.1 ∈ WS)
    (hr : fr' + 1 ≤ fr ∧ 8 + (Mc.2.2.1 + 11) + lo' ≤ lo) (hcat : (rest.map fun v => v.category).sum ≤ 8) (hdg : decode M.2.1 pc = .ok (.invokevirtual idx, 3)) (hstack : st = As.reverse ++ .ref (G.1 + o) :: rest) (hq : pc + 3 = q) (hst' : vc.toList ++ rest = st')
    (kk : U l G EX M fr lo vo h1 q lv st' h') : U l G EX M fr lo vo h1 pc lv st h := by
  subst hst'
  refine V.callV hE hMc hna ho hci (KD_lt' ho (by omega)) hrc hrn hM hml hin hse hr hcat ⟨Nat.le_refl _, Nat.le_refl _⟩ hdg hstack hq ?_
  rintro _ _ ⟨rfl, rfl⟩
  exact kk
end UP
