/-! memory: fields, arrays, new cells, calls -/
theorem rg_get {f : Nat → Value} {N k : Nat} (hk : k < N) : ((List.range N).map f)[k]? = some (f k) := by simp [hk]
theorem rg_set {f g : Nat → Value} {N k : Nat} {v : Value} (hk : g k = v) (hg : ∀ j, j < N → j ≠ k → g j = f j) : ((List.range N).map f).set k v = (List.range N).map g := by
  refine List.ext_getElem? fun i => ?_
  by_cases hi : i < N
  · rw [rg_get hi]
    by_cases hik : i = k
    · subst hik
      rw [List.getElem?_set_self (by simpa using hi), hk]
    · rw [List.getElem?_set_ne (Ne.symm hik), rg_get hi, hg i hi hik]
  · rw [List.getElem?_eq_none (by simp; omega), List.getElem?_eq_none (by simp; omega)]
def uI (I : Nat → Nat → Int32) (o k : Nat) (v : Int32) : Nat → Nat → Int32 := fun a b => if a = o ∧ b = k then v else I a b
def uJ (I : Nat → Nat → Int64) (o k : Nat) (v : Int64) : Nat → Nat → Int64 := fun a b => if a = o ∧ b = k then v else I a b
def uP (I : Nat → Nat → Option Nat) (o k : Nat) (v : Option Nat) : Nat → Nat → Option Nat := fun a b => if a = o ∧ b = k then v else I a b
def inb (i : Int32) (n : Nat) : Bool := decide (¬ (i < 0 ∨ n ≤ i.toNatClampNeg))
theorem inb_in {i : Int32} {n : Nat} (h : inb i n = true) : vp_in i n := by
  unfold inb at h
  unfold vp_in
  exact of_decide_eq_true h
abbrev ix (i : Int32) : Nat := i.toNatClampNeg
theorem ent_obj {G : GG} {h : FH} {o ci : Nat} (ho : KD o = ci) (hci : ci < 9) : ent G h o = .inr (ci, (List.range (NF ci)).map (fv G h o ci)) := by
  subst ho
  rw [ent, if_pos hci]
theorem ent_arr {G : GG} {h : FH} {o ci : Nat} (ho : KD o = ci) (h1 : ci = 9 ∨ ci = 10) : ent G h o = .inl (G.2.2.1 ci, SZ o, .inl (h.2.2.1 o)) := by
  subst ho
  rw [ent, if_neg (by omega), if_pos (by omega)]
theorem ent_ref {G : GG} {h : FH} {o ci : Nat} (ho : KD o = ci) (h1 : 11 ≤ ci) : ent G h o = .inl (G.2.2.1 ci, SZ o, .inr (.inr (.inr (.inr (fun j => (h.2.1 o j).map (fun q => G.1 + q)))))) := by
  subst ho
  rw [ent, if_neg (by omega), if_neg (by omega)]
section MEM
variable {l : Launch} {G : GG} {EX : State → Prop} {M : MI} {rm : Room} {FIN : FT1} {mc ms : Nat} {k n pc q : Nat} {lv : List (Nat × Value)} {st : List Value} {h : FH}
theorem V.getf {idx ci j ft : Nat} {C : String} {T : u_T} {N : Nat} {ty : Nat → FieldType} {o : Nat} {v : Value} (hf : FLk M.1.cls idx ci j ft C T N ty) (ho : KD o = ci) (hlt : o < h.1) (hv : fv G h o ci j = v) (hdg : decode M.2.1 pc = .ok (.getfield idx, 3)) (hq : pc + 3 = q)
    (kk : V l G EX M rm FIN k n q lv (v :: st) h) : V l G EX M rm FIN k n pc lv (.ref (G.1 + o) :: st) h := by
  subst hq
  intro p e s m args below meth c C0 H locs ls hP hS hb hl
  obtain ⟨⟨hc, hin, hty, hnm, hT1⟩, hk, hN, hci, hft, hlk⟩ := hf
  subst hN
  have he : (Wl G h)[o]? = some (G.1 + o, .inr (ci, (List.range (NF ci)).map (fv G h o ci))) := by rw [Wl_get hlt, ent_obj ho hci]
  exact va_get C0.1 C0.2.1 (Ts := WS) C0.2.2.2.2.2.2.2.1 hin C0.2.2.2.2.2.1 C0.2.2.2.2.2.2.2.2.1.1 hP.1 o he hc j hk (C0.2.2.2.2.2.2.2.1 _ hlk) (fun x hx => by rw [← hT1 j hk]; exact hx) (v := v) (by rw [rg_get hk, hv]) hdg (kk p e s m args below meth c C0 H locs ls hP hS hb hl)
/-- a store of a field: what the heap is then -/
theorem HW.put {h h' : FH} {H H1 : Heap} {o : Nat} (hP : HW G h H) (hlt : o < h.1) (h1 : h'.1 = h.1) (hoo : ∀ i, i < h.1 → i ≠ o → ent G h' i = ent G h i) (he : va_at G.2.1 vwCl (G.1 + o, ent G h' o) H1) (hz : H1.size = H.size) (oq : ∀ q : Nat, q ≠ G.1 + o → H1[q]? = H[q]?) : HW G h' H1 := by
  refine ⟨?_, by rw [h1, hz]; exact hP.2⟩
  rw [← Wl_set (G := G) (o := o) h1 hoo]
  exact hP.1.set (A := AA G) Wl_D (Wl_get hlt) he oq
theorem V.putf {idx ci j ft : Nat} {C : String} {T : u_T} {N : Nat} {ty : Nat → FieldType} {o : Nat} {v : Value} {h' : FH} (hf : FLk M.1.cls idx ci j ft C T N ty) (ho : KD o = ci) (hlt : o < h.1) (hfin : (T j).2.2.2 = false)
    (hn : narrow (ty j) v = v) (hfit : fits (ty j) v = true) (h1 : h'.1 = h.1) (hv : fv G h' o ci j = v) (hot : ∀ i, i < N → i ≠ j → fv G h' o ci i = fv G h o ci i) (hoo : ∀ i, i < h.1 → i ≠ o → ent G h' i = ent G h i) (hdg : decode M.2.1 pc = .ok (.putfield idx, 3)) (hq : pc + 3 = q)
    (kk : V l G EX M rm FIN k n q lv st h') : V l G EX M rm FIN k n pc lv (v :: .ref (G.1 + o) :: st) h := by
  subst hq
  intro p e s m args below meth c C0 H locs ls hP hS hb hl
  obtain ⟨⟨hc, hin, hty, hnm, hT1⟩, hk, hN, hci, hft, hlk⟩ := hf
  subst hN
  have hts := C0.2.2.2.2.2.2.2.1
  have hown := C0.2.2.2.2.2.1
  have hK := C0.2.2.2.2.2.2.2.2.1.1
  have he : (Wl G h)[o]? = some (G.1 + o, .inr (ci, (List.range (NF ci)).map (fv G h o ci))) := by rw [Wl_get hlt, ent_obj ho hci]
  have hap := va_apart (own := M.1.cls) hts hin ty hty hnm hK hc
  obtain ⟨r, g1, cell, q1, q2, q3, q4⟩ := hP.1 o _ he
  have hr : r = (C, T, NF ci) := Option.some.inj (g1.symm.trans hc)
  subst hr
  obtain ⟨hS9, hfc, kC, hkC, hkind⟩ := hK.1 ci _ hc
  obtain ⟨cf, kf, fi, f, hi, hsl⟩ := hS9 j hk
  have hlay := hts _ (hin _ (u_in_lay hk))
  unfold u_lay at hlay
  rw [if_neg (by rw [hfin]; decide)] at hlay
  have hst := (u_facts hfc hkC (u_lays hts hin hk) hi).1
  have h6 := u_store hfc hkC hkind hlay hi (hty j hk) hn hfit
  refine W.putK C0.1 C0.2.1 (f := f) ⟨hown, hts _ hlk, ⟨_, _, _, by rw [← hT1 j hk]; exact hi⟩, hst⟩ (by rw [q2]; exact h6) q1 q3 (by rw [hsl]; exact k2_hasslot (q4 j hk)) rfl rfl hdg fun H1 e1 e2 e3 => ?_
  rw [hsl] at e1 ⊢
  have hat : va_at G.2.1 vwCl (G.1 + o, ent G h' o) H1 := by
    rw [ent_obj ho hci, ← rg_set (f := fv G h o ci) hv hot]
    exact ⟨_, hc, t_OB.to (V := updV (vp_V ((List.range (NF ci)).map (fv G h o ci))) j v) ⟨_, e1, q2, q3, t_set q4 hap hk v⟩ (fun i _ => vp_updV_set (by simpa using hk) v i)⟩
  exact kk p e s m args below meth c C0 H1 _ ls (hP.put hlt h1 hoo hat e2 e3) (hS.put e2 e3 (Nat.le_add_right _ _)) hb hl
theorem V.putF {idx ci j ft : Nat} {C : String} {T : u_T} {N : Nat} {ty : Nat → FieldType} {o : Nat} {v : Value} {h' : FH} (hf : FLk M.1.cls idx ci j ft C T N ty) (ho : KD o = ci) (hlt : o < h.1) (hfin : (T j).2.2.2 = true) (hin2 : M.1.name = "<init>") (hown1 : C = M.1.cls)
    (hn : narrow (ty j) v = v) (hfit : fits (ty j) v = true) (h1 : h'.1 = h.1) (hv : fv G h' o ci j = v) (hot : ∀ i, i < N → i ≠ j → fv G h' o ci i = fv G h o ci i) (hoo : ∀ i, i < h.1 → i ≠ o → ent G h' i = ent G h i) (hdg : decode M.2.1 pc = .ok (.putfield idx, 3)) (hq : pc + 3 = q)
    (kk : V l G EX M rm FIN k n q lv st h') : V l G EX M rm FIN k n pc lv (v :: .ref (G.1 + o) :: st) h := by
  subst hq
  intro p e s m args below meth c C0 H locs ls hP hS hb hl
  obtain ⟨⟨hc, hin, hty, hnm, hT1⟩, hk, hN, hci, hft, hlk⟩ := hf
  subst hN
  have hts := C0.2.2.2.2.2.2.2.1
  have hown := C0.2.2.2.2.2.1
  have hK := C0.2.2.2.2.2.2.2.2.1.1
  have he : (Wl G h)[o]? = some (G.1 + o, .inr (ci, (List.range (NF ci)).map (fv G h o ci))) := by rw [Wl_get hlt, ent_obj ho hci]
  have hap := va_apart (own := M.1.cls) hts hin ty hty hnm hK hc
  obtain ⟨r, g1, cell, q1, q2, q3, q4⟩ := hP.1 o _ he
  have hr : r = (C, T, NF ci) := Option.some.inj (g1.symm.trans hc)
  subst hr
  obtain ⟨hS9, hfc, kC, hkC, hkind⟩ := hK.1 ci _ hc
  obtain ⟨cf, kf, fi, f, hi, hsl⟩ := hS9 j hk
  have hlay := hts _ (hin _ (u_in_lay hk))
  unfold u_lay at hlay
  rw [if_pos hfin] at hlay
  have hst := (u_facts hfc hkC (u_lays hts hin hk) hi).1
  have hcf : m.cls = cf := by
    obtain ⟨_, _, c', _, _, _, -, -, hf', -, -, -, hown2, -⟩ := Cond.laysFinal_spec hlay
    have e1 : c' = cf := by have := hi.symm.trans hf'; simp at this; exact this.1.symm
    rw [hT1 j hk, hown1] at hown2
    rw [← e1]; exact Option.some.inj (hown.symm.trans hown2)
  have h6 := u_fits hfc hkC hkind (Or.inr hlay) hi (hty j hk) hn hfit
  refine W.putFinK C0.1 C0.2.1 hown (hts _ hlk) (by rw [← hT1 j hk]; exact hi) hst hcf (C0.2.2.2.2.2.2.1 hin2) (by rw [q2]; exact h6) q1 q3 (by rw [hsl]; exact k2_hasslot (q4 j hk)) rfl rfl hdg fun H1 e1 e2 e3 => ?_
  rw [hsl] at e1 ⊢
  have hat : va_at G.2.1 vwCl (G.1 + o, ent G h' o) H1 := by
    rw [ent_obj ho hci, ← rg_set (f := fv G h o ci) hv hot]
    exact ⟨_, hc, t_OB.to (V := updV (vp_V ((List.range (NF ci)).map (fv G h o ci))) j v) ⟨_, e1, q2, q3, t_set q4 hap hk v⟩ (fun i _ => vp_updV_set (by simpa using hk) v i)⟩
  exact kk p e s m args below meth c C0 H1 _ ls (hP.put hlt h1 hoo hat e2 e3) (hS.put e2 e3 (Nat.le_add_right _ _)) hb hl
theorem ent_uI {P : Nat → Nat → Option Nat} {n : Nat} {I : Nat → Nat → Int32} {J : Nat → Nat → Int64} {o j : Nat} {v : Int32} {i : Nat} (hi : i ≠ o) : ent G (n, P, uI I o j v, J) i = ent G (n, P, I, J) i := by
  have e1 : ∀ b, uI I o j v i b = I i b := fun b => by simp [uI, hi]
  have e2 : uI I o j v i = I i := funext e1
  unfold ent fv
  simp only [e2, e1]
theorem ent_uJ {P : Nat → Nat → Option Nat} {n : Nat} {I : Nat → Nat → Int32} {J : Nat → Nat → Int64} {o j : Nat} {v : Int64} {i : Nat} (hi : i ≠ o) : ent G (n, P, I, uJ J o j v) i = ent G (n, P, I, J) i := by
  have e1 : ∀ b, uJ J o j v i b = J i b := fun b => by simp [uJ, hi]
  unfold ent fv
  simp only [e1]
theorem ent_uP {P : Nat → Nat → Option Nat} {n : Nat} {I : Nat → Nat → Int32} {J : Nat → Nat → Int64} {o j : Nat} {v : Option Nat} {i : Nat} (hi : i ≠ o) : ent G (n, uP P o j v, I, J) i = ent G (n, P, I, J) i := by
  have e1 : ∀ b, uP P o j v i b = P i b := fun b => by simp [uP, hi]
  unfold ent fv
  simp only [e1]
/-- an int field -/
theorem V.getI {idx ci j : Nat} {C : String} {T : u_T} {N : Nat} {ty : Nat → FieldType} {o : Nat} (hf : FLk M.1.cls idx ci j 0 C T N ty) (ho : KD o = ci) (hlt : o < h.1) (hdg : decode M.2.1 pc = .ok (.getfield idx, 3)) (hq : pc + 3 = q)
    (kk : V l G EX M rm FIN k n q lv (.int (h.2.2.1 o j) :: st) h) : V l G EX M rm FIN k n pc lv (.ref (G.1 + o) :: st) h :=
  V.getf hf ho hlt (by rw [fv, if_pos hf.2.2.2.2.1]) hdg hq kk
theorem V.getJ {idx ci j : Nat} {C : String} {T : u_T} {N : Nat} {ty : Nat → FieldType} {o : Nat} (hf : FLk M.1.cls idx ci j 1 C T N ty) (ho : KD o = ci) (hlt : o < h.1) (hdg : decode M.2.1 pc = .ok (.getfield idx, 3)) (hq : pc + 3 = q)
    (kk : V l G EX M rm FIN k n q lv (.long (h.2.2.2 o j) :: st) h) : V l G EX M rm FIN k n pc lv (.ref (G.1 + o) :: st) h :=
  V.getf hf ho hlt (by rw [fv, if_neg (by rw [hf.2.2.2.2.1]; decide), if_pos hf.2.2.2.2.1]) hdg hq kk
theorem V.getP {idx ci j : Nat} {C : String} {T : u_T} {N : Nat} {ty : Nat → FieldType} {o x : Nat} (hf : FLk M.1.cls idx ci j 2 C T N ty) (ho : KD o = ci) (hlt : o < h.1) (hx : h.2.1 o j = some x) (hdg : decode M.2.1 pc = .ok (.getfield idx, 3)) (hq : pc + 3 = q)
    (kk : V l G EX M rm FIN k n q lv (.ref (G.1 + x) :: st) h) : V l G EX M rm FIN k n pc lv (.ref (G.1 + o) :: st) h :=
  V.getf hf ho hlt (by rw [fv, if_neg (by rw [hf.2.2.2.2.1]; decide), if_neg (by rw [hf.2.2.2.2.1]; decide), hx]; rfl) hdg hq kk
theorem V.putI {idx ci j : Nat} {C : String} {T : u_T} {N : Nat} {ty : Nat → FieldType} {o : Nat} {v : Int32} (hf : FLk M.1.cls idx ci j 0 C T N ty) (ho : KD o = ci) (hlt : o < h.1) (hfin : (T j).2.2.2 = false) (hty : ty j = .int) (hdg : decode M.2.1 pc = .ok (.putfield idx, 3)) (hq : pc + 3 = q)
    (kk : V l G EX M rm FIN k n q lv st (h.1, h.2.1, uI h.2.2.1 o j v, h.2.2.2)) : V l G EX M rm FIN k n pc lv (.int v :: .ref (G.1 + o) :: st) h :=
  V.putf (h' := (h.1, h.2.1, uI h.2.2.1 o j v, h.2.2.2)) hf ho hlt hfin (by rw [hty]; rfl) (by rw [hty]; rfl) rfl (by rw [fv, if_pos hf.2.2.2.2.1]; simp [uI]) (fun i _ hi => by simp [fv, uI, hi]) (fun i _ hi => ent_uI hi) hdg hq kk
theorem V.putJ {idx ci j : Nat} {C : String} {T : u_T} {N : Nat} {ty : Nat → FieldType} {o : Nat} {v : Int64} (hf : FLk M.1.cls idx ci j 1 C T N ty) (ho : KD o = ci) (hlt : o < h.1) (hfin : (T j).2.2.2 = false) (hty : ty j = .long) (hdg : decode M.2.1 pc = .ok (.putfield idx, 3)) (hq : pc + 3 = q)
    (kk : V l G EX M rm FIN k n q lv st (h.1, h.2.1, h.2.2.1, uJ h.2.2.2 o j v)) : V l G EX M rm FIN k n pc lv (.long v :: .ref (G.1 + o) :: st) h :=
  V.putf (h' := (h.1, h.2.1, h.2.2.1, uJ h.2.2.2 o j v)) hf ho hlt hfin (by rw [hty]; rfl) (by rw [hty]; rfl) rfl (by rw [fv, if_neg (by rw [hf.2.2.2.2.1]; decide), if_pos hf.2.2.2.2.1]; simp [uJ]) (fun i _ hi => by simp [fv, uJ, hi]) (fun i _ hi => ent_uJ hi) hdg hq kk
theorem V.putP {idx ci j : Nat} {C : String} {T : u_T} {N : Nat} {ty : Nat → FieldType} {o x : Nat} (hf : FLk M.1.cls idx ci j 2 C T N ty) (ho : KD o = ci) (hlt : o < h.1) (hfin : (T j).2.2.2 = true) (hin2 : M.1.name = "<init>") (hown1 : C = M.1.cls) (hn : narrow (ty j) (.ref (G.1 + x)) = .ref (G.1 + x)) (hfit : fits (ty j) (.ref (G.1 + x)) = true) (hdg : decode M.2.1 pc = .ok (.putfield idx, 3)) (hq : pc + 3 = q)
    (kk : V l G EX M rm FIN k n q lv st (h.1, uP h.2.1 o j (some x), h.2.2.1, h.2.2.2)) : V l G EX M rm FIN k n pc lv (.ref (G.1 + x) :: .ref (G.1 + o) :: st) h :=
  V.putF (h' := (h.1, uP h.2.1 o j (some x), h.2.2.1, h.2.2.2)) hf ho hlt hfin hin2 hown1 hn hfit rfl (by rw [fv, if_neg (by rw [hf.2.2.2.2.1]; decide), if_neg (by rw [hf.2.2.2.2.1]; decide)]; simp [uP, va_rf]) (fun i _ hi => by simp [fv, uP, hi]) (fun i _ hi => ent_uP hi) hdg hq kk
/-- arrays -/
theorem V.iald {o : Nat} {i : Int32} (ho : KD o = 9) (hlt : o < h.1) (hin : inb i (SZ o) = true) (hdg : decode M.2.1 pc = .ok (.iaload, 1)) (hq : pc + 1 = q)
    (kk : V l G EX M rm FIN k n q lv (.int (h.2.2.1 o (ix i)) :: st) h) : V l G EX M rm FIN k n pc lv (.int i :: .ref (G.1 + o) :: st) h := by
  subst hq
  intro p e s m args below meth c C0 H locs ls hP hS hb hl
  exact va_iald C0.1 C0.2.1 C0.2.2.2.2.2.2.2.2.1.1 hP.1 o 0 (by rw [Wl_get hlt, ent_arr ho (by omega)]) rfl (inb_in hin) hdg (kk p e s m args below meth c C0 H locs ls hP hS hb hl)
theorem V.zald {o : Nat} {i : Int32} (ho : KD o = 10) (hlt : o < h.1) (hin : inb i (SZ o) = true) (hdg : decode M.2.1 pc = .ok (.baload, 1)) (hq : pc + 1 = q)
    (kk : V l G EX M rm FIN k n q lv (.int (h.2.2.1 o (ix i)) :: st) h) : V l G EX M rm FIN k n pc lv (.int i :: .ref (G.1 + o) :: st) h := by
  subst hq
  intro p e s m args below meth c C0 H locs ls hP hS hb hl
  exact va_zald C0.1 C0.2.1 C0.2.2.2.2.2.2.2.2.1.1 hP.1 o 1 (by rw [Wl_get hlt, ent_arr ho (by omega)]) rfl (inb_in hin) hdg (kk p e s m args below meth c C0 H locs ls hP hS hb hl)
theorem V.aald {o ci x : Nat} {i : Int32} (ho : KD o = ci) (hc : ci = 11 ∨ ci = 12) (hlt : o < h.1) (hin : inb i (SZ o) = true) (hx : h.2.1 o (ix i) = some x) (hdg : decode M.2.1 pc = .ok (.aaload, 1)) (hq : pc + 1 = q)
    (kk : V l G EX M rm FIN k n q lv (.ref (G.1 + x) :: st) h) : V l G EX M rm FIN k n pc lv (.int i :: .ref (G.1 + o) :: st) h := by
  subst hq
  intro p e s m args below meth c C0 H locs ls hP hS hb hl
  have hv : va_rf ((h.2.1 o (ix i)).map (fun q => G.1 + q)) = .ref (G.1 + x) := by rw [hx]; rfl
  have kk' := kk p e s m args below meth c C0 H locs ls hP hS hb hl
  rw [← hv] at kk'
  rcases hc with rfl | rfl
  · exact va_aldq (f := fun j => (h.2.1 o j).map (fun q => G.1 + q)) C0.1 C0.2.1 C0.2.2.2.2.2.2.2.2.1.1 hP.1 o 2 (by rw [Wl_get hlt, ent_ref ho (by omega)]) rfl (inb_in hin) hdg kk'
  · exact va_aldq (f := fun j => (h.2.1 o j).map (fun q => G.1 + q)) C0.1 C0.2.1 C0.2.2.2.2.2.2.2.2.1.1 hP.1 o 3 (by rw [Wl_get hlt, ent_ref ho (by omega)]) rfl (inb_in hin) hdg kk'
theorem V.alen {o ci : Nat} {v : Int32} (ho : KD o = ci) (hc : ci = 9 ∨ ci = 10 ∨ ci = 11 ∨ ci = 12) (hlt : o < h.1) (hv : Int32.ofNat (SZ o) = v) (hdg : decode M.2.1 pc = .ok (.arraylength, 1)) (hq : pc + 1 = q)
    (kk : V l G EX M rm FIN k n q lv (.int v :: st) h) : V l G EX M rm FIN k n pc lv (.ref (G.1 + o) :: st) h := by
  subst hq
  intro p e s m args below meth c C0 H locs ls hP hS hb hl
  have kk' := kk p e s m args below meth c C0 H locs ls hP hS hb hl
  have hK := C0.2.2.2.2.2.2.2.2.1.1
  rcases hc with rfl | rfl | rfl | rfl
  · exact va_alen C0.1 C0.2.1 hK hP.1 o 0 (by rw [Wl_get hlt, ent_arr ho (by omega)]) rfl hv hdg kk'
  · exact va_alen C0.1 C0.2.1 hK hP.1 o 1 (by rw [Wl_get hlt, ent_arr ho (by omega)]) rfl hv hdg kk'
  · exact va_alen C0.1 C0.2.1 hK hP.1 o 2 (by rw [Wl_get hlt, ent_ref ho (by omega)]) rfl hv hdg kk'
  · exact va_alen C0.1 C0.2.1 hK hP.1 o 3 (by rw [Wl_get hlt, ent_ref ho (by omega)]) rfl hv hdg kk'
theorem V.iast {o : Nat} {i x : Int32} (ho : KD o = 9) (hlt : o < h.1) (hin : inb i (SZ o) = true) (hdg : decode M.2.1 pc = .ok (.iastore, 1)) (hq : pc + 1 = q)
    (kk : V l G EX M rm FIN k n q lv st (h.1, h.2.1, uI h.2.2.1 o (ix i) x, h.2.2.2)) : V l G EX M rm FIN k n pc lv (.int x :: .int i :: .ref (G.1 + o) :: st) h := by
  subst hq
  intro p e s m args below meth c C0 H locs ls hP hS hb hl
  have hin' := inb_in hin
  have hK := C0.2.2.2.2.2.2.2.2.1.1
  have ha : (Wl G h)[o]? = some (G.1 + o, .inl (G.2.2.1 9, SZ o, .inl (h.2.2.1 o))) := by rw [Wl_get hlt, ent_arr ho (by omega)]
  refine W.iast C0.1 C0.2.1 (hP.1 o _ ha) ((hK.2 0 _ rfl).1 (SZ o) (fun j => .int (h.2.2.1 o j))) (fun q => by cases q) (by show ¬ (i < 0 ∨ (arrV _ _ _).slots.size ≤ _); rw [arrV_size]; exact hin') rfl rfl hdg fun H1 e1 z oq => ?_
  have hat : va_at G.2.1 vwCl (G.1 + o, ent G (h.1, h.2.1, uI h.2.2.1 o (ix i) x, h.2.2.2) o) H1 := by
    rw [ent_arr ho (by omega)]
    show H1[G.1 + o]? = some (vp_cell _ _)
    rw [e1]
    show some ((vp_cell (G.2.2.1 9) (SZ o, .inl (h.2.2.1 o))).setSlot _ _) = some (vp_cell (G.2.2.1 9) (SZ o, .inl (uI h.2.2.1 o (ix i) x o)))
    rw [vp_cell_i, vp_cell_i, arrV_store]
    congr 2
    funext q
    by_cases hq : q = i.toNatClampNeg
    · subst hq
      simp [updV, uI]
    · simp [updV, uI, hq]
  exact kk p e s m args below meth c C0 H1 _ ls (hP.put hlt rfl (fun i _ hi => ent_uI hi) hat z oq) (hS.put z oq (Nat.le_add_right _ _)) hb hl
theorem V.zast {o : Nat} {i x : Int32} (ho : KD o = 10) (hlt : o < h.1) (hin : inb i (SZ o) = true) (hx : narrow FieldType.boolean (.int x) = .int x) (hdg : decode M.2.1 pc = .ok (.bastore, 1)) (hq : pc + 1 = q)
    (kk : V l G EX M rm FIN k n q lv st (h.1, h.2.1, uI h.2.2.1 o (ix i) x, h.2.2.2)) : V l G EX M rm FIN k n pc lv (.int x :: .int i :: .ref (G.1 + o) :: st) h := by
  subst hq
  intro p e s m args below meth c C0 H locs ls hP hS hb hl
  have hin' := inb_in hin
  have hK := C0.2.2.2.2.2.2.2.2.1.1
  have ha : (Wl G h)[o]? = some (G.1 + o, .inl (G.2.2.1 10, SZ o, .inl (h.2.2.1 o))) := by rw [Wl_get hlt, ent_arr ho (by omega)]
  refine W.zast C0.1 C0.2.1 (hP.1 o _ ha) ((hK.2 1 _ rfl).1 (SZ o) (fun j => .int (h.2.2.1 o j))) (fun q => by cases q) (by show ¬ (i < 0 ∨ (arrV _ _ _).slots.size ≤ _); rw [arrV_size]; exact hin') rfl rfl hdg fun H1 e1 z oq => ?_
  have hat : va_at G.2.1 vwCl (G.1 + o, ent G (h.1, h.2.1, uI h.2.2.1 o (ix i) x, h.2.2.2) o) H1 := by
    rw [ent_arr ho (by omega)]
    show H1[G.1 + o]? = some (vp_cell _ _)
    rw [e1]
    show some ((vp_cell (G.2.2.1 10) (SZ o, .inl (h.2.2.1 o))).setSlot _ _) = some (vp_cell (G.2.2.1 10) (SZ o, .inl (uI h.2.2.1 o (ix i) x o)))
    rw [vp_cell_i, vp_cell_i, arrV_store]
    congr 2
    funext q
    by_cases hq : q = i.toNatClampNeg
    · subst hq
      simp [updV, uI, hx]
    · simp [updV, uI, hq]
  exact kk p e s m args below meth c C0 H1 _ ls (hP.put hlt rfl (fun i _ hi => ent_uI hi) hat z oq) (hS.put z oq (Nat.le_add_right _ _)) hb hl
theorem V.aast {o ci x kx : Nat} {i : Int32} (ho : KD o = ci) (hc : (ci = 11 ∧ kx = 0) ∨ (ci = 12 ∧ kx = 1)) (hlt : o < h.1) (hin : inb i (SZ o) = true) (hkx : KD x = kx) (hxl : x < h.1) (hdg : decode M.2.1 pc = .ok (.aastore, 1)) (hq : pc + 1 = q)
    (kk : V l G EX M rm FIN k n q lv st (h.1, uP h.2.1 o (ix i) (some x), h.2.2.1, h.2.2.2)) : V l G EX M rm FIN k n pc lv (.ref (G.1 + x) :: .int i :: .ref (G.1 + o) :: st) h := by
  subst hq
  intro p e s m args below meth c C0 H locs ls hP hS hb hl
  have hin' := inb_in hin
  have hlt2 : i.toNatClampNeg < SZ o := Nat.not_le.mp fun q => hin' (Or.inr q)
  have h0 : ¬ i < 0 := fun q => hin' (Or.inl q)
  have hK := C0.2.2.2.2.2.2.2.2.1.1
  have ha : (Wl G h)[o]? = some (G.1 + o, .inl (G.2.2.1 ci, SZ o, .inr (.inr (.inr (.inr (fun j => (h.2.1 o j).map (fun q => G.1 + q))))))) := by rw [Wl_get hlt, ent_ref ho (by omega)]
  have hv : (Wl G h)[x]? = some (G.1 + x, .inr (kx, (List.range (NF kx)).map (fv G h x kx))) := by rw [Wl_get hxl, ent_obj hkx (by omega)]
  obtain ⟨r, t0, hr, ht⟩ : ∃ (r : vw_C) (t0 : Nat), vwCl[kx]? = some r ∧ (tysG G)[t0]? = some (G.2.2.1 ci, .object r.1) := by
    rcases hc with ⟨rfl, rfl⟩ | ⟨rfl, rfl⟩
    · exact ⟨_, 2, rfl, rfl⟩
    · exact ⟨_, 3, rfl, rfl⟩
  obtain ⟨r', hr', cellV, g1, g2, g3, -⟩ := hP.1 x _ hv
  have hcls := (hK.1 kx r hr).2
  obtain ⟨kA, comp, k1, k2, k3, -⟩ := (hK.2 t0 _ ht).2
  have hcomp : comp = G.2.1.1 kx := Option.some.inj (k3.symm.trans hcls.1)
  subst hcomp
  obtain ⟨kC, hkC, -⟩ := hcls.2
  refine W.aast C0.1 C0.2.1 (hP.1 o _ ha) (fun q h => by cases h) (fun h => by cases h) k1 k2 rfl hkC ⟨h0, by show _ < (arrV _ _ _).slots.size; rw [arrV_size]; exact hlt2⟩ g1 (fun q h => by rw [g3] at h; cases h) (by rw [g2]; exact hkC) (by rw [g2]; exact va_assign hcls) rfl rfl hdg fun H1 e1 z oq => ?_
  have hat : va_at G.2.1 vwCl (G.1 + o, ent G (h.1, uP h.2.1 o (ix i) (some x), h.2.2.1, h.2.2.2) o) H1 := by
    rw [ent_ref ho (by omega)]
    show H1[G.1 + o]? = some (vp_cell _ _)
    rw [e1]
    show some ((vp_cell (G.2.2.1 ci) (SZ o, .inr (.inr (.inr (.inr (fun j => (h.2.1 o j).map (fun q => G.1 + q))))))).setSlot _ _) = some (vp_cell (G.2.2.1 ci) (SZ o, .inr (.inr (.inr (.inr (fun j => (uP h.2.1 o (ix i) (some x) o j).map (fun q => G.1 + q)))))))
    rw [vp_cell_q, vp_cell_q, arrV_store]
    congr 2
    funext q
    by_cases hq : q = i.toNatClampNeg
    · subst hq
      simp [updV, uP, va_rf]
    · simp [updV, uP, hq]
  exact kk p e s m args below meth c C0 H1 _ ls (hP.put hlt rfl (fun i _ hi => ent_uP hi) hat z oq) (hS.put z oq (Nat.le_add_right _ _)) hb hl
end MEM
section CALL
variable {l : Launch} {G : GG} {EX : State → Prop} {M : MI} {rm : Room} {FIN : FT1} {mc ms : Nat} {k n pc q : Nat} {lv : List (Nat × Value)} {st : List Value} {h : FH}
theorem V.run {Qo' : Option Value → FH → Prop} {mc' ms' : Nat} {st0 rest : List Value} {aa : Array Value}
    (hrun : ∀ (p : Program) (e : Env) (s : State) (m : MethodId) (args : Array Value) (below : List Frame) (meth : Method) (c : Code), Cx G EX M p s m args meth c →
      ∀ (H : Heap) (locs : List Loc) (ls : Array Slot), HW G h H → va_S (AA G) s.heap H locs → G.1 ≤ s.heap.size → lv_has ls M.2.2.1 lv →
        va_Run p l e rm s m args below meth c H locs k n mc' ms' (F0 m pc ls st0) rest (QcG G Qo' aa) (AA G))
    (hq : pc + 3 = q) (kk : ∀ (v : Option Value) (h' : FH), Qo' v h' → V l G EX M rm FIN (k + mc') (n + ms') q lv (v.toList ++ rest) h') : V l G EX M rm FIN k n pc lv st0 h := by
  subst hq
  intro p e s m args below meth c C0 H locs ls hP hS hb hl
  intro T hT X
  obtain ⟨v, st₀, t, T', L, h0, X', hL, e1, e2, ⟨⟨v', h', hv, hqo, hHW⟩, hz, hkp⟩, stp⟩ := hrun p e s m args below meth c C0 H locs ls hP hS hb hl T hT X
  cases hv
  rw [h0] at hz hkp
  obtain ⟨t2, a1, b1⟩ := kk v h' hqo p e s m args below meth c C0 T'.heap (locs ++ L) ls (by rw [e1]; exact hHW) ⟨Nat.le_trans hS.1 (by rw [e1]; exact hz), fun q h1 h2 => by rw [e1, hkp q (Nat.lt_of_lt_of_le h1 hS.1) h2]; exact hS.2.1 q h1 h2, fun q hq => by
      rcases List.mem_append.mp hq with h9 | h9
      · exact hS.2.2 q h9
      · exact hL q h9⟩ hb hl T' rfl X'
  exact ⟨t2, stp t2 a1, b1⟩
/-- the callee: its words, its arguments -/
def MIc (M : MI) (n : Nat) : Prop := MIok M ∧ Cond.initialized M.1.cls ∈ WS ∧ (M.1.cls ≠ "java/lang/invoke/MethodHandle" ∧ M.1.cls ≠ "java/lang/invoke/VarHandle" ∧ (parseMethodDescriptor M.1.desc).map (fun d => d.parameters.length) = some n)
theorem PcG_blind {av : List Value} (hE : EXok G EX) : FrameBlind (PcG G av h EX) := fun a U g mk q => by
  obtain ⟨q0, q1, q2, q3⟩ := q
  exact ⟨q0, q1, q2.call, hE.1 U g mk a q3⟩
theorem PcG_pre {p : Program} {s : State} {m : MethodId} {args : Array Value} {meth : Method} {c : Code} {H : Heap} {locs : List Loc} {av : List Value} (hE : EXok G EX) (C0 : Cx G EX M p s m args meth c) (hP : HW G h H) (hS : va_S (AA G) s.heap H locs) : ∀ U : State, U.heap = H → s.WarmedH U.vm → PcG G av h EX av.toArray U := fun U hU hW =>
  ⟨rfl, by rw [hU]; exact hP, C0.2.2.2.2.2.2.2.2.1.warm hW, hE.2 s U hW (by rw [hU]; exact ⟨hS.1, hS.2.1⟩) C0.2.2.2.2.2.2.2.2.2⟩
theorem V.callS {Mc : MI} {fr lo fr' lo' mc' ms' idx na : Nat} {Qo' : Option Value → FH → Prop} {As rest : List Value} (hE : EXok G EX) (hMc : MIc Mc na) (hna : As.length = na)
    (hM : Met l Mc.1 (Cond.code Mc.1 Mc.2.1 Mc.2.2.1 Mc.2.2.2 :: WS) ⟨fr', mc', ms', lo'⟩ (PcG G As h EX) (QcG G Qo') mc' ms' (AA G)) (hml : Cond.methodLink M.1.cls idx Mc.1 ∈ WS) (hst : Cond.static Mc.1 ∈ WS)
    (hr : fr' + 1 ≤ fr ∧ 8 + (Mc.2.2.1 + 11) + lo' ≤ lo) (hcat : (rest.map fun v => v.category).sum ≤ 8) (hf : k + mc' ≤ mc ∧ n + ms' ≤ ms) (hdg : decode M.2.1 pc = .ok (.invokestatic idx, 3)) (hstack : st = As.reverse ++ rest) (hq : pc + 3 = q)
    (kk : ∀ (v : Option Value) (h' : FH), Qo' v h' → V l G EX M ⟨fr, mc, ms, lo⟩ FIN (k + mc') (n + ms') q lv (v.toList ++ rest) h') : V l G EX M ⟨fr, mc, ms, lo⟩ FIN k n pc lv st h := by
  refine V.run (aa := As.toArray) (rest := rest) (fun p e s m args below meth c C0 H locs ls hP hS hb hl => ?_) hq kk
  have hts := C0.2.2.2.2.2.2.2.1
  exact va_runS ⟨C0.1, C0.2.1, C0.2.2.1, C0.2.2.2.2.2.1, hts⟩ hM ⟨callB_of na hts (WS_code hMc.1.1) rfl rfl rfl (hts _ hMc.2.1) (hts _ hml) hMc.2.2 hr, hts _ hst⟩ ⟨PcG_blind hE, PcG_pre hE C0 hP hS⟩ rfl hna hl.1 hstack (lv_room hcat) hdg hf
theorem V.callSN {Mc : MI} {fr lo fr' lo' mc' ms' idx na : Nat} {host : String} {Qo' : Option Value → FH → Prop} {As rest : List Value} (hE : EXok G EX) (hMc : MIc Mc na) (hna : As.length = na)
    (hM : Met l Mc.1 (Cond.code Mc.1 Mc.2.1 Mc.2.2.1 Mc.2.2.2 :: WS) ⟨fr', mc', ms', lo'⟩ (PcG G As h EX) (QcG G Qo') mc' ms' (AA G)) (hml : Cond.methodLinkNest M.1.cls idx Mc.1 host ∈ lw_tbl) (hst : Cond.static Mc.1 ∈ WS)
    (hr : fr' + 1 ≤ fr ∧ 8 + (Mc.2.2.1 + 11) + lo' ≤ lo) (hcat : (rest.map fun v => v.category).sum ≤ 8) (hf : k + mc' ≤ mc ∧ n + ms' ≤ ms) (hdg : decode M.2.1 pc = .ok (.invokestatic idx, 3)) (hstack : st = As.reverse ++ rest) (hq : pc + 3 = q)
    (kk : ∀ (v : Option Value) (h' : FH), Qo' v h' → V l G EX M ⟨fr, mc, ms, lo⟩ FIN (k + mc') (n + ms') q lv (v.toList ++ rest) h') : V l G EX M ⟨fr, mc, ms, lo⟩ FIN k n pc lv st h := by
  refine V.run (aa := As.toArray) (rest := rest) (fun p e s m args below meth c C0 H locs ls hP hS hb hl => ?_) hq kk
  have hts := C0.2.2.2.2.2.2.2.1
  exact va_runSN ⟨C0.1, C0.2.1, C0.2.2.1, C0.2.2.2.2.2.1, hts⟩ hM ⟨va_cnB na hts (WS_code hMc.1.1) rfl rfl rfl (C0.2.2.2.2.2.2.2.2.1.2.1 _ _ _ _ hml) (hts _ hMc.2.1) hMc.2.2 hr, hts _ hst, trivial⟩ ⟨PcG_blind hE, PcG_pre hE C0 hP hS⟩ rfl hna hl.1 hstack (lv_room hcat) hdg hf
/-- the receiver's class -/
theorem Cx_recv {p : Program} {s : State} {m : MethodId} {args : Array Value} {meth : Method} {c : Code} {H : Heap} {o ci : Nat} {r : vw_C} (C0 : Cx G EX M p s m args meth c) (hP : HW G h H) (ho : KD o = ci) (hci : ci < 9) (hlt : o < h.1) (hr : vwCl[ci]? = some r) : ∃ cell : Cell, H[G.1 + o]? = some cell ∧ cell.vm.isStatics = false ∧ s.vm.findClass r.1 = some cell.cls :=
  va_recv C0.2.2.2.2.2.2.2.2.1.1 hP.1 hr (q0 := o) (fs := (List.range (NF ci)).map (fv G h o ci)) (by rw [Wl_get hlt, ent_obj ho hci])
theorem V.callV {Mc : MI} {fr lo fr' lo' mc' ms' idx na : Nat} {Qo' : Option Value → FH → Prop} {As rest : List Value} {o ci : Nat} {r : vw_C} (hE : EXok G EX) (hMc : MIc Mc na) (hna : As.length = na) (ho : KD o = ci) (hci : ci < 9) (hlt : o < h.1) (hrc : vwCl[ci]? = some r) (hrn : Mc.1.cls = r.1)
    (hM : Met l Mc.1 (Cond.code Mc.1 Mc.2.1 Mc.2.2.1 Mc.2.2.2 :: WS) ⟨fr', mc', ms', lo'⟩ (PcG G (.ref (G.1 + o) :: As) h EX) (QcG G Qo') mc' ms' (AA G)) (hml : Cond.methodLink M.1.cls idx Mc.1 ∈ WS) (hin : Cond.instanceMethod Mc.1 ∈ WS) (hse : Cond.selects Mc.1.cls Mc.1 Mc.1 ∈ WS)
    (hr : fr' + 1 ≤ fr ∧ 8 + (Mc.2.2.1 + 11) + lo' ≤ lo) (hcat : (rest.map fun v => v.category).sum ≤ 8) (hf : k + mc' ≤ mc ∧ n + ms' ≤ ms) (hdg : decode M.2.1 pc = .ok (.invokevirtual idx, 3)) (hstack : st = As.reverse ++ .ref (G.1 + o) :: rest) (hq : pc + 3 = q)
    (kk : ∀ (v : Option Value) (h' : FH), Qo' v h' → V l G EX M ⟨fr, mc, ms, lo⟩ FIN (k + mc') (n + ms') q lv (v.toList ++ rest) h') : V l G EX M ⟨fr, mc, ms, lo⟩ FIN k n pc lv st h := by
  refine V.run (aa := (Value.ref (G.1 + o) :: As).toArray) (rest := rest) (fun p e s m args below meth c C0 H locs ls hP hS hb hl => ?_) hq kk
  have hts := C0.2.2.2.2.2.2.2.1
  have hrecv := Cx_recv C0 hP ho hci hlt hrc
  rw [← hrn] at hrecv
  exact va_runV (C := Mc.1.cls) (As := As) (rest := rest) (b := G.1 + o) ⟨C0.1, C0.2.1, C0.2.2.1, C0.2.2.2.2.2.1, hts⟩ hM ⟨callB_of na hts (WS_code hMc.1.1) rfl rfl rfl (hts _ hMc.2.1) (hts _ hml) hMc.2.2 hr, hts _ hin, hts _ hse⟩ ⟨PcG_blind hE, hrecv, PcG_pre hE C0 hP hS⟩ rfl hna hl.1 hstack (lv_room hcat) hdg hf
theorem V.callI {Mc : MI} {fr lo fr' lo' mc' ms' idx na : Nat} {Qo' : Option Value → FH → Prop} {As rest : List Value} {o : Nat} (hE : EXok G EX) (hMc : MIc Mc na) (hna : As.length = na) (hy1 : Mc.1.name = "<init>") (hret : Mc.2.2.2 = none)
    (hM : Met l Mc.1 (Cond.code Mc.1 Mc.2.1 Mc.2.2.1 Mc.2.2.2 :: WS) ⟨fr', mc', ms', lo'⟩ (PcG G (.ref (G.1 + o) :: As) h EX) (QcG G Qo') mc' ms' (AA G)) (hml : Cond.methodLink M.1.cls idx Mc.1 ∈ WS) (hin : Cond.instanceMethod Mc.1 ∈ WS)
    (hr : fr' + 1 ≤ fr ∧ 8 + (Mc.2.2.1 + 11) + lo' ≤ lo) (hcat : (rest.map fun v => v.category).sum ≤ 8) (hf : k + mc' ≤ mc ∧ n + ms' ≤ ms) (hdg : decode M.2.1 pc = .ok (.invokespecial idx, 3)) (hstack : st = As.reverse ++ .ref (G.1 + o) :: rest) (hq : pc + 3 = q)
    (kk : ∀ (v : Option Value) (h' : FH), Qo' v h' → V l G EX M ⟨fr, mc, ms, lo⟩ FIN (k + mc') (n + ms') q lv (v.toList ++ rest) h') : V l G EX M ⟨fr, mc, ms, lo⟩ FIN k n pc lv st h := by
  refine V.run (aa := (Value.ref (G.1 + o) :: As).toArray) (rest := rest) (fun p e s m args below meth c C0 H locs ls hP hS hb hl => ?_) hq kk
  have hts := C0.2.2.2.2.2.2.2.1
  rw [hret] at hM
  have hcode := WS_code hMc.1.1
  rw [hret] at hcode
  exact va_runI (As := As) (rest := rest) (b := G.1 + o) ⟨C0.1, C0.2.1, C0.2.2.1, C0.2.2.2.2.2.1, hts⟩ hM ⟨callB_of na hts hcode rfl rfl rfl (hts _ hMc.2.1) (hts _ hml) hMc.2.2 hr, hy1, hts _ hin⟩ ⟨PcG_blind hE, PcG_pre hE C0 hP hS⟩ rfl hna hl.1 hstack (lv_room hcat) hdg hf
theorem V.callIN {Mc : MI} {fr lo fr' lo' mc' ms' idx na : Nat} {host : String} {Qo' : Option Value → FH → Prop} {As rest : List Value} {o : Nat} (hE : EXok G EX) (hMc : MIc Mc na) (hna : As.length = na) (hy1 : Mc.1.name = "<init>") (hret : Mc.2.2.2 = none)
    (hM : Met l Mc.1 (Cond.code Mc.1 Mc.2.1 Mc.2.2.1 Mc.2.2.2 :: WS) ⟨fr', mc', ms', lo'⟩ (PcG G (.ref (G.1 + o) :: As) h EX) (QcG G Qo') mc' ms' (AA G)) (hml : Cond.methodLinkNest M.1.cls idx Mc.1 host ∈ lw_tbl) (hin : Cond.instanceMethod Mc.1 ∈ WS)
    (hr : fr' + 1 ≤ fr ∧ 8 + (Mc.2.2.1 + 11) + lo' ≤ lo) (hcat : (rest.map fun v => v.category).sum ≤ 8) (hf : k + mc' ≤ mc ∧ n + ms' ≤ ms) (hdg : decode M.2.1 pc = .ok (.invokespecial idx, 3)) (hstack : st = As.reverse ++ .ref (G.1 + o) :: rest) (hq : pc + 3 = q)
    (kk : ∀ (v : Option Value) (h' : FH), Qo' v h' → V l G EX M ⟨fr, mc, ms, lo⟩ FIN (k + mc') (n + ms') q lv (v.toList ++ rest) h') : V l G EX M ⟨fr, mc, ms, lo⟩ FIN k n pc lv st h := by
  refine V.run (aa := (Value.ref (G.1 + o) :: As).toArray) (rest := rest) (fun p e s m args below meth c C0 H locs ls hP hS hb hl => ?_) hq kk
  have hts := C0.2.2.2.2.2.2.2.1
  rw [hret] at hM
  have hcode := WS_code hMc.1.1
  rw [hret] at hcode
  exact va_runIN (As := As) (rest := rest) (b := G.1 + o) ⟨C0.1, C0.2.1, C0.2.2.1, C0.2.2.2.2.2.1, hts⟩ hM ⟨va_cnB na hts hcode rfl rfl rfl (C0.2.2.2.2.2.2.2.2.1.2.1 _ _ _ _ hml) (hts _ hMc.2.1) hMc.2.2 hr, hy1, hts _ hin⟩ ⟨PcG_blind hE, PcG_pre hE C0 hP hS⟩ rfl hna hl.1 hstack (lv_room hcat) hdg hf
/-- Object's own constructor -/
theorem V.objInit {idx o : Nat} {fr lo : Nat} {rest : List Value} (hml : Cond.methodLink M.1.cls idx objectInit ∈ WS) (hin : Cond.instanceMethod objectInit ∈ WS) (hco : Cond.code objectInit ⟨#[0xb1]⟩ 1 none ∈ WS) (hfr : 1 ≤ fr) (hlo : (rest.map fun v => v.category).sum + 12 ≤ lo)
    (hdg : decode M.2.1 pc = .ok (.invokespecial idx, 3)) (hq : pc + 3 = q) (kk : V l G EX M ⟨fr, mc, ms, lo⟩ FIN k n q lv rest h) : V l G EX M ⟨fr, mc, ms, lo⟩ FIN k n pc lv (.ref (G.1 + o) :: rest) h := by
  subst hq
  intro p e s m args below meth c C0 H locs ls hP hS hb hl
  have hts := C0.2.2.2.2.2.2.2.1
  exact W.objInit C0.1 C0.2.1 C0.2.2.2.2.2.1 (hts _ hml) (hts _ hin) (hts _ hco) rfl (by rw [C0.2.2.1]; exact hl.1) rfl hdg hfr (by show 2 * JFrame.monitorRoom (F0 m pc ls (.ref (G.1 + o) :: rest)) + (rest.map fun v => v.category).sum + 12 ≤ lo; have h0 : JFrame.monitorRoom (F0 m pc ls (.ref (G.1 + o) :: rest)) = 0 := rfl; rw [h0]; omega) (kk p e s m args below meth c C0 H locs ls hP hS hb hl)
end CALL
/-! new cells -/
/-- what isn't made yet is zero -/
def Fre (h : FH) : Prop := ∀ o k, h.1 ≤ o → h.2.1 o k = none ∧ h.2.2.1 o k = 0 ∧ h.2.2.2 o k = 0
section NEW
variable {l : Launch} {G : GG} {EX : State → Prop} {M : MI} {rm : Room} {FIN : FT1} {k n pc q : Nat} {lv : List (Nat × Value)} {st : List Value} {h : FH}
theorem HW.new {H H1 : Heap} (hP : HW G h H) (hat : va_at G.2.1 vwCl (G.1 + h.1, ent G (h.1 + 1, h.2) h.1) H1) (hz : H1.size = H.size + 1) (oq : ∀ q : Nat, q < H.size → H1[q]? = H[q]?) : HW G (h.1 + 1, h.2) H1 := by
  refine ⟨?_, by rw [hz, hP.2]; rfl⟩
  rw [← Wl_push (G := G) (h := h) (h' := (h.1 + 1, h.2)) rfl (fun j _ => rfl)]
  refine (hP.1.kept (fun k x hx => oq x.1 ((hP.1 k x hx).lt))).app (fun k x hx => ?_)
  have hz : k < 1 := (List.getElem?_eq_some_iff.mp hx).1
  rw [show k = 0 by omega] at hx
  cases hx
  exact hat
theorem va_S.new {H0 H H1 : Heap} {locs : List Loc} (hS : va_S (AA G) H0 H locs) (hz : H1.size = H.size + 1) (oq : ∀ q : Nat, q < H.size → H1[q]? = H[q]?) : va_S (AA G) H0 H1 locs := ⟨Nat.le_trans hS.1 (by omega), fun x h1 h2 => (oq x (Nat.lt_of_lt_of_le h1 hS.1)).trans (hS.2.1 x h1 h2), hS.2.2⟩
theorem V.newc {idx ci : Nat} {C : String} {T : u_T} {N : Nat} {ty : Nat → FieldType} (hF : Fre h) (hcl : CL ci C T N ty) (hN : N = NF ci) (hci : ci < 9) (hk : KD h.1 = ci) (hd : ∀ j, j < N → defaultValue (ty j) = if FT ci j = 0 then .int 0 else if FT ci j = 1 then .long 0 else .null)
    (hlk : Cond.classLink M.1.cls idx C ∈ WS) (hin : Cond.instantiable C N ∈ WS) (hini : Cond.initialized C ∈ WS) (hkc : k + 1 ≤ rm.cells) (hks : n + N ≤ rm.slots) (hdg : decode M.2.1 pc = .ok (.new idx, 3)) (hq : pc + 3 = q)
    (kk : V l G EX M rm FIN (k + 1) (n + N) q lv (.ref (G.1 + h.1) :: st) (h.1 + 1, h.2)) : V l G EX M rm FIN k n pc lv st h := by
  subst hq
  intro p e s m args below meth c C0 H locs ls hP hS hb hl
  obtain ⟨hc, hin1, hty, hnm, hT1⟩ := hcl
  subst hN
  have hts := C0.2.2.2.2.2.2.2.1
  have hown := C0.2.2.2.2.2.1
  have hK := C0.2.2.2.2.2.2.2.2.1.1
  have hKn := hK.1 ci _ hc
  refine W.newcK C0.1 C0.2.1 hown (hts _ hlk) (hts _ hin) (hts _ hini) rfl hdg hkc hks hKn.2.1 rfl fun H1 kC hkC e1 z1 o1 => ?_
  have hsz : H.size = G.1 + h.1 := hP.2
  have hat : va_at G.2.1 vwCl (G.1 + h.1, ent G (h.1 + 1, h.2) h.1) H1 := by
    rw [ent_obj hk hci]
    refine ⟨_, hc, ?_⟩
    rw [← hsz]
    refine (u_born ty hts hin1 hKn hkC e1 hty).to (fun j hj => ?_)
    have hv : vp_V ((List.range (NF ci)).map (fv G (h.1 + 1, h.2) h.1 ci)) j = fv G (h.1 + 1, h.2) h.1 ci j := by
      unfold vp_V
      rw [List.getD_eq_getElem?_getD, rg_get hj]
      rfl
    rw [hv, hd j hj]
    obtain ⟨f1, f2, f3⟩ := hF h.1 j (Nat.le_refl _)
    unfold fv
    simp only [f1, f2, f3]
    rfl
  have kk' := kk p e s m args below meth c C0 H1 locs ls (hP.new hat z1 o1) (va_S.new hS z1 o1) hb hl
  rw [← hsz] at kk'
  exact kk'
theorem V.newa {at1 : ArrayType} {ci : Nat} {ty : FieldType} {x : Int32} {N : Nat} (hF : Fre h) (hci : (ci = 9 ∧ ty = .int) ∨ (ci = 10 ∧ ty = .boolean)) (hty : newarray.typeOf at1 = ty) (hk : KD h.1 = ci) (hsz : SZ h.1 = N) (hx : ¬ x < 0) (hN : x.toNatClampNeg = N) (hNb : N ≤ 1000)
    (harr : Cond.arrayClass ty ∈ WS) (hkc : k + 1 ≤ rm.cells) (hks : n + N ≤ rm.slots) (hdg : decode M.2.1 pc = .ok (.newarray at1, 2)) (hq : pc + 2 = q)
    (kk : V l G EX M rm FIN (k + 1) (n + N) q lv (.ref (G.1 + h.1) :: st) (h.1 + 1, h.2)) : V l G EX M rm FIN k n pc lv (.int x :: st) h := by
  subst hq
  subst hty
  intro p e s m args below meth c C0 H locs ls hP hS hb hl
  have hts := C0.2.2.2.2.2.2.2.1
  have hK := C0.2.2.2.2.2.2.2.2.1.1
  have hszH : H.size = G.1 + h.1 := hP.2
  have hcb : componentBytes (newarray.typeOf at1) ≤ 4 := by
    rcases hci with ⟨_, h2⟩ | ⟨_, h2⟩ <;> rw [h2] <;> decide
  have hbytes : N * componentBytes (newarray.typeOf at1) ≤ 536870912 := Nat.le_trans (Nat.mul_le_mul hNb hcb) (by decide)
  refine va_newaK C0.1 C0.2.1 (hts _ harr) rfl hdg rfl hx hN hbytes hkc hks rfl fun H1 cA e1 z1 o1 hAr hNm => ?_
  have hat : va_at G.2.1 vwCl (G.1 + h.1, ent G (h.1 + 1, h.2) h.1) H1 := by
    rw [ent_arr hk (by omega), ← hszH]
    show H1[H.size]? = some (vp_cell _ _)
    rw [e1, vp_cell_i, hsz]
    have hcA : cA = G.2.2.1 ci := by
      rcases hci with ⟨h1, h2⟩ | ⟨h1, h2⟩
      · have hra := (hK.2 0 _ rfl).2
        rw [h2] at hNm
        rw [h1]
        exact Option.some.inj (hNm.symm.trans hra)
      · have hra := (hK.2 1 _ rfl).2
        rw [h2] at hNm
        rw [h1]
        exact Option.some.inj (hNm.symm.trans hra)
    have hz : ∀ j, (defaultValue (newarray.typeOf at1)) = (Value.int (h.2.2.1 h.1 j)) := by
      intro j
      rw [(hF h.1 j (Nat.le_refl _)).2.1]
      rcases hci with ⟨_, h2⟩ | ⟨_, h2⟩ <;> rw [h2] <;> rfl
    rw [hcA]
    congr 2
    funext j
    exact hz j
  have kk' := kk p e s m args below meth c C0 H1 locs ls (hP.new hat (by omega) (fun q hq => o1 q (by omega))) (va_S.new hS (by omega) (fun q hq => o1 q (by omega))) hb hl
  rw [← hszH] at kk'
  exact kk'
theorem V.newq {idx ci : Nat} {C : String} {x : Int32} {N : Nat} (hF : Fre h) (hci : (ci = 11 ∧ C = RX0) ∨ (ci = 12 ∧ C = RX2)) (hk : KD h.1 = ci) (hsz : SZ h.1 = N) (hx : ¬ x < 0) (hN : x.toNatClampNeg = N) (hNb : N ≤ 1000)
    (hlk : Cond.classLink M.1.cls idx C ∈ WS) (hkc : k + 1 ≤ rm.cells) (hks : n + N ≤ rm.slots) (hdg : decode M.2.1 pc = .ok (.anewarray idx, 3)) (hq : pc + 3 = q)
    (kk : V l G EX M rm FIN (k + 1) (n + N) q lv (.ref (G.1 + h.1) :: st) (h.1 + 1, h.2)) : V l G EX M rm FIN k n pc lv (.int x :: st) h := by
  subst hq
  subst hN
  intro p e s m args below meth c C0 H locs ls hP hS hb hl
  have hts := C0.2.2.2.2.2.2.2.1
  have hK := C0.2.2.2.2.2.2.2.2.1.1
  have hNW := C0.2.2.2.2.2.2.2.2.1.2
  have hover : va_AO C s := by
    rcases hci with ⟨_, h2⟩ | ⟨_, h2⟩
    · rw [h2]; exact hNW.2.1
    · rw [h2]; exact hNW.2.2
  have hszH : H.size = G.1 + h.1 := hP.2
  refine W.anew C0.1 C0.2.1 C0.2.2.2.2.2.1 (hts _ hlk) (va_AO.use hover) rfl hdg rfl hx (by omega) hkc hks fun cA kA comp f1 f2 f3 f4 => ?_
  generalize hH1 : H.push ({ cls := cA, slots := Array.replicate x.toNatClampNeg .null, vm := .none } : Cell) = H1
  have z1 : H1.size = H.size + 1 := by rw [← hH1, Array.size_push]
  have e1 : H1[H.size]? = some (arrV cA x.toNatClampNeg (fun _ => .null)) := by rw [← hH1, Array.getElem?_push_size, ← arrV_new]
  have o1 : ∀ q : Nat, q < H.size → H1[q]? = H[q]? := fun q hq => by rw [← hH1, Array.getElem?_push, if_neg (Nat.ne_of_lt hq)]
  have hat : va_at G.2.1 vwCl (G.1 + h.1, ent G (h.1 + 1, h.2) h.1) H1 := by
    rw [ent_ref hk (by omega), ← hszH]
    show H1[H.size]? = some (vp_cell _ _)
    rw [e1, vp_cell_q, hsz]
    have hcA : cA = G.2.2.1 ci := by
      rcases hci with ⟨h1, h2⟩ | ⟨h1, h2⟩
      · obtain ⟨_, _, _, _, _, hra⟩ := (hK.2 2 _ rfl).2
        rw [h2] at f1
        rw [h1]
        exact Option.some.inj (f1.symm.trans hra)
      · obtain ⟨_, _, _, _, _, hra⟩ := (hK.2 3 _ rfl).2
        rw [h2] at f1
        rw [h1]
        exact Option.some.inj (f1.symm.trans hra)
    rw [hcA]
    congr 2
    funext j
    show Value.null = va_rf ((h.2.1 h.1 j).map _)
    rw [(hF h.1 j (Nat.le_refl _)).1]
    rfl
  have kk' := kk p e s m args below meth c C0 H1 locs ls (hP.new hat z1 o1) (va_S.new hS z1 o1) hb hl
  rw [← hszH] at kk'
  exact kk'
end NEW
