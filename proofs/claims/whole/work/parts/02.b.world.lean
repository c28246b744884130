/-! THE WORLD: all cells from the base on are the objects that our code has made so far, by their numbers (address = base + number).
A state of it: how many there are; what their reference slots hold (numbers); their int slots; their long slots. -/
abbrev FH : Type := Nat × (Nat → Nat → Option Nat) × (Nat → Nat → Int32) × (Nat → Nat → Int64)
/-- base; the tables' numbers of classes and fields; array classes by kind; the addresses of the text constants -/
abbrev GG : Type := Nat × va_G × (Nat → ClassId) × (Nat → Nat)
def fv (G : GG) (h : FH) (o ci k : Nat) : Value := if FT ci k = 0 then .int (h.2.2.1 o k) else if FT ci k = 1 then .long (h.2.2.2 o k) else va_rf ((h.2.1 o k).map (fun q => G.1 + q))
def ent (G : GG) (h : FH) (o : Nat) : va_E :=
  if KD o < 9 then .inr (KD o, (List.range (NF (KD o))).map (fv G h o (KD o)))
  else if KD o < 11 then .inl (G.2.2.1 (KD o), SZ o, .inl (h.2.2.1 o))
  else .inl (G.2.2.1 (KD o), SZ o, .inr (.inr (.inr (.inr (fun j => (h.2.1 o j).map (fun q => G.1 + q))))))
def Wl (G : GG) (h : FH) : va_W := (List.range h.1).map (fun o => (G.1 + o, ent G h o))
def tysG (G : GG) : List (ClassId × FieldType) := [(G.2.2.1 9, .int), (G.2.2.1 10, .boolean), (G.2.2.1 11, .object RX0), (G.2.2.1 12, .object RX2)]
def AA (G : GG) : Nat → Prop := fun q => G.1 ≤ q
theorem Wl_get {G : GG} {h : FH} {o : Nat} (ho : o < h.1) : (Wl G h)[o]? = some (G.1 + o, ent G h o) := by simp [Wl, ho]
theorem Wl_len (G : GG) (h : FH) : (Wl G h).length = h.1 := by simp [Wl]
theorem Wl_set {G : GG} {h h' : FH} {o : Nat} (hn : h'.1 = h.1) (he : ∀ j, j < h.1 → j ≠ o → ent G h' j = ent G h j) : (Wl G h).set o (G.1 + o, ent G h' o) = Wl G h' := by
  refine List.ext_getElem? fun i => ?_
  by_cases hi : i < h.1
  · rw [Wl_get (h := h') (by rw [hn]; exact hi)]
    by_cases ho : i = o
    · subst ho
      rw [List.getElem?_set_self (by rw [Wl_len]; exact hi)]
    · rw [List.getElem?_set_ne (Ne.symm ho), Wl_get hi, he i hi ho]
  · rw [List.getElem?_eq_none (by rw [List.length_set, Wl_len]; omega), List.getElem?_eq_none (by rw [Wl_len, hn]; omega)]
theorem Wl_push {G : GG} {h h' : FH} (hn : h'.1 = h.1 + 1) (he : ∀ j, j < h.1 → ent G h' j = ent G h j) : Wl G h ++ [(G.1 + h.1, ent G h' h.1)] = Wl G h' := by
  unfold Wl
  rw [hn, List.range_succ, List.map_append]
  congr 1
  refine List.map_congr_left fun o ho => ?_
  rw [he o (List.mem_range.mp ho)]
theorem Wl_D {G : GG} {h : FH} : va_D (AA G) (Wl G h) := by
  have key : ∀ (i : Nat) (p : Nat × va_E), (Wl G h)[i]? = some p → p.1 = G.1 + i := by
    intro i p hi
    have hl : i < h.1 := by rw [← Wl_len G h]; exact (List.getElem?_eq_some_iff.mp hi).1
    rw [Wl_get hl] at hi
    cases hi
    rfl
  refine ⟨fun i j p q hi hj hpq => ?_, fun k q hk => ?_⟩
  · have h1 := key i p hi
    have h2 := key j q hj
    omega
  · show G.1 ≤ q.1
    rw [key k q hk]
    exact Nat.le_add_right _ _
/-- the words that come with the world: those that aren't among the good ones -/
def NWok (U : State) : Prop := (∀ (a : String) (i : Nat) (x : MethodName) (h : String), Cond.methodLinkNest a i x h ∈ lw_tbl → va_Nw (.methodLinkNest a i x h) U) ∧ va_AO RX0 U ∧ va_AO RX2 U
def KX (G : GG) (U : State) : Prop := va_K G.2.1 vwCl (tysG G) U ∧ NWok U
theorem KX.warm {G : GG} {s U : State} (hW : s.WarmedH U.vm) (h : KX G s) : KX G U := ⟨h.1.moved hW.alike, fun a i x q hm => (h.2.1 a i x q hm).warmM hW, h.2.2.1.moved hW.alike, h.2.2.2.moved hW.alike⟩
theorem KX.call {G : GG} {U : State} {g : JFrame} {mk : MethodId} {a : Array Value} (h : KX G U) : KX G (U.calling g mk a) :=
  ⟨va_K.moved (u := U) (U := U.calling g mk a) (Vm.Alike.refl U.vm) h.1, fun a' i x q hm => va_Nw.same rfl (by rfl) (h.2.1 a' i x q hm), va_AO.moved (u := U) (U := U.calling g mk a) (Vm.Alike.refl U.vm) h.2.2.1, va_AO.moved (u := U) (U := U.calling g mk a) (Vm.Alike.refl U.vm) h.2.2.2⟩
/-- the heap holds the world -/
def HW (G : GG) (h : FH) (H : Heap) : Prop := va_P G.2.1 vwCl (Wl G h) H ∧ H.size = G.1 + h.1
/-- a method's start and its end -/
def PcG (G : GG) (av : List Value) (h : FH) (EX : State → Prop) : Array Value → State → Prop := va_Pc av (fun U => HW G h U.heap ∧ KX G U ∧ EX U)
def QcG (G : GG) (Qo : Option Value → FH → Prop) : Array Value → State → Outcome → State → Prop := fun _ st o t => (∃ v h', o = .returned v ∧ Qo v h' ∧ HW G h' t.heap) ∧ va_F (AA G) st t
/-- what a context asks of the machine's state at a call, and of its moves: what lies below the base stays -/
def EXok (G : GG) (EX : State → Prop) : Prop := (∀ (U : State) (g : JFrame) (mk : MethodId) (a : Array Value), EX U → EX (U.calling g mk a)) ∧ ∀ s U : State, s.WarmedH U.vm → (s.heap.size ≤ U.heap.size ∧ ∀ q : Nat, q < s.heap.size → ¬ AA G q → U.heap[q]? = s.heap[q]?) → EX s → EX U
/-- a method: its name, bytes, locals, type -/
abbrev MI : Type := MethodName × ByteArray × Nat × Option FieldType
def MIok (M : MI) : Prop := Cond.code M.1 M.2.1 M.2.2.1 M.2.2.2 ∈ WS ∧ plainName M.1.cls = true
def Cx (G : GG) (EX : State → Prop) (M : MI) (p : Program) (s : State) (m : MethodId) (args : Array Value) (meth : Method) (c : Code) : Prop :=
  p.tables.exec = Jvm.exec ∧ c.code = M.2.1 ∧ c.maxLocals = M.2.2.1 ∧ meth.sig.returnType = M.2.2.2 ∧ meth.locks = false ∧ s.vm.findClass M.1.cls = some m.cls ∧ (M.1.name = "<init>" → meth.name = "<init>") ∧ (∀ w ∈ WS, w.before args s = true) ∧ KX G s ∧ EX s
/-- the end of a method that has a contract -/
abbrev FT1 : Type := Array Value → State → List Frame → State → Prop
def FQ (G : GG) (Qo : Option Value → FH → Prop) (mc ms : Nat) : FT1 := fun args s below => MQ below (QcG G Qo) args s mc ms (AA G)
/-- FROM HERE the method comes to its end with what FIN says. rm: its room; k, n: the cells and slots that it has made -/
def V (l : Launch) (G : GG) (EX : State → Prop) (M : MI) (rm : Room) (FIN : FT1) (k n pc : Nat) (lv : List (Nat × Value)) (st : List Value) (h : FH) : Prop :=
  ∀ (p : Program) (e : Env) (s : State) (m : MethodId) (args : Array Value) (below : List Frame) (meth : Method) (c : Code), Cx G EX M p s m args meth c →
    ∀ (H : Heap) (locs : List Loc) (ls : Array Slot), HW G h H → va_S (AA G) s.heap H locs → G.1 ≤ s.heap.size → lv_has ls M.2.2.1 lv →
      W p l e rm s m args below meth c H locs k n (FIN args s below) (F0 m pc ls st)
/-- a method's contract, by its walk from the entry -/
theorem V.met {l : Launch} {G : GG} {EX : State → Prop} {M : MI} {fr lo mc ms : Nat} {Qo : Option Value → FH → Prop} {av : List Value} {h : FH} (hM : MIok M) (hlen : (lg_sl av).length ≤ M.2.2.1)
    (hV : V l G EX M ⟨fr, mc, ms, lo⟩ (FQ G Qo mc ms) 0 0 0 (lv_args 0 av) [] h) : Met l M.1 (Cond.code M.1 M.2.1 M.2.2.1 M.2.2.2 :: WS) ⟨fr, mc, ms, lo⟩ (PcG G av h EX) (QcG G Qo) mc ms (AA G) := by
  refine Met.ofW (cc := M.2.1) (maxL := M.2.2.1) (ret := M.2.2.2) hM.2 rfl ?_
  intro p e s m args below meth c s₁ B hml hv
  obtain ⟨rfl, hP, hK, hE⟩ := hv
  have hts := atoms_spec (ws := Cond.code M.1 M.2.1 M.2.2.1 M.2.2.2 :: WS) B.pre
  have hown : s.vm.findClass M.1.cls = some m.cls := findClass_of_methodNamed B.named
  have hl := lv_entry av hlen
  rw [lg_entry_eq]
  exact hV p e s m _ below meth c ⟨B.exec, B.bytes, hml, B.returns, B.notSynchronized, hown, fun hi => (name_of_methodNamed B.named B.method).1.trans hi, fun w hw => hts w (List.mem_cons_of_mem _ hw), hK, hE⟩ s.heap [] _ hP va_S.rf (by rw [hP.2]; exact Nat.le_add_right _ _) hl
