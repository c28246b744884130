theorem V.iconst {l : Launch} {G : GG} {EX : State → Prop} {M : MI} {rm : Room} {FIN : FT1} {k n pc q : Nat} {lv : List (Nat × Value)} {st : List Value} {h : FH} {i : Int} {v : Int32}  (hdg : decode M.2.1 pc = .ok (.iconst i, 1)) (hq : pc + 1 = q) (hv : Int32.ofInt i = v) (kk : V l G EX M rm FIN k n q lv (.int v :: st) h) : V l G EX M rm FIN k n pc lv st h := by
  subst hq
  intro p e s m args below meth c C H locs ls hP hS hb hl
  exact lv_iconst C.1 C.2.1 hdg hv (kk p e s m args below meth c C H locs ls hP hS hb hl)
theorem V.bipush {l : Launch} {G : GG} {EX : State → Prop} {M : MI} {rm : Room} {FIN : FT1} {k n pc q : Nat} {lv : List (Nat × Value)} {st : List Value} {h : FH} {i : Int} {v : Int32}  (hdg : decode M.2.1 pc = .ok (.bipush i, 2)) (hq : pc + 2 = q) (hv : (Int8.ofInt i).toInt32 = v) (kk : V l G EX M rm FIN k n q lv (.int v :: st) h) : V l G EX M rm FIN k n pc lv st h := by
  subst hq
  intro p e s m args below meth c C H locs ls hP hS hb hl
  exact lv_bipush C.1 C.2.1 hdg hv (kk p e s m args below meth c C H locs ls hP hS hb hl)
theorem V.sipush {l : Launch} {G : GG} {EX : State → Prop} {M : MI} {rm : Room} {FIN : FT1} {k n pc q : Nat} {lv : List (Nat × Value)} {st : List Value} {h : FH} {i : Int} {v : Int32}  (hdg : decode M.2.1 pc = .ok (.sipush i, 3)) (hq : pc + 3 = q) (hv : (Int16.ofInt i).toInt32 = v) (kk : V l G EX M rm FIN k n q lv (.int v :: st) h) : V l G EX M rm FIN k n pc lv st h := by
  subst hq
  intro p e s m args below meth c C H locs ls hP hS hb hl
  exact lv_sipush C.1 C.2.1 hdg hv (kk p e s m args below meth c C H locs ls hP hS hb hl)
theorem V.lconst {l : Launch} {G : GG} {EX : State → Prop} {M : MI} {rm : Room} {FIN : FT1} {k n pc q : Nat} {lv : List (Nat × Value)} {st : List Value} {h : FH} {i : Fin 2} {v : Int64}  (hdg : decode M.2.1 pc = .ok (.lconst i, 1)) (hq : pc + 1 = q) (hv : Int64.ofNat (i : Nat) = v) (kk : V l G EX M rm FIN k n q lv (.long v :: st) h) : V l G EX M rm FIN k n pc lv st h := by
  subst hq
  intro p e s m args below meth c C H locs ls hP hS hb hl
  exact lv_lconst C.1 C.2.1 hdg hv (kk p e s m args below meth c C H locs ls hP hS hb hl)
theorem V.iload_n {l : Launch} {G : GG} {EX : State → Prop} {M : MI} {rm : Room} {FIN : FT1} {k n pc q : Nat} {lv : List (Nat × Value)} {st : List Value} {h : FH} {j : Nat} {i : Nat} {z : Fin 4} {x : Int32}  (hdg : decode M.2.1 pc = .ok (.iload_n z, 1)) (hq : pc + 1 = q) (hi : (z : Nat) = i) (hj : lv[j]? = some (i, .int x)) (kk : V l G EX M rm FIN k n q lv (.int x :: st) h) : V l G EX M rm FIN k n pc lv st h := by
  subst hq
  intro p e s m args below meth c C H locs ls hP hS hb hl
  exact lv_iload_n C.1 C.2.1 hdg hi (lv_at hl j hj) (kk p e s m args below meth c C H locs ls hP hS hb hl)
theorem V.iload {l : Launch} {G : GG} {EX : State → Prop} {M : MI} {rm : Room} {FIN : FT1} {k n pc q : Nat} {lv : List (Nat × Value)} {st : List Value} {h : FH} {j : Nat} {i : Nat} {x : Int32}  (hdg : decode M.2.1 pc = .ok (.iload i, 2)) (hq : pc + 2 = q) (hj : lv[j]? = some (i, .int x)) (kk : V l G EX M rm FIN k n q lv (.int x :: st) h) : V l G EX M rm FIN k n pc lv st h := by
  subst hq
  intro p e s m args below meth c C H locs ls hP hS hb hl
  exact lv_iload C.1 C.2.1 hdg (lv_at hl j hj) (kk p e s m args below meth c C H locs ls hP hS hb hl)
theorem V.lload_n {l : Launch} {G : GG} {EX : State → Prop} {M : MI} {rm : Room} {FIN : FT1} {k n pc q : Nat} {lv : List (Nat × Value)} {st : List Value} {h : FH} {j : Nat} {i : Nat} {z : Fin 4} {x : Int64}  (hdg : decode M.2.1 pc = .ok (.lload_n z, 1)) (hq : pc + 1 = q) (hi : (z : Nat) = i) (hj : lv[j]? = some (i, .long x)) (kk : V l G EX M rm FIN k n q lv (.long x :: st) h) : V l G EX M rm FIN k n pc lv st h := by
  subst hq
  intro p e s m args below meth c C H locs ls hP hS hb hl
  exact lv_lload_n C.1 C.2.1 hdg hi (lv_at hl j hj) (kk p e s m args below meth c C H locs ls hP hS hb hl)
theorem V.lload {l : Launch} {G : GG} {EX : State → Prop} {M : MI} {rm : Room} {FIN : FT1} {k n pc q : Nat} {lv : List (Nat × Value)} {st : List Value} {h : FH} {j : Nat} {i : Nat} {x : Int64}  (hdg : decode M.2.1 pc = .ok (.lload i, 2)) (hq : pc + 2 = q) (hj : lv[j]? = some (i, .long x)) (kk : V l G EX M rm FIN k n q lv (.long x :: st) h) : V l G EX M rm FIN k n pc lv st h := by
  subst hq
  intro p e s m args below meth c C H locs ls hP hS hb hl
  exact lv_lload C.1 C.2.1 hdg (lv_at hl j hj) (kk p e s m args below meth c C H locs ls hP hS hb hl)
theorem V.aload_n {l : Launch} {G : GG} {EX : State → Prop} {M : MI} {rm : Room} {FIN : FT1} {k n pc q : Nat} {lv : List (Nat × Value)} {st : List Value} {h : FH} {j : Nat} {i : Nat} {z : Fin 4} {x : Nat}  (hdg : decode M.2.1 pc = .ok (.aload_n z, 1)) (hq : pc + 1 = q) (hi : (z : Nat) = i) (hj : lv[j]? = some (i, .ref x)) (kk : V l G EX M rm FIN k n q lv (.ref x :: st) h) : V l G EX M rm FIN k n pc lv st h := by
  subst hq
  intro p e s m args below meth c C H locs ls hP hS hb hl
  exact lv_aload_n C.1 C.2.1 hdg hi (lv_at hl j hj) (kk p e s m args below meth c C H locs ls hP hS hb hl)
theorem V.aload {l : Launch} {G : GG} {EX : State → Prop} {M : MI} {rm : Room} {FIN : FT1} {k n pc q : Nat} {lv : List (Nat × Value)} {st : List Value} {h : FH} {j : Nat} {i : Nat} {x : Nat}  (hdg : decode M.2.1 pc = .ok (.aload i, 2)) (hq : pc + 2 = q) (hj : lv[j]? = some (i, .ref x)) (kk : V l G EX M rm FIN k n q lv (.ref x :: st) h) : V l G EX M rm FIN k n pc lv st h := by
  subst hq
  intro p e s m args below meth c C H locs ls hP hS hb hl
  exact lv_aload C.1 C.2.1 hdg (lv_at hl j hj) (kk p e s m args below meth c C H locs ls hP hS hb hl)
theorem V.istore_n {l : Launch} {G : GG} {EX : State → Prop} {M : MI} {rm : Room} {FIN : FT1} {k n pc q : Nat} {lv : List (Nat × Value)} {st : List Value} {h : FH} {i : Nat} {x : Int32} (lv2 : List (Nat × Value)) {z : Fin 4} (hdg : decode M.2.1 pc = .ok (.istore_n z, 1)) (hq : pc + 1 = q) (hi : (z : Nat) = i) (hn : i < M.2.2.1) (hv : (i, Value.int x) :: lv.filter (fun q => !(q.1 == i) && !(q.1 + 1 == i && q.2.category == 2)) = lv2) (kk : V l G EX M rm FIN k n q lv2 st h) : V l G EX M rm FIN k n pc lv (.int x :: st) h := by
  subst hq
  intro p e s m args below meth c C H locs ls hP hS hb hl
  exact lv_istore_n (lv := lv) (lv' := lv2) C.1 C.2.1 hdg hi hl hn hv (fun ls hl => kk p e s m args below meth c C H locs ls hP hS hb hl)
theorem V.istore {l : Launch} {G : GG} {EX : State → Prop} {M : MI} {rm : Room} {FIN : FT1} {k n pc q : Nat} {lv : List (Nat × Value)} {st : List Value} {h : FH} {i : Nat} {x : Int32} (lv2 : List (Nat × Value)) (hdg : decode M.2.1 pc = .ok (.istore i, 2)) (hq : pc + 2 = q) (hn : i < M.2.2.1) (hv : (i, Value.int x) :: lv.filter (fun q => !(q.1 == i) && !(q.1 + 1 == i && q.2.category == 2)) = lv2) (kk : V l G EX M rm FIN k n q lv2 st h) : V l G EX M rm FIN k n pc lv (.int x :: st) h := by
  subst hq
  intro p e s m args below meth c C H locs ls hP hS hb hl
  exact lv_istore (lv := lv) (lv' := lv2) C.1 C.2.1 hdg hl hn hv (fun ls hl => kk p e s m args below meth c C H locs ls hP hS hb hl)
theorem V.lstore_n {l : Launch} {G : GG} {EX : State → Prop} {M : MI} {rm : Room} {FIN : FT1} {k n pc q : Nat} {lv : List (Nat × Value)} {st : List Value} {h : FH} {i : Nat} {x : Int64} (lv2 : List (Nat × Value)) {z : Fin 4} (hdg : decode M.2.1 pc = .ok (.lstore_n z, 1)) (hq : pc + 1 = q) (hi : (z : Nat) = i) (hn : i + 1 < M.2.2.1) (hv : (i, Value.long x) :: lv.filter (fun q => !(q.1 == i) && (!(q.1 == i + 1) && !(q.1 + 1 == i && q.2.category == 2))) = lv2) (kk : V l G EX M rm FIN k n q lv2 st h) : V l G EX M rm FIN k n pc lv (.long x :: st) h := by
  subst hq
  intro p e s m args below meth c C H locs ls hP hS hb hl
  exact lv_lstore_n (lv := lv) (lv' := lv2) C.1 C.2.1 hdg hi hl hn hv (fun ls hl => kk p e s m args below meth c C H locs ls hP hS hb hl)
theorem V.lstore {l : Launch} {G : GG} {EX : State → Prop} {M : MI} {rm : Room} {FIN : FT1} {k n pc q : Nat} {lv : List (Nat × Value)} {st : List Value} {h : FH} {i : Nat} {x : Int64} (lv2 : List (Nat × Value)) (hdg : decode M.2.1 pc = .ok (.lstore i, 2)) (hq : pc + 2 = q) (hn : i + 1 < M.2.2.1) (hv : (i, Value.long x) :: lv.filter (fun q => !(q.1 == i) && (!(q.1 == i + 1) && !(q.1 + 1 == i && q.2.category == 2))) = lv2) (kk : V l G EX M rm FIN k n q lv2 st h) : V l G EX M rm FIN k n pc lv (.long x :: st) h := by
  subst hq
  intro p e s m args below meth c C H locs ls hP hS hb hl
  exact lv_lstore (lv := lv) (lv' := lv2) C.1 C.2.1 hdg hl hn hv (fun ls hl => kk p e s m args below meth c C H locs ls hP hS hb hl)
theorem V.astore_n {l : Launch} {G : GG} {EX : State → Prop} {M : MI} {rm : Room} {FIN : FT1} {k n pc q : Nat} {lv : List (Nat × Value)} {st : List Value} {h : FH} {i : Nat} {x : Nat} (lv2 : List (Nat × Value)) {z : Fin 4} (hdg : decode M.2.1 pc = .ok (.astore_n z, 1)) (hq : pc + 1 = q) (hi : (z : Nat) = i) (hn : i < M.2.2.1) (hv : (i, Value.ref x) :: lv.filter (fun q => !(q.1 == i) && !(q.1 + 1 == i && q.2.category == 2)) = lv2) (kk : V l G EX M rm FIN k n q lv2 st h) : V l G EX M rm FIN k n pc lv (.ref x :: st) h := by
  subst hq
  intro p e s m args below meth c C H locs ls hP hS hb hl
  exact lv_astore_n (lv := lv) (lv' := lv2) C.1 C.2.1 hdg hi hl hn hv (fun ls hl => kk p e s m args below meth c C H locs ls hP hS hb hl)
theorem V.astore {l : Launch} {G : GG} {EX : State → Prop} {M : MI} {rm : Room} {FIN : FT1} {k n pc q : Nat} {lv : List (Nat × Value)} {st : List Value} {h : FH} {i : Nat} {x : Nat} (lv2 : List (Nat × Value)) (hdg : decode M.2.1 pc = .ok (.astore i, 2)) (hq : pc + 2 = q) (hn : i < M.2.2.1) (hv : (i, Value.ref x) :: lv.filter (fun q => !(q.1 == i) && !(q.1 + 1 == i && q.2.category == 2)) = lv2) (kk : V l G EX M rm FIN k n q lv2 st h) : V l G EX M rm FIN k n pc lv (.ref x :: st) h := by
  subst hq
  intro p e s m args below meth c C H locs ls hP hS hb hl
  exact lv_astore (lv := lv) (lv' := lv2) C.1 C.2.1 hdg hl hn hv (fun ls hl => kk p e s m args below meth c C H locs ls hP hS hb hl)
theorem V.iinc {l : Launch} {G : GG} {EX : State → Prop} {M : MI} {rm : Room} {FIN : FT1} {k n pc q : Nat} {lv : List (Nat × Value)} {st : List Value} {h : FH} {i j : Nat} {d : Int} {x v : Int32} (lv2 : List (Nat × Value)) (hj : lv[j]? = some (i, .int x)) (hx : x + Int32.ofInt d = v) (hn : i < M.2.2.1) (hv : (i, Value.int v) :: lv.filter (fun q => !(q.1 == i) && !(q.1 + 1 == i && q.2.category == 2)) = lv2) (hdg : decode M.2.1 pc = .ok (.iinc i d, 3)) (hq : pc + 3 = q) (kk : V l G EX M rm FIN k n q lv2 st h) : V l G EX M rm FIN k n pc lv st h := by
  subst hq
  intro p e s m args below meth c C H locs ls hP hS hb hl
  exact lv_iinc (lv := lv) (lv' := lv2) C.1 C.2.1 hdg hl hj hx hn hv (fun ls hl => kk p e s m args below meth c C H locs ls hP hS hb hl)
def jshl (x y : Int32) : Int32 := x <<< (y &&& 31)
def jshr (x y : Int32) : Int32 := x >>> (y &&& 31)
theorem V.iadd {l : Launch} {G : GG} {EX : State → Prop} {M : MI} {rm : Room} {FIN : FT1} {k n pc q : Nat} {lv : List (Nat × Value)} {st : List Value} {h : FH} {x y : Int32} (hdg : decode M.2.1 pc = .ok (.iadd, 1)) (hq : pc + 1 = q)  (kk : V l G EX M rm FIN k n q lv (.int (x + y) :: st) h) : V l G EX M rm FIN k n pc lv (.int y :: .int x :: st) h := by
  subst hq
  intro p e s m args below meth c C H locs ls hP hS hb hl
  exact lv_iadd C.1 C.2.1 hdg (kk p e s m args below meth c C H locs ls hP hS hb hl)
theorem V.isub {l : Launch} {G : GG} {EX : State → Prop} {M : MI} {rm : Room} {FIN : FT1} {k n pc q : Nat} {lv : List (Nat × Value)} {st : List Value} {h : FH} {x y : Int32} (hdg : decode M.2.1 pc = .ok (.isub, 1)) (hq : pc + 1 = q)  (kk : V l G EX M rm FIN k n q lv (.int (x - y) :: st) h) : V l G EX M rm FIN k n pc lv (.int y :: .int x :: st) h := by
  subst hq
  intro p e s m args below meth c C H locs ls hP hS hb hl
  exact lv_isub C.1 C.2.1 hdg (kk p e s m args below meth c C H locs ls hP hS hb hl)
theorem V.imul {l : Launch} {G : GG} {EX : State → Prop} {M : MI} {rm : Room} {FIN : FT1} {k n pc q : Nat} {lv : List (Nat × Value)} {st : List Value} {h : FH} {x y : Int32} (hdg : decode M.2.1 pc = .ok (.imul, 1)) (hq : pc + 1 = q)  (kk : V l G EX M rm FIN k n q lv (.int (x * y) :: st) h) : V l G EX M rm FIN k n pc lv (.int y :: .int x :: st) h := by
  subst hq
  intro p e s m args below meth c C H locs ls hP hS hb hl
  exact lv_imul C.1 C.2.1 hdg (kk p e s m args below meth c C H locs ls hP hS hb hl)
theorem V.iand {l : Launch} {G : GG} {EX : State → Prop} {M : MI} {rm : Room} {FIN : FT1} {k n pc q : Nat} {lv : List (Nat × Value)} {st : List Value} {h : FH} {x y : Int32} (hdg : decode M.2.1 pc = .ok (.iand, 1)) (hq : pc + 1 = q)  (kk : V l G EX M rm FIN k n q lv (.int (x &&& y) :: st) h) : V l G EX M rm FIN k n pc lv (.int y :: .int x :: st) h := by
  subst hq
  intro p e s m args below meth c C H locs ls hP hS hb hl
  exact lv_iand C.1 C.2.1 hdg (kk p e s m args below meth c C H locs ls hP hS hb hl)
theorem V.ior {l : Launch} {G : GG} {EX : State → Prop} {M : MI} {rm : Room} {FIN : FT1} {k n pc q : Nat} {lv : List (Nat × Value)} {st : List Value} {h : FH} {x y : Int32} (hdg : decode M.2.1 pc = .ok (.ior, 1)) (hq : pc + 1 = q)  (kk : V l G EX M rm FIN k n q lv (.int (x ||| y) :: st) h) : V l G EX M rm FIN k n pc lv (.int y :: .int x :: st) h := by
  subst hq
  intro p e s m args below meth c C H locs ls hP hS hb hl
  exact lv_ior C.1 C.2.1 hdg (kk p e s m args below meth c C H locs ls hP hS hb hl)
theorem V.ixor {l : Launch} {G : GG} {EX : State → Prop} {M : MI} {rm : Room} {FIN : FT1} {k n pc q : Nat} {lv : List (Nat × Value)} {st : List Value} {h : FH} {x y : Int32} (hdg : decode M.2.1 pc = .ok (.ixor, 1)) (hq : pc + 1 = q)  (kk : V l G EX M rm FIN k n q lv (.int (x ^^^ y) :: st) h) : V l G EX M rm FIN k n pc lv (.int y :: .int x :: st) h := by
  subst hq
  intro p e s m args below meth c C H locs ls hP hS hb hl
  exact lv_ixor C.1 C.2.1 hdg (kk p e s m args below meth c C H locs ls hP hS hb hl)
theorem V.ishl {l : Launch} {G : GG} {EX : State → Prop} {M : MI} {rm : Room} {FIN : FT1} {k n pc q : Nat} {lv : List (Nat × Value)} {st : List Value} {h : FH} {x y : Int32} (hdg : decode M.2.1 pc = .ok (.ishl, 1)) (hq : pc + 1 = q)  (kk : V l G EX M rm FIN k n q lv (.int (jshl x y) :: st) h) : V l G EX M rm FIN k n pc lv (.int y :: .int x :: st) h := by
  subst hq
  intro p e s m args below meth c C H locs ls hP hS hb hl
  exact lv_ishl C.1 C.2.1 hdg (kk p e s m args below meth c C H locs ls hP hS hb hl)
theorem V.ishr {l : Launch} {G : GG} {EX : State → Prop} {M : MI} {rm : Room} {FIN : FT1} {k n pc q : Nat} {lv : List (Nat × Value)} {st : List Value} {h : FH} {x y : Int32} (hdg : decode M.2.1 pc = .ok (.ishr, 1)) (hq : pc + 1 = q)  (kk : V l G EX M rm FIN k n q lv (.int (jshr x y) :: st) h) : V l G EX M rm FIN k n pc lv (.int y :: .int x :: st) h := by
  subst hq
  intro p e s m args below meth c C H locs ls hP hS hb hl
  exact lv_ishr C.1 C.2.1 hdg (kk p e s m args below meth c C H locs ls hP hS hb hl)
def jushr (x y : Int32) : Int32 := (x.toUInt32 >>> (y.toUInt32 &&& Int32.toUInt32 31)).toInt32
def jrem (x y : Int32) : Int32 := x - x / y * y
def jremL (x y : Int64) : Int64 := x - x / y * y
theorem V.idiv {l : Launch} {G : GG} {EX : State → Prop} {M : MI} {rm : Room} {FIN : FT1} {k n pc q : Nat} {lv : List (Nat × Value)} {st : List Value} {h : FH} {x y : Int32}  (hdg : decode M.2.1 pc = .ok (.idiv, 1)) (hq : pc + 1 = q) (hne : ¬ y = 0) (kk : V l G EX M rm FIN k n q lv (.int (x / y) :: st) h) : V l G EX M rm FIN k n pc lv (.int y :: .int x :: st) h := by
  subst hq
  intro p e s m args below meth c C H locs ls hP hS hb hl
  exact lv_idiv C.1 C.2.1 hdg hne (kk p e s m args below meth c C H locs ls hP hS hb hl)
theorem V.irem {l : Launch} {G : GG} {EX : State → Prop} {M : MI} {rm : Room} {FIN : FT1} {k n pc q : Nat} {lv : List (Nat × Value)} {st : List Value} {h : FH} {x y : Int32}  (hdg : decode M.2.1 pc = .ok (.irem, 1)) (hq : pc + 1 = q) (hne : ¬ y = 0) (kk : V l G EX M rm FIN k n q lv (.int (jrem x y) :: st) h) : V l G EX M rm FIN k n pc lv (.int y :: .int x :: st) h := by
  subst hq
  intro p e s m args below meth c C H locs ls hP hS hb hl
  exact lv_irem C.1 C.2.1 hdg hne (kk p e s m args below meth c C H locs ls hP hS hb hl)
theorem V.ladd {l : Launch} {G : GG} {EX : State → Prop} {M : MI} {rm : Room} {FIN : FT1} {k n pc q : Nat} {lv : List (Nat × Value)} {st : List Value} {h : FH} {x y : Int64} (hdg : decode M.2.1 pc = .ok (.ladd, 1)) (hq : pc + 1 = q)  (kk : V l G EX M rm FIN k n q lv (.long (x + y) :: st) h) : V l G EX M rm FIN k n pc lv (.long y :: .long x :: st) h := by
  subst hq
  intro p e s m args below meth c C H locs ls hP hS hb hl
  exact lv_ladd C.1 C.2.1 hdg (kk p e s m args below meth c C H locs ls hP hS hb hl)
theorem V.lsub {l : Launch} {G : GG} {EX : State → Prop} {M : MI} {rm : Room} {FIN : FT1} {k n pc q : Nat} {lv : List (Nat × Value)} {st : List Value} {h : FH} {x y : Int64} (hdg : decode M.2.1 pc = .ok (.lsub, 1)) (hq : pc + 1 = q)  (kk : V l G EX M rm FIN k n q lv (.long (x - y) :: st) h) : V l G EX M rm FIN k n pc lv (.long y :: .long x :: st) h := by
  subst hq
  intro p e s m args below meth c C H locs ls hP hS hb hl
  exact lv_lsub C.1 C.2.1 hdg (kk p e s m args below meth c C H locs ls hP hS hb hl)
theorem V.lmul {l : Launch} {G : GG} {EX : State → Prop} {M : MI} {rm : Room} {FIN : FT1} {k n pc q : Nat} {lv : List (Nat × Value)} {st : List Value} {h : FH} {x y : Int64} (hdg : decode M.2.1 pc = .ok (.lmul, 1)) (hq : pc + 1 = q)  (kk : V l G EX M rm FIN k n q lv (.long (x * y) :: st) h) : V l G EX M rm FIN k n pc lv (.long y :: .long x :: st) h := by
  subst hq
  intro p e s m args below meth c C H locs ls hP hS hb hl
  exact lv_lmul C.1 C.2.1 hdg (kk p e s m args below meth c C H locs ls hP hS hb hl)
theorem V.ldiv {l : Launch} {G : GG} {EX : State → Prop} {M : MI} {rm : Room} {FIN : FT1} {k n pc q : Nat} {lv : List (Nat × Value)} {st : List Value} {h : FH} {x y : Int64}  (hdg : decode M.2.1 pc = .ok (.ldiv, 1)) (hq : pc + 1 = q) (hne : ¬ y = 0) (kk : V l G EX M rm FIN k n q lv (.long (x / y) :: st) h) : V l G EX M rm FIN k n pc lv (.long y :: .long x :: st) h := by
  subst hq
  intro p e s m args below meth c C H locs ls hP hS hb hl
  exact lv_ldiv C.1 C.2.1 hdg hne (kk p e s m args below meth c C H locs ls hP hS hb hl)
theorem V.lrem {l : Launch} {G : GG} {EX : State → Prop} {M : MI} {rm : Room} {FIN : FT1} {k n pc q : Nat} {lv : List (Nat × Value)} {st : List Value} {h : FH} {x y : Int64}  (hdg : decode M.2.1 pc = .ok (.lrem, 1)) (hq : pc + 1 = q) (hne : ¬ y = 0) (kk : V l G EX M rm FIN k n q lv (.long (jremL x y) :: st) h) : V l G EX M rm FIN k n pc lv (.long y :: .long x :: st) h := by
  subst hq
  intro p e s m args below meth c C H locs ls hP hS hb hl
  exact lv_lrem C.1 C.2.1 hdg hne (kk p e s m args below meth c C H locs ls hP hS hb hl)
theorem V.ineg {l : Launch} {G : GG} {EX : State → Prop} {M : MI} {rm : Room} {FIN : FT1} {k n pc q : Nat} {lv : List (Nat × Value)} {st : List Value} {h : FH} {x : Int32} (hdg : decode M.2.1 pc = .ok (.ineg, 1)) (hq : pc + 1 = q)  (kk : V l G EX M rm FIN k n q lv (.int (-x) :: st) h) : V l G EX M rm FIN k n pc lv (.int x :: st) h := by
  subst hq
  intro p e s m args below meth c C H locs ls hP hS hb hl
  exact lv_ineg C.1 C.2.1 hdg (kk p e s m args below meth c C H locs ls hP hS hb hl)
theorem V.iushr {l : Launch} {G : GG} {EX : State → Prop} {M : MI} {rm : Room} {FIN : FT1} {k n pc q : Nat} {lv : List (Nat × Value)} {st : List Value} {h : FH} {x y : Int32} (hdg : decode M.2.1 pc = .ok (.iushr, 1)) (hq : pc + 1 = q)  (kk : V l G EX M rm FIN k n q lv (.int (jushr x y) :: st) h) : V l G EX M rm FIN k n pc lv (.int y :: .int x :: st) h := by
  subst hq
  intro p e s m args below meth c C H locs ls hP hS hb hl
  exact lv_iushr C.1 C.2.1 hdg rfl (kk p e s m args below meth c C H locs ls hP hS hb hl)
theorem V.i2l {l : Launch} {G : GG} {EX : State → Prop} {M : MI} {rm : Room} {FIN : FT1} {k n pc q : Nat} {lv : List (Nat × Value)} {st : List Value} {h : FH} {x : Int32} (hdg : decode M.2.1 pc = .ok (.i2l, 1)) (hq : pc + 1 = q)  (kk : V l G EX M rm FIN k n q lv (.long x.toInt64 :: st) h) : V l G EX M rm FIN k n pc lv (.int x :: st) h := by
  subst hq
  intro p e s m args below meth c C H locs ls hP hS hb hl
  exact lv_i2l C.1 C.2.1 hdg rfl (kk p e s m args below meth c C H locs ls hP hS hb hl)
theorem V.l2i {l : Launch} {G : GG} {EX : State → Prop} {M : MI} {rm : Room} {FIN : FT1} {k n pc q : Nat} {lv : List (Nat × Value)} {st : List Value} {h : FH} {x : Int64} (hdg : decode M.2.1 pc = .ok (.l2i, 1)) (hq : pc + 1 = q)  (kk : V l G EX M rm FIN k n q lv (.int x.toInt32 :: st) h) : V l G EX M rm FIN k n pc lv (.long x :: st) h := by
  subst hq
  intro p e s m args below meth c C H locs ls hP hS hb hl
  exact lv_l2i C.1 C.2.1 hdg rfl (kk p e s m args below meth c C H locs ls hP hS hb hl)
theorem V.i2c {l : Launch} {G : GG} {EX : State → Prop} {M : MI} {rm : Room} {FIN : FT1} {k n pc q : Nat} {lv : List (Nat × Value)} {st : List Value} {h : FH} {x : Int32} (hdg : decode M.2.1 pc = .ok (.i2c, 1)) (hq : pc + 1 = q)  (kk : V l G EX M rm FIN k n q lv (.int (x.toUInt32 % 65536).toInt32 :: st) h) : V l G EX M rm FIN k n pc lv (.int x :: st) h := by
  subst hq
  intro p e s m args below meth c C H locs ls hP hS hb hl
  exact lv_i2c C.1 C.2.1 hdg rfl (kk p e s m args below meth c C H locs ls hP hS hb hl)
theorem V.lcmp {l : Launch} {G : GG} {EX : State → Prop} {M : MI} {rm : Room} {FIN : FT1} {k n pc q : Nat} {lv : List (Nat × Value)} {st : List Value} {h : FH} {x y : Int64} (hdg : decode M.2.1 pc = .ok (.lcmp, 1)) (hq : pc + 1 = q)  (kk : V l G EX M rm FIN k n q lv (.int (lg_cmp x y) :: st) h) : V l G EX M rm FIN k n pc lv (.long y :: .long x :: st) h := by
  subst hq
  intro p e s m args below meth c C H locs ls hP hS hb hl
  exact W.lcmp C.1 C.2.1 hdg (kk p e s m args below meth c C H locs ls hP hS hb hl)
theorem V.dup {l : Launch} {G : GG} {EX : State → Prop} {M : MI} {rm : Room} {FIN : FT1} {k n pc q : Nat} {lv : List (Nat × Value)} {st : List Value} {h : FH} {va : Value}  (hdg : decode M.2.1 pc = .ok (.dup, 1)) (hq : pc + 1 = q) (hva : va.category = 1) (kk : V l G EX M rm FIN k n q lv (va :: va :: st) h) : V l G EX M rm FIN k n pc lv (va :: st) h := by
  subst hq
  intro p e s m args below meth c C H locs ls hP hS hb hl
  exact lv_dup C.1 C.2.1 hdg hva (kk p e s m args below meth c C H locs ls hP hS hb hl)
theorem V.pop {l : Launch} {G : GG} {EX : State → Prop} {M : MI} {rm : Room} {FIN : FT1} {k n pc q : Nat} {lv : List (Nat × Value)} {st : List Value} {h : FH} {va : Value}  (hdg : decode M.2.1 pc = .ok (.pop, 1)) (hq : pc + 1 = q) (hva : va.category = 1) (kk : V l G EX M rm FIN k n q lv st h) : V l G EX M rm FIN k n pc lv (va :: st) h := by
  subst hq
  intro p e s m args below meth c C H locs ls hP hS hb hl
  exact lv_pop C.1 C.2.1 hdg hva (kk p e s m args below meth c C H locs ls hP hS hb hl)
theorem V.dup_x1 {l : Launch} {G : GG} {EX : State → Prop} {M : MI} {rm : Room} {FIN : FT1} {k n pc q : Nat} {lv : List (Nat × Value)} {st : List Value} {h : FH} {va vb : Value}  (hdg : decode M.2.1 pc = .ok (.dup_x1, 1)) (hq : pc + 1 = q) (hva : va.category = 1) (hvb : vb.category = 1) (kk : V l G EX M rm FIN k n q lv (va :: vb :: va :: st) h) : V l G EX M rm FIN k n pc lv (va :: vb :: st) h := by
  subst hq
  intro p e s m args below meth c C H locs ls hP hS hb hl
  exact lv_dup_x1 C.1 C.2.1 hdg hva hvb (kk p e s m args below meth c C H locs ls hP hS hb hl)
theorem V.dup2 {l : Launch} {G : GG} {EX : State → Prop} {M : MI} {rm : Room} {FIN : FT1} {k n pc q : Nat} {lv : List (Nat × Value)} {st : List Value} {h : FH} {va vb : Value}  (hdg : decode M.2.1 pc = .ok (.dup2, 1)) (hq : pc + 1 = q) (hva : va.category = 1) (hvb : vb.category = 1) (kk : V l G EX M rm FIN k n q lv (va :: vb :: va :: vb :: st) h) : V l G EX M rm FIN k n pc lv (va :: vb :: st) h := by
  subst hq
  intro p e s m args below meth c C H locs ls hP hS hb hl
  exact lv_dup2_11 C.1 C.2.1 hdg hva hvb (kk p e s m args below meth c C H locs ls hP hS hb hl)
theorem V.ldc {l : Launch} {G : GG} {EX : State → Prop} {M : MI} {rm : Room} {FIN : FT1} {k n pc q : Nat} {lv : List (Nat × Value)} {st : List Value} {h : FH} {idx : Nat} {v : Int32}  (hdg : decode M.2.1 pc = .ok (.ldc idx, 2)) (hq : pc + 2 = q) (hw : Cond.constant M.1.cls idx v ∈ WS) (kk : V l G EX M rm FIN k n q lv (.int v :: st) h) : V l G EX M rm FIN k n pc lv st h := by
  subst hq
  intro p e s m args below meth c C H locs ls hP hS hb hl
  exact lv_ldc C.1 C.2.1 C.2.2.2.2.2.1 (C.2.2.2.2.2.2.2.1 _ hw) hdg (kk p e s m args below meth c C H locs ls hP hS hb hl)
theorem V.ldc_w {l : Launch} {G : GG} {EX : State → Prop} {M : MI} {rm : Room} {FIN : FT1} {k n pc q : Nat} {lv : List (Nat × Value)} {st : List Value} {h : FH} {idx : Nat} {v : Int32}  (hdg : decode M.2.1 pc = .ok (.ldc_w idx, 3)) (hq : pc + 3 = q) (hw : Cond.constant M.1.cls idx v ∈ WS) (kk : V l G EX M rm FIN k n q lv (.int v :: st) h) : V l G EX M rm FIN k n pc lv st h := by
  subst hq
  intro p e s m args below meth c C H locs ls hP hS hb hl
  exact lv_ldcw C.1 C.2.1 C.2.2.2.2.2.1 (C.2.2.2.2.2.2.2.1 _ hw) hdg (kk p e s m args below meth c C H locs ls hP hS hb hl)
theorem V.ldc2_w {l : Launch} {G : GG} {EX : State → Prop} {M : MI} {rm : Room} {FIN : FT1} {k n pc q : Nat} {lv : List (Nat × Value)} {st : List Value} {h : FH} {idx : Nat} {v : Int64}  (hdg : decode M.2.1 pc = .ok (.ldc2_w idx, 3)) (hq : pc + 3 = q) (hw : Cond.constantLong M.1.cls idx v ∈ WS) (kk : V l G EX M rm FIN k n q lv (.long v :: st) h) : V l G EX M rm FIN k n pc lv st h := by
  subst hq
  intro p e s m args below meth c C H locs ls hP hS hb hl
  exact lv_ldc2 C.1 C.2.1 C.2.2.2.2.2.1 (C.2.2.2.2.2.2.2.1 _ hw) hdg (kk p e s m args below meth c C H locs ls hP hS hb hl)
theorem V.ifnull {l : Launch} {G : GG} {EX : State → Prop} {M : MI} {rm : Room} {FIN : FT1} {k n pc q : Nat} {lv : List (Nat × Value)} {st : List Value} {h : FH} {x : Nat} {off : Int} (hdg : decode M.2.1 pc = .ok (.ifnull off, 3)) (hq : pc + 3 = q)  (kk : V l G EX M rm FIN k n q lv st h) : V l G EX M rm FIN k n pc lv (.ref x :: st) h := by
  subst hq
  intro p e s m args below meth c C H locs ls hP hS hb hl
  exact lv_ifnull C.1 C.2.1 hdg (kk p e s m args below meth c C H locs ls hP hS hb hl)
theorem V.ifnonnull {l : Launch} {G : GG} {EX : State → Prop} {M : MI} {rm : Room} {FIN : FT1} {k n pc q : Nat} {lv : List (Nat × Value)} {st : List Value} {h : FH} {x : Nat} {off : Int} (hdg : decode M.2.1 pc = .ok (.ifnonnull off, 3)) (ht : (pc : Int) + off = (q : Int)) (kk : V l G EX M rm FIN k n q lv st h) : V l G EX M rm FIN k n pc lv (.ref x :: st) h := by
  intro p e s m args below meth c C H locs ls hP hS hb hl
  exact lv_ifnonnull C.1 C.2.1 hdg ht (kk p e s m args below meth c C H locs ls hP hS hb hl)
theorem V.goto {l : Launch} {G : GG} {EX : State → Prop} {M : MI} {rm : Room} {FIN : FT1} {k n pc q : Nat} {lv : List (Nat × Value)} {st : List Value} {h : FH} {off : Int} (hdg : decode M.2.1 pc = .ok (.goto off, 3)) (ht : (pc : Int) + off = (q : Int)) (kk : V l G EX M rm FIN k n q lv st h) : V l G EX M rm FIN k n pc lv st h := by
  intro p e s m args below meth c C H locs ls hP hS hb hl
  exact lv_goto C.1 C.2.1 hdg ht (kk p e s m args below meth c C H locs ls hP hS hb hl)
theorem V.icmp_eq {l : Launch} {G : GG} {EX : State → Prop} {M : MI} {rm : Room} {FIN : FT1} {k n pc q : Nat} {lv : List (Nat × Value)} {st : List Value} {h : FH} {α : Type} {A B : Option α} {r : α} {x y : Int32} {off : Int} {tgt : Nat} (hx : (if x = y then A else B) = some r) (hdg : decode M.2.1 pc = .ok (.if_icmp .eq off, 3)) (ht : (pc : Int) + off = (tgt : Int)) (hq : pc + 3 = q) (kt : A = some r → V l G EX M rm FIN k n tgt lv st h) (kf : B = some r → V l G EX M rm FIN k n q lv st h) : V l G EX M rm FIN k n pc lv (.int y :: .int x :: st) h := by
  subst hq
  intro p e s m args below meth c C H locs ls hP hS hb hl
  exact lv_icmp_eq C.1 C.2.1 hdg ht (fun hc => kt (by rw [if_pos hc] at hx; exact hx) p e s m args below meth c C H locs ls hP hS hb hl) (fun hc => kf (by rw [if_neg hc] at hx; exact hx) p e s m args below meth c C H locs ls hP hS hb hl)
theorem V.if_eq {l : Launch} {G : GG} {EX : State → Prop} {M : MI} {rm : Room} {FIN : FT1} {k n pc q : Nat} {lv : List (Nat × Value)} {st : List Value} {h : FH} {α : Type} {A B : Option α} {r : α} {x : Int32} {off : Int} {tgt : Nat} (hx : (if x = 0 then A else B) = some r) (hdg : decode M.2.1 pc = .ok (.ifCond .eq off, 3)) (ht : (pc : Int) + off = (tgt : Int)) (hq : pc + 3 = q) (kt : A = some r → V l G EX M rm FIN k n tgt lv st h) (kf : B = some r → V l G EX M rm FIN k n q lv st h) : V l G EX M rm FIN k n pc lv (.int x :: st) h := by
  subst hq
  intro p e s m args below meth c C H locs ls hP hS hb hl
  exact lv_if_eq C.1 C.2.1 hdg ht (fun hc => kt (by rw [if_pos hc] at hx; exact hx) p e s m args below meth c C H locs ls hP hS hb hl) (fun hc => kf (by rw [if_neg hc] at hx; exact hx) p e s m args below meth c C H locs ls hP hS hb hl)
theorem V.icmp_ne {l : Launch} {G : GG} {EX : State → Prop} {M : MI} {rm : Room} {FIN : FT1} {k n pc q : Nat} {lv : List (Nat × Value)} {st : List Value} {h : FH} {α : Type} {A B : Option α} {r : α} {x y : Int32} {off : Int} {tgt : Nat} (hx : (if x = y then A else B) = some r) (hdg : decode M.2.1 pc = .ok (.if_icmp .ne off, 3)) (ht : (pc : Int) + off = (tgt : Int)) (hq : pc + 3 = q) (kt : B = some r → V l G EX M rm FIN k n tgt lv st h) (kf : A = some r → V l G EX M rm FIN k n q lv st h) : V l G EX M rm FIN k n pc lv (.int y :: .int x :: st) h := by
  subst hq
  intro p e s m args below meth c C H locs ls hP hS hb hl
  exact lv_icmp_ne C.1 C.2.1 hdg ht (fun hc => kt (by rw [if_neg hc] at hx; exact hx) p e s m args below meth c C H locs ls hP hS hb hl) (fun hc => kf (by rw [if_pos hc] at hx; exact hx) p e s m args below meth c C H locs ls hP hS hb hl)
theorem V.if_ne {l : Launch} {G : GG} {EX : State → Prop} {M : MI} {rm : Room} {FIN : FT1} {k n pc q : Nat} {lv : List (Nat × Value)} {st : List Value} {h : FH} {α : Type} {A B : Option α} {r : α} {x : Int32} {off : Int} {tgt : Nat} (hx : (if x = 0 then A else B) = some r) (hdg : decode M.2.1 pc = .ok (.ifCond .ne off, 3)) (ht : (pc : Int) + off = (tgt : Int)) (hq : pc + 3 = q) (kt : B = some r → V l G EX M rm FIN k n tgt lv st h) (kf : A = some r → V l G EX M rm FIN k n q lv st h) : V l G EX M rm FIN k n pc lv (.int x :: st) h := by
  subst hq
  intro p e s m args below meth c C H locs ls hP hS hb hl
  exact lv_if_ne C.1 C.2.1 hdg ht (fun hc => kt (by rw [if_neg hc] at hx; exact hx) p e s m args below meth c C H locs ls hP hS hb hl) (fun hc => kf (by rw [if_pos hc] at hx; exact hx) p e s m args below meth c C H locs ls hP hS hb hl)
theorem V.icmp_lt {l : Launch} {G : GG} {EX : State → Prop} {M : MI} {rm : Room} {FIN : FT1} {k n pc q : Nat} {lv : List (Nat × Value)} {st : List Value} {h : FH} {α : Type} {A B : Option α} {r : α} {x y : Int32} {off : Int} {tgt : Nat} (hx : (if x < y then A else B) = some r) (hdg : decode M.2.1 pc = .ok (.if_icmp .lt off, 3)) (ht : (pc : Int) + off = (tgt : Int)) (hq : pc + 3 = q) (kt : A = some r → V l G EX M rm FIN k n tgt lv st h) (kf : B = some r → V l G EX M rm FIN k n q lv st h) : V l G EX M rm FIN k n pc lv (.int y :: .int x :: st) h := by
  subst hq
  intro p e s m args below meth c C H locs ls hP hS hb hl
  exact lv_icmp_lt C.1 C.2.1 hdg ht (fun hc => kt (by rw [if_pos hc] at hx; exact hx) p e s m args below meth c C H locs ls hP hS hb hl) (fun hc => kf (by rw [if_neg hc] at hx; exact hx) p e s m args below meth c C H locs ls hP hS hb hl)
theorem V.if_lt {l : Launch} {G : GG} {EX : State → Prop} {M : MI} {rm : Room} {FIN : FT1} {k n pc q : Nat} {lv : List (Nat × Value)} {st : List Value} {h : FH} {α : Type} {A B : Option α} {r : α} {x : Int32} {off : Int} {tgt : Nat} (hx : (if x < 0 then A else B) = some r) (hdg : decode M.2.1 pc = .ok (.ifCond .lt off, 3)) (ht : (pc : Int) + off = (tgt : Int)) (hq : pc + 3 = q) (kt : A = some r → V l G EX M rm FIN k n tgt lv st h) (kf : B = some r → V l G EX M rm FIN k n q lv st h) : V l G EX M rm FIN k n pc lv (.int x :: st) h := by
  subst hq
  intro p e s m args below meth c C H locs ls hP hS hb hl
  exact lv_if_lt C.1 C.2.1 hdg ht (fun hc => kt (by rw [if_pos hc] at hx; exact hx) p e s m args below meth c C H locs ls hP hS hb hl) (fun hc => kf (by rw [if_neg hc] at hx; exact hx) p e s m args below meth c C H locs ls hP hS hb hl)
theorem V.icmp_ge {l : Launch} {G : GG} {EX : State → Prop} {M : MI} {rm : Room} {FIN : FT1} {k n pc q : Nat} {lv : List (Nat × Value)} {st : List Value} {h : FH} {α : Type} {A B : Option α} {r : α} {x y : Int32} {off : Int} {tgt : Nat} (hx : (if y ≤ x then A else B) = some r) (hdg : decode M.2.1 pc = .ok (.if_icmp .ge off, 3)) (ht : (pc : Int) + off = (tgt : Int)) (hq : pc + 3 = q) (kt : A = some r → V l G EX M rm FIN k n tgt lv st h) (kf : B = some r → V l G EX M rm FIN k n q lv st h) : V l G EX M rm FIN k n pc lv (.int y :: .int x :: st) h := by
  subst hq
  intro p e s m args below meth c C H locs ls hP hS hb hl
  exact lv_icmp_ge C.1 C.2.1 hdg ht (fun hc => kt (by rw [if_pos hc] at hx; exact hx) p e s m args below meth c C H locs ls hP hS hb hl) (fun hc => kf (by rw [if_neg hc] at hx; exact hx) p e s m args below meth c C H locs ls hP hS hb hl)
theorem V.if_ge {l : Launch} {G : GG} {EX : State → Prop} {M : MI} {rm : Room} {FIN : FT1} {k n pc q : Nat} {lv : List (Nat × Value)} {st : List Value} {h : FH} {α : Type} {A B : Option α} {r : α} {x : Int32} {off : Int} {tgt : Nat} (hx : (if 0 ≤ x then A else B) = some r) (hdg : decode M.2.1 pc = .ok (.ifCond .ge off, 3)) (ht : (pc : Int) + off = (tgt : Int)) (hq : pc + 3 = q) (kt : A = some r → V l G EX M rm FIN k n tgt lv st h) (kf : B = some r → V l G EX M rm FIN k n q lv st h) : V l G EX M rm FIN k n pc lv (.int x :: st) h := by
  subst hq
  intro p e s m args below meth c C H locs ls hP hS hb hl
  exact lv_if_ge C.1 C.2.1 hdg ht (fun hc => kt (by rw [if_pos hc] at hx; exact hx) p e s m args below meth c C H locs ls hP hS hb hl) (fun hc => kf (by rw [if_neg hc] at hx; exact hx) p e s m args below meth c C H locs ls hP hS hb hl)
theorem V.icmp_gt {l : Launch} {G : GG} {EX : State → Prop} {M : MI} {rm : Room} {FIN : FT1} {k n pc q : Nat} {lv : List (Nat × Value)} {st : List Value} {h : FH} {α : Type} {A B : Option α} {r : α} {x y : Int32} {off : Int} {tgt : Nat} (hx : (if y < x then A else B) = some r) (hdg : decode M.2.1 pc = .ok (.if_icmp .gt off, 3)) (ht : (pc : Int) + off = (tgt : Int)) (hq : pc + 3 = q) (kt : A = some r → V l G EX M rm FIN k n tgt lv st h) (kf : B = some r → V l G EX M rm FIN k n q lv st h) : V l G EX M rm FIN k n pc lv (.int y :: .int x :: st) h := by
  subst hq
  intro p e s m args below meth c C H locs ls hP hS hb hl
  exact lv_icmp_gt C.1 C.2.1 hdg ht (fun hc => kt (by rw [if_pos hc] at hx; exact hx) p e s m args below meth c C H locs ls hP hS hb hl) (fun hc => kf (by rw [if_neg hc] at hx; exact hx) p e s m args below meth c C H locs ls hP hS hb hl)
theorem V.if_gt {l : Launch} {G : GG} {EX : State → Prop} {M : MI} {rm : Room} {FIN : FT1} {k n pc q : Nat} {lv : List (Nat × Value)} {st : List Value} {h : FH} {α : Type} {A B : Option α} {r : α} {x : Int32} {off : Int} {tgt : Nat} (hx : (if 0 < x then A else B) = some r) (hdg : decode M.2.1 pc = .ok (.ifCond .gt off, 3)) (ht : (pc : Int) + off = (tgt : Int)) (hq : pc + 3 = q) (kt : A = some r → V l G EX M rm FIN k n tgt lv st h) (kf : B = some r → V l G EX M rm FIN k n q lv st h) : V l G EX M rm FIN k n pc lv (.int x :: st) h := by
  subst hq
  intro p e s m args below meth c C H locs ls hP hS hb hl
  exact lv_if_gt C.1 C.2.1 hdg ht (fun hc => kt (by rw [if_pos hc] at hx; exact hx) p e s m args below meth c C H locs ls hP hS hb hl) (fun hc => kf (by rw [if_neg hc] at hx; exact hx) p e s m args below meth c C H locs ls hP hS hb hl)
theorem V.icmp_le {l : Launch} {G : GG} {EX : State → Prop} {M : MI} {rm : Room} {FIN : FT1} {k n pc q : Nat} {lv : List (Nat × Value)} {st : List Value} {h : FH} {α : Type} {A B : Option α} {r : α} {x y : Int32} {off : Int} {tgt : Nat} (hx : (if x ≤ y then A else B) = some r) (hdg : decode M.2.1 pc = .ok (.if_icmp .le off, 3)) (ht : (pc : Int) + off = (tgt : Int)) (hq : pc + 3 = q) (kt : A = some r → V l G EX M rm FIN k n tgt lv st h) (kf : B = some r → V l G EX M rm FIN k n q lv st h) : V l G EX M rm FIN k n pc lv (.int y :: .int x :: st) h := by
  subst hq
  intro p e s m args below meth c C H locs ls hP hS hb hl
  exact lv_icmp_le C.1 C.2.1 hdg ht (fun hc => kt (by rw [if_pos hc] at hx; exact hx) p e s m args below meth c C H locs ls hP hS hb hl) (fun hc => kf (by rw [if_neg hc] at hx; exact hx) p e s m args below meth c C H locs ls hP hS hb hl)
theorem V.if_le {l : Launch} {G : GG} {EX : State → Prop} {M : MI} {rm : Room} {FIN : FT1} {k n pc q : Nat} {lv : List (Nat × Value)} {st : List Value} {h : FH} {α : Type} {A B : Option α} {r : α} {x : Int32} {off : Int} {tgt : Nat} (hx : (if x ≤ 0 then A else B) = some r) (hdg : decode M.2.1 pc = .ok (.ifCond .le off, 3)) (ht : (pc : Int) + off = (tgt : Int)) (hq : pc + 3 = q) (kt : A = some r → V l G EX M rm FIN k n tgt lv st h) (kf : B = some r → V l G EX M rm FIN k n q lv st h) : V l G EX M rm FIN k n pc lv (.int x :: st) h := by
  subst hq
  intro p e s m args below meth c C H locs ls hP hS hb hl
  exact lv_if_le C.1 C.2.1 hdg ht (fun hc => kt (by rw [if_pos hc] at hx; exact hx) p e s m args below meth c C H locs ls hP hS hb hl) (fun hc => kf (by rw [if_neg hc] at hx; exact hx) p e s m args below meth c C H locs ls hP hS hb hl)
theorem V.tableIn {l : Launch} {G : GG} {EX : State → Prop} {M : MI} {rm : Room} {FIN : FT1} {k n pc : Nat} {lv : List (Nat × Value)} {st : List Value} {h : FH} {dflt lo hi : Int} {offs : Array Int} {len : Nat} {x : Int32} {off : Int} {tgt : Nat} (hdg : decode M.2.1 pc = .ok (.tableswitch dflt lo hi offs, len)) (h1 : ¬ x.toInt < lo) (h2 : ¬ hi < x.toInt) (ho : offs[(x.toInt - lo).toNat]? = some off) (ht : (pc : Int) + off = (tgt : Int)) (kk : V l G EX M rm FIN k n tgt lv st h) : V l G EX M rm FIN k n pc lv (.int x :: st) h := by
  intro p e s m args below meth c C H locs ls hP hS hb hl
  exact lv_tableIn C.1 C.2.1 hdg h1 h2 ho ht (kk p e s m args below meth c C H locs ls hP hS hb hl)
theorem V.tableOut {l : Launch} {G : GG} {EX : State → Prop} {M : MI} {rm : Room} {FIN : FT1} {k n pc : Nat} {lv : List (Nat × Value)} {st : List Value} {h : FH} {dflt lo hi : Int} {offs : Array Int} {len : Nat} {x : Int32} {tgt : Nat} (hdg : decode M.2.1 pc = .ok (.tableswitch dflt lo hi offs, len)) (h1 : x.toInt < lo ∨ hi < x.toInt) (ht : (pc : Int) + dflt = (tgt : Int)) (kk : V l G EX M rm FIN k n tgt lv st h) : V l G EX M rm FIN k n pc lv (.int x :: st) h := by
  intro p e s m args below meth c C H locs ls hP hS hb hl
  exact lv_tableOut C.1 C.2.1 hdg h1 ht (kk p e s m args below meth c C H locs ls hP hS hb hl)
theorem V.lookup {l : Launch} {G : GG} {EX : State → Prop} {M : MI} {rm : Room} {FIN : FT1} {k n pc : Nat} {lv : List (Nat × Value)} {st : List Value} {h : FH} {dflt : Int} {ps : Array (Int × Int)} {len : Nat} {x : Int32} {off : Int} {tgt : Nat} (hdg : decode M.2.1 pc = .ok (.lookupswitch dflt ps, len)) (hp : (ps.toList.zip (ps.toList.drop 1)).all (fun (a, next) => a.1 < next.1) = true) (ho : Op.lookupswitch.offset ps.toList dflt x.toInt = off) (ht : (pc : Int) + off = (tgt : Int)) (kk : V l G EX M rm FIN k n tgt lv st h) : V l G EX M rm FIN k n pc lv (.int x :: st) h := by
  intro p e s m args below meth c C H locs ls hP hS hb hl
  exact lv_lookup C.1 C.2.1 hdg hp ho ht (kk p e s m args below meth c C H locs ls hP hS hb hl)
theorem V.ret0 {l : Launch} {G : GG} {EX : State → Prop} {M : MI} {rm : Room} {mc ms : Nat} {Qo : Option Value → FH → Prop} {k n pc : Nat} {lv : List (Nat × Value)} {h : FH} (hr : M.2.2.2 = none) (hk : k ≤ mc) (hn : n ≤ ms) (hdg : decode M.2.1 pc = .ok (.return_, 1)) (hq : Qo none h) : V l G EX M rm (FQ G Qo mc ms) k n pc lv [] h := by
  intro p e s m args below meth c C H locs ls hP hS hb hl
  exact W.widen hk hn (W.vret C.1 C.2.1 (C.2.2.2.1.trans hr) (fun t ht hW => ⟨⟨_, _, rfl, hq, by rw [ht]; exact hP⟩, hS.F ht⟩) hS.2.2 hdg C.2.2.2.2.1)
theorem V.retI {l : Launch} {G : GG} {EX : State → Prop} {M : MI} {rm : Room} {mc ms : Nat} {Qo : Option Value → FH → Prop} {k n pc : Nat} {lv : List (Nat × Value)} {h : FH} {v : Int32} {ty : FieldType} (hr : M.2.2.2 = some ty) (hv : narrow ty (.int v) = .int v) (hk : k ≤ mc) (hn : n ≤ ms) (hdg : decode M.2.1 pc = .ok (.ireturn, 1)) (hq : Qo (some (.int v)) h) : V l G EX M rm (FQ G Qo mc ms) k n pc lv [.int v] h := by
  intro p e s m args below meth c C H locs ls hP hS hb hl
  exact W.widen hk hn (W.zret C.1 C.2.1 (C.2.2.2.1.trans hr) hv (fun t ht hW => ⟨⟨_, _, rfl, hq, by rw [ht]; exact hP⟩, hS.F ht⟩) hS.2.2 hdg C.2.2.2.2.1)
theorem V.retJ {l : Launch} {G : GG} {EX : State → Prop} {M : MI} {rm : Room} {mc ms : Nat} {Qo : Option Value → FH → Prop} {k n pc : Nat} {lv : List (Nat × Value)} {h : FH} {v : Int64} (hr : M.2.2.2 = some .long) (hk : k ≤ mc) (hn : n ≤ ms) (hdg : decode M.2.1 pc = .ok (.lreturn, 1)) (hq : Qo (some (.long v)) h) : V l G EX M rm (FQ G Qo mc ms) k n pc lv [.long v] h := by
  intro p e s m args below meth c C H locs ls hP hS hb hl
  exact W.widen hk hn (W.lret C.1 C.2.1 (C.2.2.2.1.trans hr) (fun t ht hW => ⟨⟨_, _, rfl, hq, by rw [ht]; exact hP⟩, hS.F ht⟩) hS.2.2 hdg C.2.2.2.2.1)
theorem V.pick {l : Launch} {G : GG} {EX : State → Prop} {M : MI} {rm : Room} {FIN : FT1} {k n pc : Nat} {lv : List (Nat × Value)} {st : List Value} {h : FH} {lv2 : List (Nat × Value)} (ks : List Nat) (hv : lv_pick lv ks = lv2) (kk : V l G EX M rm FIN k n pc lv2 st h) : V l G EX M rm FIN k n pc lv st h := by
  intro p e s m args below meth c C H locs ls hP hS hb hl
  exact kk p e s m args below meth c C H locs ls hP hS hb (lv_sub hl ks hv)
theorem sw_case {α : Type} {P : Prop} {A B : Option α} {r : α} {x c : Int32} {ci : Int} (hx : (if x = c then A else B) = some r) (hci : c.toInt = ci) (ka : x.toInt = ci → A = some r → P) (kb : ¬ x.toInt = ci → B = some r → P) : P := by
  by_cases hc : x = c
  · rw [if_pos hc] at hx
    exact ka (by rw [hc, hci]) hx
  · rw [if_neg hc] at hx
    exact kb (fun q => hc (Int32.toInt_inj.mp (by rw [q, hci]))) hx
