/-! the six text constants, by number -/
def STRL : List (List Nat) := [[108, 97, 110, 100], [115, 104, 111, 119], [111, 102, 102], [119, 97, 116, 99, 104, 101, 114], [100, 111], [114, 101, 115, 116]]
def STRI : List Nat := [117, 123, 125, 127, 129, 131]
def sLen (w : Nat) : Int32 := Int32.ofNat (STRL.getD w []).length
def sAt (w : Nat) (i : Int32) : Option Int32 := oG (inb i (STRL.getD w []).length) (some (Int32.ofNat ((STRL.getD w []).getD (ix i) 0)))
def StrX (G : GG) (EX : State → Prop) : Prop := True
def EXB (G : GG) (EX : State → Prop) : Prop := EXok G EX ∧ StrX G EX
section STR
variable {l : Launch} {G : GG} {EX : State → Prop} {M : MI} {fr lo : Nat} {vo : Option Value} {h1 h : AH} {pc q : Nat} {lv : List (Nat × Value)} {st : List Value}
theorem U.ldcS {idx i : Nat} (hE : EXB G EX) (hdg : decode M.2.1 pc = .ok (.ldc idx, 2)) (hq : pc + 2 = q) (hi : STRI[i]? = some idx) (hM : M.1.cls = RX5)
    (kk : U l G EX M fr lo vo h1 q lv (.ref (G.2.2.2 i) :: st) h) : U l G EX M fr lo vo h1 pc lv st h := sorry
theorem U.slen {idx w : Nat} (hE : EXB G EX) (hml : Cond.methodLink M.1.cls idx yJ0_length_8abf5 ∈ WS) (hdg : decode M.2.1 pc = .ok (.invokevirtual idx, 3)) (hq : pc + 3 = q)
    (kk : U l G EX M fr lo vo h1 q lv (.int (sLen w) :: st) h) : U l G EX M fr lo vo h1 pc lv (.ref (G.2.2.2 w) :: st) h := sorry
theorem U.sat {idx w : Nat} {i v : Int32} (hE : EXB G EX) (hc : sAt w i = some v) (hml : Cond.methodLink M.1.cls idx yJ0_charAt_5068e ∈ WS) (hdg : decode M.2.1 pc = .ok (.invokevirtual idx, 3)) (hq : pc + 3 = q)
    (kk : U l G EX M fr lo vo h1 q lv (.int v :: st) h) : U l G EX M fr lo vo h1 pc lv (.int i :: .ref (G.2.2.2 w) :: st) h := sorry
end STR
