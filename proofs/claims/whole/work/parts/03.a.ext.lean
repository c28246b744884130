/-! what each method answers and does to the world, out of its bytecode by program (wip/whole/gen.py): none where it would leave its rows or run too long -/
/-- how long a loop may run -/
def FU : Nat := 1000000
def fX2_makeEmpty (th : Nat) (h : AH) : Option (AH) :=
  oL (sI h th 0 (0 : Int32)) fun h1 => oL (sI h1 th 1 (0 : Int32)) fun h2 => oL (sI h2 th 2 (0 : Int32)) fun h3 => oL (sI h3 th 3 (0 : Int32)) fun h4 => some h4
def fX0_makeEmpty (th : Nat) (h : AH) : Option (AH) :=
  ob (fX2_makeEmpty (PC th 0) h) fun h2 => oL (sI h2 (PC th 1) 1 (0 : Int32)) fun h3 => oL (sI h3 (PC th 2) 1 (0 : Int32)) fun h4 => oL (sI h4 (PC th 3) 1 (0 : Int32)) fun h5 => oL (sI h5 (PC th 4) 1 (0 : Int32)) fun h6 => some h6
def fX8_land (th : Nat) (h : AH) : Option (Int32 × AH) :=
  oL (hI h (PC (PC th 0) 0) 3) fun v1 => ob (fX0_makeEmpty (PC th 0) h) fun h3 => some (v1, h3)
def fX8_within (a0 : Int32) (a1 : Int32) (a2 : Int32) : Option (Int32) :=
  if a0 < a1 then some (0 : Int32) else if a2 < a0 then some (0 : Int32) else some (1 : Int32)
def fX8_isKind (a0 : Int32) : Option (Int32) :=
  ob (fX8_within a0 (0 : Int32) (5 : Int32)) fun v2 => oG (isB v2) (some v2)
def fX8_isCell (a0 : Int32) : Option (Int32) :=
  ob (fX8_within a0 (0 : Int32) (29 : Int32)) fun v2 => oG (isB v2) (some v2)
def fX8_isLoud (a0 : Int32) : Option (Int32) :=
  ob (fX8_within a0 (1 : Int32) (9 : Int32)) fun v2 => oG (isB v2) (some v2)
def fX8_refuse (th : Nat) (a1 : Int32) (h : AH) : Option (Int32 × AH) :=
  if a1 = (-2 : Int32) then oL (sI h th 10 ((hI h th 10) + (1 : Int32))) fun h3 => some (a1, h3) else if a1 = (-3 : Int32) then oL (sI h th 11 ((hI h th 11) + (1 : Int32))) fun h2 => some (a1, h2) else oL (sI h th 12 ((hI h th 12) + (1 : Int32))) fun h1 => some (a1, h1)
def fX2_addShow (th : Nat) (a1 : Int32) (a2 : Int32) (a3 : Int32) (h : AH) : Option (Int32 × AH) :=
  if (hI h th 2) < (5 : Int32) then oG (inb (hI h th 2) (SZ (PC th 4))) (oL (sI h (PC th 4) (ix (hI h th 2)) a1) fun h1 => oG (inb (hI h1 th 2) (SZ (PC th 5))) (oL (sI h1 (PC th 5) (ix (hI h1 th 2)) a2) fun h2 => oG (inb (hI h2 th 2) (SZ (PC th 6))) (oL (sI h2 (PC th 6) (ix (hI h2 th 2)) a3) fun h3 => oG (inb (hI h3 th 2) (SZ (PC th 7))) (oL (sI h3 (PC th 7) (ix (hI h3 th 2)) (1 : Int32)) fun h4 => oL (sI h4 th 2 ((hI h4 th 2) + (1 : Int32))) fun h5 => some ((hI h4 th 2), h5))))) else some ((-1 : Int32), h)
def fX8_show_21 (l0 : Nat) (h : AH) : Option (Int32 × AH) :=
  ob2 (fX8_refuse l0 (-2 : Int32) h) fun v5 h4 => some (v5, h4)
def fX8_show (th : Nat) (a1 : Int32) (a2 : Int32) (a3 : Int32) (h : AH) : Option (Int32 × AH) :=
  ob (fX8_isKind a1) fun v2 => if v2 = 0 then fX8_show_21 th h else ob (fX8_isCell a2) fun v7 => if v7 = 0 then fX8_show_21 th h else ob (fX8_isLoud a3) fun v9 => if v9 = 0 then fX8_show_21 th h else if (hI h (PC (PC th 0) 0) 2) < (5 : Int32) then oL (sI h (PC (PC th 0) 1) 1 (0 : Int32)) fun h10 => ob2 (fX2_addShow (PC (PC th 0) 0) a1 a2 a3 h10) fun v13 h12 => some (v13, h12) else ob2 (fX8_refuse th (-4 : Int32) h) fun v16 h15 => some (v16, h15)
def fX2_addWatcher (th : Nat) (a1 : Int32) (a2 : Int32) (h : AH) : Option (Int32 × AH) :=
  if (hI h th 3) < (6 : Int32) then oG (inb (hI h th 3) (SZ (PC th 8))) (oL (sI h (PC th 8) (ix (hI h th 3)) a1) fun h1 => oG (inb (hI h1 th 3) (SZ (PC th 9))) (oL (sI h1 (PC th 9) (ix (hI h1 th 3)) a2) fun h2 => oG (inb (hI h2 th 3) (SZ (PC th 10))) (oL (sI h2 (PC th 10) (ix (hI h2 th 3)) (0 : Int32)) fun h3 => oL (sI h3 th 3 ((hI h3 th 3) + (1 : Int32))) fun h4 => some ((hI h3 th 3), h4)))) else some ((-1 : Int32), h)
def fX8_watcher_14 (l0 : Nat) (h : AH) : Option (Int32 × AH) :=
  ob2 (fX8_refuse l0 (-2 : Int32) h) fun v5 h4 => some (v5, h4)
def fX8_watcher (th : Nat) (a1 : Int32) (a2 : Int32) (h : AH) : Option (Int32 × AH) :=
  ob (fX8_isKind a1) fun v2 => if v2 = 0 then fX8_watcher_14 th h else ob (fX8_isCell a2) fun v7 => if v7 = 0 then fX8_watcher_14 th h else if (hI h (PC (PC th 0) 0) 3) < (6 : Int32) then oL (sI h (PC (PC th 0) 1) 1 (0 : Int32)) fun h8 => ob2 (fX2_addWatcher (PC (PC th 0) 0) a1 a2 h8) fun v11 h10 => some (v11, h10) else ob2 (fX8_refuse th (-4 : Int32) h) fun v14 h13 => some (v14, h13)
def fX5_append (th : Nat) (a1 : Int32) (h : AH) : Option (AH) :=
  if (150 : Int32) ≤ (hI h th 3) then some h else oG (inb (hI h th 3) (SZ (PC th 0))) (oL (sI h (PC th 0) (ix (hI h th 3)) a1) fun h1 => oL (sI h1 th 3 ((hI h1 th 3) + (1 : Int32))) fun h2 => some h2)
def fX8_type (th : Nat) (a1 : Int32) (h : AH) : Option (Int32 × AH) :=
  ob (fX8_within a1 (0 : Int32) (127 : Int32)) fun v2 => if v2 = 0 then ob2 (fX8_refuse th (-2 : Int32) h) fun v10 h9 => some (v10, h9) else if (hI h (PC th 5) 3) < (150 : Int32) then ob (fX5_append (PC th 5) a1 h) fun h4 => some ((hI h4 (PC th 5) 3), h4) else ob2 (fX8_refuse th (-4 : Int32) h) fun v7 h6 => some (v7, h6)
def fX8_clear (th : Nat) (h : AH) : Option (Int32 × AH) :=
  oL (hI h (PC th 5) 3) fun v1 => oL (sI h (PC th 5) 3 (0 : Int32)) fun h2 => some (v1, h2)
def fX5_byteAt (th : Nat) (a1 : Int32) (h : AH) : Option (Int32) :=
  if a1 < 0 then some (-1 : Int32) else if (hI h th 3) ≤ a1 then some (-1 : Int32) else if (Int32.ofNat (SZ (PC th 0))) ≤ a1 then some (-1 : Int32) else oG (inb a1 (SZ (PC th 0))) (some (hI h (PC th 0) (ix a1)))
def fX5_isLetterAt (th : Nat) (a1 : Int32) (h : AH) : Option (Int32) :=
  ob (fX5_byteAt th a1 h) fun v2 => if v2 < (97 : Int32) then some (0 : Int32) else ob (fX5_byteAt th a1 h) fun v4 => if (122 : Int32) < v4 then some (0 : Int32) else some (1 : Int32)
def fX5_wordEnd_2 (h : AH) : Nat → Nat → Int32 → Option (Int32)
  | 0, _, _ => none
  | n + 1, l0, l2 => if (hI h l0 3) ≤ l2 then some l2 else ob (fX5_isLetterAt l0 l2 h) fun v2 => if v2 = 0 then some l2 else oL (l2 + (1 : Int32)) fun v3 => fX5_wordEnd_2 h n l0 v3
def fX5_wordEnd (th : Nat) (a1 : Int32) (h : AH) : Option (Int32) :=
  fX5_wordEnd_2 h FU th a1
def fX5_isWord_20 (h : AH) : Nat → Nat → Nat → Int32 → Option (Int32)
  | 0, _, _, _ => none
  | n + 1, l0, l1, l2 => oG (decide (l1 < 6)) (if (sLen l1) ≤ l2 then some (1 : Int32) else ob (fX5_byteAt l0 ((hI h l0 6) + l2) h) fun v4 => ob (sAt l1 l2) fun v5 => if v4 = v5 then oL (l2 + (1 : Int32)) fun v7 => fX5_isWord_20 h n l0 l1 v7 else some (0 : Int32))
def fX5_isWord (th : Nat) (a1 : Nat) (h : AH) : Option (Int32) :=
  oG (decide (a1 < 6)) (if ((hI h th 4) - (hI h th 6)) = (sLen a1) then fX5_isWord_20 h FU th a1 (0 : Int32) else some (0 : Int32))
def fX5_wordNumber (th : Nat) (h : AH) : Option (Int32) :=
  ob (fX5_isWord th 0 h) fun v2 => if v2 = 0 then ob (fX5_isWord th 1 h) fun v4 => if v4 = 0 then ob (fX5_isWord th 2 h) fun v6 => if v6 = 0 then ob (fX5_isWord th 3 h) fun v8 => if v8 = 0 then ob (fX5_isWord th 4 h) fun v10 => if v10 = 0 then ob (fX5_isWord th 5 h) fun v12 => if v12 = 0 then some (-1 : Int32) else some (5 : Int32) else some (4 : Int32) else some (3 : Int32) else some (2 : Int32) else some (1 : Int32) else some (0 : Int32)
def fX5_isFigureAt (th : Nat) (a1 : Int32) (h : AH) : Option (Int32) :=
  ob (fX5_byteAt th a1 h) fun v2 => if v2 < (48 : Int32) then some (0 : Int32) else ob (fX5_byteAt th a1 h) fun v4 => if (57 : Int32) < v4 then some (0 : Int32) else some (1 : Int32)
def fX5_takeNumber_82 (s0 : Nat) (s1 : Int32) (h : AH) : Option (AH) :=
  oL (sI h s0 5 s1) fun h2 => some h2
def fX5_takeNumber_63 (l0 : Nat) (h : AH) : Option (AH) :=
  if (2 : Int32) < ((hI h l0 4) - (hI h l0 6)) then fX5_takeNumber_82 l0 (4 : Int32) h else fX5_takeNumber_82 l0 (2 : Int32) h
def fX5_takeNumber_5 : Nat → Nat → AH → Option (AH)
  | 0, _, _ => none
  | n + 1, l0, h => if (hI h l0 3) ≤ (hI h l0 4) then fX5_takeNumber_63 l0 h else ob (fX5_isFigureAt l0 (hI h l0 4) h) fun v4 => if v4 = 0 then fX5_takeNumber_63 l0 h else ob (fX5_byteAt l0 (hI h l0 4) h) fun v6 => oL (sI h l0 7 ((((hI h l0 7) * (10 : Int32)) + v6) - (48 : Int32))) fun h7 => oL (sI h7 l0 4 ((hI h7 l0 4) + (1 : Int32))) fun h8 => fX5_takeNumber_5 n l0 h8
def fX5_takeNumber (th : Nat) (h : AH) : Option (AH) :=
  oL (sI h th 7 (0 : Int32)) fun h1 => fX5_takeNumber_5 FU th h1
def fX5_advance_140 (l0 : Nat) (s0 : Nat) (s1 : Int32) (h : AH) : Option (AH) :=
  oL (sI h s0 5 s1) fun h8 => oL (sI h8 l0 4 ((hI h8 l0 4) + (1 : Int32))) fun h9 => some h9
def fX5_advance_37 (l0 : Nat) (h : AH) : Option (AH) :=
  oL (sI h l0 6 (hI h l0 4)) fun h1 => if (hI h1 l0 4) < (hI h1 l0 3) then ob (fX5_isLetterAt l0 (hI h1 l0 4) h1) fun v3 => if v3 = 0 then ob (fX5_isFigureAt l0 (hI h1 l0 4) h1) fun v5 => if v5 = 0 then ob (fX5_byteAt l0 (hI h1 l0 4) h1) fun v7 => if v7 = (59 : Int32) then fX5_advance_140 l0 l0 (3 : Int32) h1 else fX5_advance_140 l0 l0 (4 : Int32) h1 else ob (fX5_takeNumber l0 h1) fun h11 => some h11 else oL (sI h1 l0 5 (1 : Int32)) fun h12 => ob (fX5_wordEnd l0 (hI h12 l0 4) h12) fun v14 => oL (sI h12 l0 4 v14) fun h15 => ob (fX5_wordNumber l0 h15) fun v17 => oL (sI h15 l0 7 v17) fun h18 => some h18 else oL (sI h1 l0 5 (0 : Int32)) fun h19 => some h19
def fX5_advance_0 : Nat → Nat → AH → Option (AH)
  | 0, _, _ => none
  | n + 1, l0, h => if (hI h l0 3) ≤ (hI h l0 4) then fX5_advance_37 l0 h else ob (fX5_byteAt l0 (hI h l0 4) h) fun v21 => if v21 = (32 : Int32) then oL (sI h l0 4 ((hI h l0 4) + (1 : Int32))) fun h22 => fX5_advance_0 n l0 h22 else fX5_advance_37 l0 h
def fX5_advance (th : Nat) (h : AH) : Option (AH) :=
  fX5_advance_0 FU th h
def fX5_mayStand_8 (h : AH) (l0 : Int32) (l1 : Int32) : Option (Int32) :=
  if l1 = 0 then some (0 : Int32) else if l0 = 0 then some (1 : Int32) else some (0 : Int32)
def fX5_mayStand (a0 : Int32) (a1 : Int32) (a2 : Nat) (h : AH) : Option (Int32) :=
  if a1 = 0 then if a0 = 0 then fX5_mayStand_8 h a0 a1 else if a0 = (1 : Int32) then if (5 : Int32) ≤ (hI h a2 2) then some (0 : Int32) else some (1 : Int32) else if a0 = (3 : Int32) then if (6 : Int32) ≤ (hI h a2 3) then some (0 : Int32) else some (1 : Int32) else if a0 = (-1 : Int32) then some (0 : Int32) else some (1 : Int32) else fX5_mayStand_8 h a0 a1
def fX5_numbersBehind (a0 : Int32) : Option (Int32) :=
  if a0 = (0 : Int32) then some (0 : Int32) else if a0 = (1 : Int32) then some (3 : Int32) else if a0 = (2 : Int32) then some (1 : Int32) else if a0 = (3 : Int32) then some (2 : Int32) else some (1 : Int32)
def fX5_least_15 : Option (Int32) :=
  some (1 : Int32)
def fX5_least (a0 : Int32) (a1 : Int32) : Option (Int32) :=
  if a0 = (5 : Int32) then fX5_least_15 else if a0 = (1 : Int32) then if a1 = (2 : Int32) then fX5_least_15 else some (0 : Int32) else some (0 : Int32)
def fX5_most (a0 : Int32) (a1 : Int32) (a2 : Int32) : Option (Int32) :=
  if a0 = (1 : Int32) then if a1 = 0 then some (5 : Int32) else if a1 = (1 : Int32) then some (29 : Int32) else some (9 : Int32) else if a0 = (2 : Int32) then some (a2 - (1 : Int32)) else if a0 = (3 : Int32) then if a1 = 0 then some (5 : Int32) else some (29 : Int32) else if a0 = (4 : Int32) then some (29 : Int32) else some (99 : Int32)
def fX5_takeItem_116 (l0 : Nat) (h : AH) : Option (Int32 × AH) :=
  ob (fX5_advance l0 h) fun h7 => if (hI h7 l0 5) = (3 : Int32) then some ((1 : Int32), h7) else some ((0 : Int32), h7)
def fX5_takeItem_32 : Nat → Nat → Nat → Int32 → AH → Option (Int32 × AH)
  | 0, _, _, _, _ => none
  | n + 1, l0, l2, l3, h => ob (fX5_numbersBehind (hI h l0 1)) fun v5 => if v5 ≤ l3 then fX5_takeItem_116 l0 h else if (Int32.ofNat (SZ (PC l0 2))) ≤ l3 then fX5_takeItem_116 l0 h else ob (fX5_advance l0 h) fun h9 => if (hI h9 l0 5) = (2 : Int32) then ob (fX5_least (hI h9 l0 1) l3) fun v11 => if (hI h9 l0 7) < v11 then some ((0 : Int32), h9) else ob (fX5_most (hI h9 l0 1) l3 (hI h9 l2 2)) fun v13 => if (hI h9 l0 7) ≤ v13 then oG (inb l3 (SZ (PC l0 2))) (oL (sI h9 (PC l0 2) (ix l3) (hI h9 l0 7)) fun h14 => oL (l3 + (1 : Int32)) fun v15 => fX5_takeItem_32 n l0 l2 v15 h14) else some ((0 : Int32), h9) else some ((0 : Int32), h9)
def fX5_takeItem (th : Nat) (a1 : Int32) (a2 : Nat) (h : AH) : Option (Int32 × AH) :=
  if (hI h th 5) = (1 : Int32) then ob (fX5_mayStand (hI h th 7) a1 a2 h) fun v2 => if v2 = 0 then some ((0 : Int32), h) else oL (sI h th 1 (hI h th 7)) fun h3 => fX5_takeItem_32 FU th a2 (0 : Int32) h3 else some ((0 : Int32), h)
def fX2_hasShow (th : Nat) (a1 : Int32) (h : AH) : Option (Int32) :=
  if a1 < 0 then some (0 : Int32) else if (hI h th 2) ≤ a1 then some (0 : Int32) else some (1 : Int32)
def fX2_onBits_4 (h : AH) : Nat → Nat → Int32 → Int32 → Option (Int32)
  | 0, _, _, _ => none
  | n + 1, l0, l1, l2 => if (hI h l0 2) ≤ l2 then some l1 else oG (inb l2 (SZ (PC l0 7))) (oL (l1 ||| (jshl (hI h (PC l0 7) (ix l2)) l2)) fun v1 => oL (l2 + (1 : Int32)) fun v2 => fX2_onBits_4 h n l0 v1 v2)
def fX2_onBits (th : Nat) (h : AH) : Option (Int32) :=
  fX2_onBits_4 h FU th (0 : Int32) (0 : Int32)
def fX2_dayStep (th : Nat) (a1 : Int32) (h : AH) : Option (Int32) :=
  some (jrem ((hI h th 0) + a1) (12 : Int32))
def fX8_far (a0 : Int32) (a1 : Int32) : Option (Int32) :=
  some ((jabs ((a0 / (6 : Int32)) - (a1 / (6 : Int32)))) + (jabs ((jrem a0 (6 : Int32)) - (jrem a1 (6 : Int32)))))
def fX1_pullBy_39 (l0 : Int32) (l3 : Int32) (l4 : Int32) (l5 : Int32) (s0 : Int32) : Option (Int32) :=
  oL (jmin (30 : Int32) ((2 : Int32) * l5)) fun v2 => if l0 = (1 : Int32) then some l5 else if l0 = (2 : Int32) then some s0 else if l0 = (3 : Int32) then some v2 else if l0 = (4 : Int32) then if l3 < (6 : Int32) then some (0 : Int32) else some v2 else if l0 = (5 : Int32) then if s0 < (1 : Int32) then some s0 else some (s0 + (1 : Int32)) else some l4
def fX1_pullBy_26 (l0 : Int32) (l2 : Int32) (l3 : Int32) (l4 : Int32) (s0 : Int32) : Option (Int32) :=
  if l2 ≤ (5 : Int32) then fX1_pullBy_39 l0 l3 l4 s0 l4 else fX1_pullBy_39 l0 l3 l4 s0 (0 : Int32)
def fX1_pullBy (a0 : Int32) (a1 : Int32) (a2 : Int32) (a3 : Int32) : Option (Int32) :=
  oL (jmax (0 : Int32) (((2 : Int32) * a1) - a2)) fun v1 => if (jrem a3 (2 : Int32)) = 0 then fX1_pullBy_26 a0 a2 a3 v1 (v1 + (3 : Int32)) else fX1_pullBy_26 a0 a2 a3 v1 v1
def fX2_greatestPull_6 (h : AH) : Nat → Nat → Int32 → Int32 → Int32 → Int32 → Int32 → Option (Int32)
  | 0, _, _, _, _, _, _ => none
  | n + 1, l0, l1, l2, l3, l4, l5 => if (hI h l0 2) ≤ l5 then some l4 else if ((jshr l1 l5) &&& (1 : Int32)) = (1 : Int32) then oG (inb l5 (SZ (PC l0 5))) (ob (fX8_far (hI h (PC l0 5) (ix l5)) l2) fun v3 => oG (inb l5 (SZ (PC l0 4))) (oG (inb l5 (SZ (PC l0 6))) (ob (fX1_pullBy (hI h (PC l0 4) (ix l5)) (hI h (PC l0 6) (ix l5)) v3 l3) fun v5 => oL (jmax l4 v5) fun v6 => oL (l5 + (1 : Int32)) fun v7 => fX2_greatestPull_6 h n l0 l1 l2 l3 v6 v7))) else oL (l5 + (1 : Int32)) fun v1 => fX2_greatestPull_6 h n l0 l1 l2 l3 l4 v1
def fX2_greatestPull (th : Nat) (a1 : Int32) (a2 : Int32) (a3 : Int32) (h : AH) : Option (Int32) :=
  fX2_greatestPull_6 h FU th a1 a2 a3 (0 : Int32) (0 : Int32)
def fX7_gauge_3 : Nat → Nat → Nat → Int32 → Int32 → Int32 → AH → Option (AH)
  | 0, _, _, _, _, _, _ => none
  | n + 1, l0, l1, l2, l3, l4, h => if (hI h l1 3) ≤ l4 then some h else oG (inb l4 (SZ (PC l1 9))) (ob (fX2_greatestPull l1 l2 (hI h (PC l1 9) (ix l4)) l3 h) fun v2 => oG (inb l4 (SZ (PC l0 0))) (oL (sI h (PC l0 0) (ix l4) v2) fun h3 => oL (l4 + (1 : Int32)) fun v4 => fX7_gauge_3 n l0 l1 l2 l3 v4 h3))
def fX7_gauge (th : Nat) (a1 : Nat) (a2 : Int32) (a3 : Int32) (h : AH) : Option (AH) :=
  fX7_gauge_3 FU th a1 a2 a3 (0 : Int32) h
def fX1_notesBy (a0 : Int32) (a1 : Int32) : Option (Int32) :=
  oL (jmax (0 : Int32) ((12 : Int32) - ((2 : Int32) * a1))) fun v1 => if a0 = (3 : Int32) then some (v1 + (4 : Int32)) else if a0 = (5 : Int32) then some ((v1 + (1 : Int32)) / (2 : Int32)) else some v1
def fX1_drawnBy (a0 : Int32) (a1 : Int32) : Option (Int32) :=
  oL ((2 : Int32) * a1) fun v1 => oL (v1 + (2 : Int32)) fun v2 => if a0 = (1 : Int32) then some v1 else if a0 = (2 : Int32) then some (0 : Int32) else if a0 = (3 : Int32) then some a1 else if a0 = (4 : Int32) then some v2 else if a0 = (5 : Int32) then some (v2 / (2 : Int32)) else some a1
def fX1_seesBy (a0 : Int32) (a1 : Int32) (a2 : Int32) : Option (Int32) :=
  ob (fX1_notesBy a0 a1) fun v2 => ob (fX1_drawnBy a0 a2) fun v4 => if v2 ≤ v4 then some (0 : Int32) else some (1 : Int32)
def fX7_witnesses_5 (h : AH) : Nat → Nat → Nat → Int32 → Int32 → Int32 → Option (Int32)
  | 0, _, _, _, _, _ => none
  | n + 1, l0, l1, l2, l3, l4 => if (hI h l1 3) ≤ l4 then some l3 else oG (inb l4 (SZ (PC l1 8))) (oG (inb l4 (SZ (PC l1 9))) (ob (fX8_far (hI h (PC l1 9) (ix l4)) l2) fun v2 => oG (inb l4 (SZ (PC l0 0))) (ob (fX1_seesBy (hI h (PC l1 8) (ix l4)) v2 (hI h (PC l0 0) (ix l4))) fun v4 => if v4 = 0 then oL (l4 + (1 : Int32)) fun v5 => fX7_witnesses_5 h n l0 l1 l2 l3 v5 else oL (l3 ||| (jshl (1 : Int32) l4)) fun v6 => oL (l4 + (1 : Int32)) fun v7 => fX7_witnesses_5 h n l0 l1 l2 v6 v7)))
def fX7_witnesses (th : Nat) (a1 : Nat) (a2 : Int32) (h : AH) : Option (Int32) :=
  fX7_witnesses_5 h FU th a1 a2 (0 : Int32) (0 : Int32)
def fX2_pass (th : Nat) (a1 : Int32) (h : AH) : Option (AH) :=
  oL (sI h th 0 (jmin (9999 : Int32) ((hI h th 0) + a1))) fun h1 => some h1
def fX7_doingIn_55 (l1 : Nat) (l3 : Int32) (h : AH) : Option (Int32 × AH) :=
  oL (sI h l1 1 ((hI h l1 1) + (1 : Int32))) fun h9 => ob (fX2_pass l1 (1 : Int32) h9) fun h11 => some (l3, h11)
def fX7_doingIn_24 : Nat → Nat → Int32 → Int32 → AH → Option (Int32 × AH)
  | 0, _, _, _, _ => none
  | n + 1, l1, l3, l4, h => if (hI h l1 3) ≤ l4 then fX7_doingIn_55 l1 l3 h else oG (inb l4 (SZ (PC l1 10))) (oG (inb l4 (SZ (PC l1 10))) (oL (sI h (PC l1 10) (ix l4) ((hI h (PC l1 10) (ix l4)) + ((jshr l3 l4) &&& (1 : Int32)))) fun h12 => oL (l4 + (1 : Int32)) fun v13 => fX7_doingIn_24 n l1 l3 v13 h12))
def fX7_doingIn (th : Nat) (a1 : Nat) (a2 : Int32) (h : AH) : Option (Int32 × AH) :=
  ob (fX2_onBits a1 h) fun v2 => ob (fX2_dayStep a1 (0 : Int32) h) fun v4 => ob (fX7_gauge th a1 v2 v4 h) fun h6 => ob (fX7_witnesses th a1 a2 h6) fun v8 => fX7_doingIn_24 FU a1 v8 (0 : Int32) h6
def fX5_carryOut (th : Nat) (a1 : Nat) (a2 : Nat) (h : AH) : Option (AH) :=
  oL (hI h th 1) fun v1 => if v1 = (1 : Int32) then oG (inb (0 : Int32) (SZ (PC th 2))) (oG (inb (1 : Int32) (SZ (PC th 2))) (oG (inb (2 : Int32) (SZ (PC th 2))) (ob2 (fX2_addShow a1 (hI h (PC th 2) (ix (0 : Int32))) (hI h (PC th 2) (ix (1 : Int32))) (hI h (PC th 2) (ix (2 : Int32))) h) fun v4 h3 => some h3))) else if v1 = (2 : Int32) then oG (inb (0 : Int32) (SZ (PC th 2))) (ob (fX2_hasShow a1 (hI h (PC th 2) (ix (0 : Int32))) h) fun v7 => if v7 = 0 then some h else oG (inb (0 : Int32) (SZ (PC th 2))) (oG (inb (hI h (PC th 2) (ix (0 : Int32))) (SZ (PC a1 7))) (oL (sI h (PC a1 7) (ix (hI h (PC th 2) (ix (0 : Int32)))) (0 : Int32)) fun h8 => some h8))) else if v1 = (3 : Int32) then oG (inb (0 : Int32) (SZ (PC th 2))) (oG (inb (1 : Int32) (SZ (PC th 2))) (ob2 (fX2_addWatcher a1 (hI h (PC th 2) (ix (0 : Int32))) (hI h (PC th 2) (ix (1 : Int32))) h) fun v12 h11 => some h11)) else if v1 = (4 : Int32) then oG (inb (0 : Int32) (SZ (PC th 2))) (ob2 (fX7_doingIn a2 a1 (hI h (PC th 2) (ix (0 : Int32))) h) fun v16 h15 => some h15) else if v1 = (5 : Int32) then oG (inb (0 : Int32) (SZ (PC th 2))) (ob (fX2_pass a1 (hI h (PC th 2) (ix (0 : Int32))) h) fun h19 => some h19) else some h
def fX5_readInto_68 (l0 : Nat) (h : AH) : Option (Int32 × AH) :=
  some (((-10 : Int32) - (hI h l0 6)), h)
def fX5_readInto_53 (l0 : Nat) (h : AH) : Option (Int32 × AH) :=
  fX5_readInto_68 l0 h
def fX5_readInto_46 (k11 : Nat → Nat → Nat → Int32 → AH → Option (Int32 × AH)) (l0 : Nat) (l1 : Nat) (l2 : Nat) (l3 : Int32) (s0 : Nat) (s1 : Int32) (h : AH) : Option (Int32 × AH) :=
  ob2 (fX5_takeItem s0 s1 l1 h) fun v8 h7 => if v8 = 0 then fX5_readInto_53 l0 h7 else ob (fX5_carryOut l0 l1 l2 h7) fun h10 => oL (l3 + (1 : Int32)) fun v11 => k11 l0 l1 l2 v11 h10
def fX5_readInto_36 (k11 : Nat → Nat → Nat → Int32 → AH → Option (Int32 × AH)) (l0 : Nat) (l1 : Nat) (l2 : Nat) (l3 : Int32) (h : AH) : Option (Int32 × AH) :=
  if l3 = 0 then fX5_readInto_46 k11 l0 l1 l2 l3 l0 (1 : Int32) h else fX5_readInto_46 k11 l0 l1 l2 l3 l0 (0 : Int32) h
def fX5_readInto_11 : Nat → Nat → Nat → Nat → Int32 → AH → Option (Int32 × AH)
  | 0, _, _, _, _, _ => none
  | n + 1, l0, l1, l2, l3, h => if (hI h l0 3) < l3 then fX5_readInto_68 l0 h else ob (fX5_advance l0 h) fun h5 => if (hI h5 l0 5) = 0 then if l3 ≤ 0 then fX5_readInto_36 (fX5_readInto_11 n) l0 l1 l2 l3 h5 else some (l3, h5) else fX5_readInto_36 (fX5_readInto_11 n) l0 l1 l2 l3 h5
def fX5_readInto (th : Nat) (a1 : Nat) (a2 : Nat) (h : AH) : Option (Int32 × AH) :=
  oL (sI h th 4 (0 : Int32)) fun h1 => ob (fX2_makeEmpty a1 h1) fun h3 => fX5_readInto_11 FU th a1 a2 (0 : Int32) h3
def fX2_copyOf_98 : Nat → Nat → Nat → Int32 → AH → Option (AH)
  | 0, _, _, _, _ => none
  | n + 1, l0, l1, l2, h => if (hI h l0 3) ≤ l2 then some h else oG (inb l2 (SZ (PC l1 8))) (oG (inb l2 (SZ (PC l0 8))) (oL (sI h (PC l0 8) (ix l2) (hI h (PC l1 8) (ix l2))) fun h5 => oG (inb l2 (SZ (PC l1 9))) (oG (inb l2 (SZ (PC l0 9))) (oL (sI h5 (PC l0 9) (ix l2) (hI h5 (PC l1 9) (ix l2))) fun h6 => oG (inb l2 (SZ (PC l1 10))) (oG (inb l2 (SZ (PC l0 10))) (oL (sI h6 (PC l0 10) (ix l2) (hI h6 (PC l1 10) (ix l2))) fun h7 => oL (l2 + (1 : Int32)) fun v8 => fX2_copyOf_98 n l0 l1 v8 h7))))))
def fX2_copyOf_96 (l0 : Nat) (l1 : Nat) (h : AH) : Option (AH) :=
  fX2_copyOf_98 FU l0 l1 (0 : Int32) h
def fX2_copyOf_34 : Nat → Nat → Nat → Int32 → AH → Option (AH)
  | 0, _, _, _, _ => none
  | n + 1, l0, l1, l2, h => if (hI h l0 2) ≤ l2 then fX2_copyOf_96 l0 l1 h else oG (inb l2 (SZ (PC l1 4))) (oG (inb l2 (SZ (PC l0 4))) (oL (sI h (PC l0 4) (ix l2) (hI h (PC l1 4) (ix l2))) fun h9 => oG (inb l2 (SZ (PC l1 5))) (oG (inb l2 (SZ (PC l0 5))) (oL (sI h9 (PC l0 5) (ix l2) (hI h9 (PC l1 5) (ix l2))) fun h10 => oG (inb l2 (SZ (PC l1 6))) (oG (inb l2 (SZ (PC l0 6))) (oL (sI h10 (PC l0 6) (ix l2) (hI h10 (PC l1 6) (ix l2))) fun h11 => oG (inb l2 (SZ (PC l1 7))) (oG (inb l2 (SZ (PC l0 7))) (oL (sI h11 (PC l0 7) (ix l2) (hI h11 (PC l1 7) (ix l2))) fun h12 => oL (l2 + (1 : Int32)) fun v13 => fX2_copyOf_34 n l0 l1 v13 h12))))))))
def fX2_copyOf (th : Nat) (a1 : Nat) (h : AH) : Option (AH) :=
  oL (sI h th 0 (hI h a1 0)) fun h1 => oL (sI h1 th 1 (hI h1 a1 1)) fun h2 => oL (sI h2 th 2 (hI h2 a1 2)) fun h3 => oL (sI h3 th 3 (hI h3 a1 3)) fun h4 => fX2_copyOf_34 FU th a1 (0 : Int32) h4
def fX8_read (th : Nat) (h : AH) : Option (Int32 × AH) :=
  ob2 (fX5_readInto (PC th 5) (PC th 3) (PC th 4) h) fun v3 h2 => if 0 ≤ v3 then ob (fX0_makeEmpty (PC th 0) h2) fun h5 => ob (fX2_copyOf (PC (PC th 0) 0) (PC th 3) h5) fun h7 => some (v3, h7) else some (v3, h2)
def fX3_dropOldest_38 (l0 : Nat) (l1 : Nat) (h : AH) : Option (AH) :=
  oG (inb ((Int32.ofNat (SZ (PC l0 0))) - (1 : Int32)) (SZ (PC l0 0))) (oL (sQ h (PC l0 0) (ix ((Int32.ofNat (SZ (PC l0 0))) - (1 : Int32))) l1) fun h2 => oL (sI h2 l0 1 ((Int32.ofNat (SZ (PC l0 0))) - (1 : Int32))) fun h3 => some h3)
def fX3_dropOldest_9 : Nat → Nat → Nat → Int32 → AH → Option (AH)
  | 0, _, _, _, _ => none
  | n + 1, l0, l1, l2, h => if (Int32.ofNat (SZ (PC l0 0))) ≤ l2 then fX3_dropOldest_38 l0 l1 h else oG (inb l2 (SZ (PC l0 0))) (oG (decide (KD (hQ h (PC l0 0) (ix l2)) = 1)) (oG (inb (l2 - (1 : Int32)) (SZ (PC l0 0))) (oL (sQ h (PC l0 0) (ix (l2 - (1 : Int32))) (hQ h (PC l0 0) (ix l2))) fun h5 => oL (l2 + (1 : Int32)) fun v6 => fX3_dropOldest_9 n l0 l1 v6 h5)))
def fX3_dropOldest (th : Nat) (h : AH) : Option (AH) :=
  oG (inb (0 : Int32) (SZ (PC th 0))) (oG (decide (KD (hQ h (PC th 0) (ix (0 : Int32))) = 1)) (fX3_dropOldest_9 FU th (hQ h (PC th 0) (ix (0 : Int32))) (1 : Int32) h))
def fX3_keepAt (th : Nat) (a1 : Int32) (a2 : Nat) (h : AH) : Option (AH) :=
  if a1 < 0 then some h else if (Int32.ofNat (SZ (PC th 0))) ≤ a1 then some h else oG (inb a1 (SZ (PC th 0))) (oG (decide (KD (hQ h (PC th 0) (ix a1)) = 1)) (oG (inb a1 (SZ (PC th 0))) (oG (decide (KD (hQ h (PC th 0) (ix a1)) = 1)) (ob (fX2_copyOf (hQ h (PC th 0) (ix a1)) a2 h) fun h4 => some h4))))
def fX3_push_16 (l0 : Nat) (l1 : Nat) (h : AH) : Option (AH) :=
  ob (fX3_keepAt l0 (hI h l0 1) l1 h) fun h2 => oL (sI h2 l0 1 ((hI h2 l0 1) + (1 : Int32))) fun h3 => some h3
def fX3_push (th : Nat) (a1 : Nat) (h : AH) : Option (AH) :=
  if (hI h th 1) < (Int32.ofNat (SZ (PC th 0))) then fX3_push_16 th a1 h else ob (fX3_dropOldest th h) fun h5 => fX3_push_16 th a1 h5
def fX8_does (th : Nat) (a1 : Int32) (h : AH) : Option (Int32 × AH) :=
  ob (fX8_isCell a1) fun v2 => if v2 = 0 then ob2 (fX8_refuse th (-2 : Int32) h) fun v10 h9 => some (v10, h9) else ob (fX3_push (PC (PC th 0) 1) (PC (PC th 0) 0) h) fun h4 => ob2 (fX7_doingIn (PC th 4) (PC (PC th 0) 0) a1 h4) fun v7 h6 => some (v7, h6)
def fX8_rest (th : Nat) (a1 : Int32) (h : AH) : Option (Int32 × AH) :=
  ob (fX8_within a1 (1 : Int32) (99 : Int32)) fun v2 => if v2 = 0 then ob2 (fX8_refuse th (-2 : Int32) h) fun v9 h8 => some (v9, h8) else ob (fX3_push (PC (PC th 0) 1) (PC (PC th 0) 0) h) fun h4 => ob (fX2_pass (PC (PC th 0) 0) a1 h4) fun h6 => some ((hI h6 (PC (PC th 0) 0) 0), h6)
def fX8_moves_21 (l0 : Nat) (h : AH) : Option (Int32 × AH) :=
  ob2 (fX8_refuse l0 (-2 : Int32) h) fun v5 h4 => some (v5, h4)
def fX8_moves (th : Nat) (a1 : Int32) (a2 : Int32) (h : AH) : Option (Int32 × AH) :=
  ob (fX2_hasShow (PC (PC th 0) 0) a1 h) fun v2 => if v2 = 0 then fX8_moves_21 th h else ob (fX8_isCell a2) fun v7 => if v7 = 0 then fX8_moves_21 th h else ob (fX3_push (PC (PC th 0) 1) (PC (PC th 0) 0) h) fun h9 => oG (inb a1 (SZ (PC (PC (PC th 0) 0) 5))) (oL (hI h9 (PC (PC (PC th 0) 0) 5) (ix a1)) fun v10 => oG (inb a1 (SZ (PC (PC (PC th 0) 0) 5))) (oL (sI h9 (PC (PC (PC th 0) 0) 5) (ix a1) a2) fun h11 => some (v10, h11)))
def fX8_turns_23 (l0 : Nat) (h : AH) : Option (Int32 × AH) :=
  ob2 (fX8_refuse l0 (-2 : Int32) h) fun v5 h4 => some (v5, h4)
def fX8_turns (th : Nat) (a1 : Int32) (a2 : Int32) (h : AH) : Option (Int32 × AH) :=
  ob (fX2_hasShow (PC (PC th 0) 0) a1 h) fun v2 => if v2 = 0 then fX8_turns_23 th h else ob (fX8_within a2 (0 : Int32) (1 : Int32)) fun v7 => if v7 = 0 then fX8_turns_23 th h else ob (fX3_push (PC (PC th 0) 1) (PC (PC th 0) 0) h) fun h9 => oG (inb a1 (SZ (PC (PC (PC th 0) 0) 7))) (oL (hI h9 (PC (PC (PC th 0) 0) 7) (ix a1)) fun v10 => oG (inb a1 (SZ (PC (PC (PC th 0) 0) 7))) (oL (sI h9 (PC (PC (PC th 0) 0) 7) (ix a1) a2) fun h11 => some (v10, h11)))
def fX2_hasWatcher (th : Nat) (a1 : Int32) (h : AH) : Option (Int32) :=
  if a1 < 0 then some (0 : Int32) else if (hI h th 3) ≤ a1 then some (0 : Int32) else some (1 : Int32)
def fX8_sends_21 (l0 : Nat) (h : AH) : Option (Int32 × AH) :=
  ob2 (fX8_refuse l0 (-2 : Int32) h) fun v5 h4 => some (v5, h4)
def fX8_sends (th : Nat) (a1 : Int32) (a2 : Int32) (h : AH) : Option (Int32 × AH) :=
  ob (fX2_hasWatcher (PC (PC th 0) 0) a1 h) fun v2 => if v2 = 0 then fX8_sends_21 th h else ob (fX8_isCell a2) fun v7 => if v7 = 0 then fX8_sends_21 th h else ob (fX3_push (PC (PC th 0) 1) (PC (PC th 0) 0) h) fun h9 => oG (inb a1 (SZ (PC (PC (PC th 0) 0) 9))) (oL (hI h9 (PC (PC (PC th 0) 0) 9) (ix a1)) fun v10 => oG (inb a1 (SZ (PC (PC (PC th 0) 0) 9))) (oL (sI h9 (PC (PC (PC th 0) 0) 9) (ix a1) a2) fun h11 => some (v10, h11)))
def fX3_popInto (th : Nat) (a1 : Nat) (h : AH) : Option (AH) :=
  if (hI h th 1) ≤ 0 then some h else if (Int32.ofNat (SZ (PC th 0))) < (hI h th 1) then some h else oG (inb ((hI h th 1) - (1 : Int32)) (SZ (PC th 0))) (oG (decide (KD (hQ h (PC th 0) (ix ((hI h th 1) - (1 : Int32)))) = 1)) (oL (sI h th 1 ((hI h th 1) - (1 : Int32))) fun h2 => oG (inb (hI h2 th 1) (SZ (PC th 0))) (oG (decide (KD (hQ h2 (PC th 0) (ix (hI h2 th 1))) = 1)) (ob (fX2_copyOf a1 (hQ h2 (PC th 0) (ix (hI h2 th 1))) h2) fun h5 => some h5))))
def fX8_undo (th : Nat) (h : AH) : Option (Int32 × AH) :=
  if (hI h (PC (PC th 0) 1) 1) = 0 then ob2 (fX8_refuse th (-3 : Int32) h) fun v5 h4 => some (v5, h4) else ob (fX3_popInto (PC (PC th 0) 1) (PC (PC th 0) 0) h) fun h2 => some ((hI h2 (PC (PC th 0) 0) 0), h2)
def fX2_showPart (th : Nat) (a1 : Int32) (a2 : Int32) (h : AH) : Option (Int32) :=
  if a2 = (0 : Int32) then oG (inb a1 (SZ (PC th 4))) (some (hI h (PC th 4) (ix a1))) else if a2 = (1 : Int32) then oG (inb a1 (SZ (PC th 5))) (some (hI h (PC th 5) (ix a1))) else if a2 = (2 : Int32) then oG (inb a1 (SZ (PC th 6))) (some (hI h (PC th 6) (ix a1))) else oG (inb a1 (SZ (PC th 7))) (some (hI h (PC th 7) (ix a1)))
def fX8_of_23 (l0 : Nat) (h : AH) : Option (Int32 × AH) :=
  ob2 (fX8_refuse l0 (-2 : Int32) h) fun v5 h4 => some (v5, h4)
def fX8_of (th : Nat) (a1 : Int32) (a2 : Int32) (h : AH) : Option (Int32 × AH) :=
  ob (fX2_hasShow (PC (PC th 0) 0) a1 h) fun v2 => if v2 = 0 then fX8_of_23 th h else ob (fX8_within a2 (0 : Int32) (3 : Int32)) fun v7 => if v7 = 0 then fX8_of_23 th h else ob (fX2_showPart (PC (PC th 0) 0) a1 a2 h) fun v9 => some (v9, h)
def fX2_watcherPart (th : Nat) (a1 : Int32) (a2 : Int32) (h : AH) : Option (Int32) :=
  if a2 = (0 : Int32) then oG (inb a1 (SZ (PC th 8))) (some (hI h (PC th 8) (ix a1))) else if a2 = (1 : Int32) then oG (inb a1 (SZ (PC th 9))) (some (hI h (PC th 9) (ix a1))) else oG (inb a1 (SZ (PC th 10))) (some (hI h (PC th 10) (ix a1)))
def fX8_about_23 (l0 : Nat) (h : AH) : Option (Int32 × AH) :=
  ob2 (fX8_refuse l0 (-2 : Int32) h) fun v5 h4 => some (v5, h4)
def fX8_about (th : Nat) (a1 : Int32) (a2 : Int32) (h : AH) : Option (Int32 × AH) :=
  ob (fX2_hasWatcher (PC (PC th 0) 0) a1 h) fun v2 => if v2 = 0 then fX8_about_23 th h else ob (fX8_within a2 (0 : Int32) (2 : Int32)) fun v7 => if v7 = 0 then fX8_about_23 th h else ob (fX2_watcherPart (PC (PC th 0) 0) a1 a2 h) fun v9 => some (v9, h)
def fX2_pullAt (th : Nat) (a1 : Int32) (a2 : Int32) (a3 : Int32) (h : AH) : Option (Int32) :=
  oG (inb a1 (SZ (PC th 4))) (oG (inb a1 (SZ (PC th 6))) (oG (inb a1 (SZ (PC th 5))) (ob (fX8_far (hI h (PC th 5) (ix a1)) a2) fun v2 => ob (fX1_pullBy (hI h (PC th 4) (ix a1)) (hI h (PC th 6) (ix a1)) v2 a3) fun v4 => some v4)))
def fX8_pull_28 (l0 : Nat) (h : AH) : Option (Int32 × AH) :=
  ob2 (fX8_refuse l0 (-2 : Int32) h) fun v5 h4 => some (v5, h4)
def fX8_pull (th : Nat) (a1 : Int32) (a2 : Int32) (h : AH) : Option (Int32 × AH) :=
  ob (fX2_hasShow (PC (PC th 0) 0) a1 h) fun v2 => if v2 = 0 then fX8_pull_28 th h else ob (fX2_hasWatcher (PC (PC th 0) 0) a2 h) fun v7 => if v7 = 0 then fX8_pull_28 th h else oG (inb a2 (SZ (PC (PC (PC th 0) 0) 9))) (ob (fX2_dayStep (PC (PC th 0) 0) (0 : Int32) h) fun v9 => ob (fX2_pullAt (PC (PC th 0) 0) a1 (hI h (PC (PC (PC th 0) 0) 9) (ix a2)) v9 h) fun v11 => some (v11, h))
def fX2_strongest_40 (h : AH) (k9 : Nat → Int32 → Int32 → Int32 → Int32 → Int32 → Int32 → Option (Int32)) (l0 : Nat) (l1 : Int32) (l2 : Int32) (l3 : Int32) (l4 : Int32) (l5 : Int32) (l6 : Int32) (s0 : Int32) : Option (Int32) :=
  if s0 ≤ l5 then oL (l6 + (1 : Int32)) fun v1 => k9 l0 l1 l2 l3 l4 l5 v1 else oL (l6 + (1 : Int32)) fun v2 => k9 l0 l1 l2 l3 l6 s0 v2
def fX2_strongest_9 (h : AH) : Nat → Nat → Int32 → Int32 → Int32 → Int32 → Int32 → Int32 → Option (Int32)
  | 0, _, _, _, _, _, _, _ => none
  | n + 1, l0, l1, l2, l3, l4, l5, l6 => if (hI h l0 2) ≤ l6 then some l4 else if ((jshr l1 l6) &&& (1 : Int32)) = (1 : Int32) then ob (fX2_pullAt l0 l6 l2 l3 h) fun v4 => fX2_strongest_40 h (fX2_strongest_9 h n) l0 l1 l2 l3 l4 l5 l6 v4 else fX2_strongest_40 h (fX2_strongest_9 h n) l0 l1 l2 l3 l4 l5 l6 (0 : Int32)
def fX2_strongest (th : Nat) (a1 : Int32) (a2 : Int32) (a3 : Int32) (h : AH) : Option (Int32) :=
  fX2_strongest_9 h FU th a1 a2 a3 (-1 : Int32) (0 : Int32) (0 : Int32)
def fX8_drawn_23 (l0 : Nat) (h : AH) : Option (Int32 × AH) :=
  ob2 (fX8_refuse l0 (-2 : Int32) h) fun v5 h4 => some (v5, h4)
def fX8_drawn (th : Nat) (a1 : Int32) (a2 : Int32) (h : AH) : Option (Int32 × AH) :=
  ob (fX2_hasWatcher (PC (PC th 0) 0) a1 h) fun v2 => if v2 = 0 then fX8_drawn_23 th h else ob (fX8_within a2 (0 : Int32) (1 : Int32)) fun v7 => if v7 = 0 then fX8_drawn_23 th h else ob (fX2_onBits (PC (PC th 0) 0) h) fun v9 => oG (inb a1 (SZ (PC (PC (PC th 0) 0) 9))) (oL (hI h (PC (PC (PC th 0) 0) 9) (ix a1)) fun v10 => ob (fX2_dayStep (PC (PC th 0) 0) (0 : Int32) h) fun v12 => if a2 = 0 then ob (fX2_strongest (PC (PC th 0) 0) v9 v10 v12 h) fun v18 => some (v18, h) else oG (inb a1 (SZ (PC (PC (PC th 0) 0) 8))) (ob (fX2_greatestPull (PC (PC th 0) 0) v9 v10 v12 h) fun v14 => ob (fX1_drawnBy (hI h (PC (PC (PC th 0) 0) 8) (ix a1)) v14) fun v16 => some (v16, h)))
def fX7_whoSees (th : Nat) (a1 : Nat) (a2 : Int32) (a3 : Int32) (h : AH) : Option (Int32 × AH) :=
  ob (fX2_onBits a1 h) fun v2 => ob (fX7_gauge th a1 v2 a3 h) fun h4 => ob (fX7_witnesses th a1 a2 h4) fun v6 => some (v6, h4)
def fX8_sees_26 (l0 : Nat) (h : AH) : Option (Int32 × AH) :=
  ob2 (fX8_refuse l0 (-2 : Int32) h) fun v10 h9 => some (v10, h9)
def fX8_sees_19 (l0 : Nat) (l1 : Int32) (l2 : Int32) (h : AH) : Option (Int32 × AH) :=
  ob (fX8_isCell l2) fun v2 => if v2 = 0 then fX8_sees_26 l0 h else ob (fX2_dayStep (PC (PC l0 0) 0) (0 : Int32) h) fun v4 => ob2 (fX7_whoSees (PC l0 4) (PC (PC l0 0) 0) l2 v4 h) fun v7 h6 => if l1 = (-1 : Int32) then some (v7, h6) else some (((jshr v7 l1) &&& (1 : Int32)), h6)
def fX8_sees (th : Nat) (a1 : Int32) (a2 : Int32) (h : AH) : Option (Int32 × AH) :=
  if a1 = (-1 : Int32) then fX8_sees_19 th a1 a2 h else ob (fX2_hasWatcher (PC (PC th 0) 0) a1 h) fun v12 => if v12 = 0 then fX8_sees_26 th h else fX8_sees_19 th a1 a2 h
def fX8_isDayStep (a0 : Int32) : Option (Int32) :=
  ob (fX8_within a0 (0 : Int32) (11 : Int32)) fun v2 => oG (isB v2) (some v2)
def fX8_unseen_43 : Nat → Nat → Int32 → Int32 → AH → Option (Int32 × AH)
  | 0, _, _, _, _ => none
  | n + 1, l0, l2, l3, h => if (30 : Int32) ≤ l3 then some (l2, h) else ob (fX7_witnesses (PC l0 4) (PC (PC l0 0) 0) l3 h) fun v8 => if v8 = 0 then oL (l2 ||| (jshl (1 : Int32) l3)) fun v10 => oL (l3 + (1 : Int32)) fun v11 => fX8_unseen_43 n l0 v10 v11 h else oL (l3 + (1 : Int32)) fun v9 => fX8_unseen_43 n l0 l2 v9 h
def fX8_unseen (th : Nat) (a1 : Int32) (h : AH) : Option (Int32 × AH) :=
  ob (fX8_isDayStep a1) fun v2 => if v2 = 0 then ob2 (fX8_refuse th (-2 : Int32) h) fun v14 h13 => some (v14, h13) else ob (fX2_onBits (PC (PC th 0) 0) h) fun v4 => ob (fX7_gauge (PC th 4) (PC (PC th 0) 0) v4 a1 h) fun h6 => fX8_unseen_43 FU th (0 : Int32) (0 : Int32) h6
def fX7_openSteps_5 : Nat → Nat → Nat → Int32 → Int32 → Int32 → AH → Option (Int32 × AH)
  | 0, _, _, _, _, _, _ => none
  | n + 1, l0, l1, l2, l3, l4, h => if (24 : Int32) ≤ l4 then some (l3, h) else ob (fX2_dayStep l1 l4 h) fun v2 => ob2 (fX7_whoSees l0 l1 l2 v2 h) fun v5 h4 => if v5 = 0 then oL (l3 ||| (jshl (1 : Int32) l4)) fun v7 => oL (l4 + (1 : Int32)) fun v8 => fX7_openSteps_5 n l0 l1 l2 v7 v8 h4 else oL (l4 + (1 : Int32)) fun v6 => fX7_openSteps_5 n l0 l1 l2 l3 v6 h4
def fX7_openSteps (th : Nat) (a1 : Nat) (a2 : Int32) (h : AH) : Option (Int32 × AH) :=
  fX7_openSteps_5 FU th a1 a2 (0 : Int32) (0 : Int32) h
def fJ6_numberOfTrailingZeros_0f7a4_74 (l0 : Int32) (l1 : Int32) : Option (Int32) :=
  some (l1 + (jushr l0 (1 : Int32)))
def fJ6_numberOfTrailingZeros_0f7a4_62 (l0 : Int32) (l1 : Int32) : Option (Int32) :=
  if l0 ≤ (4 : Int32) then fJ6_numberOfTrailingZeros_0f7a4_74 l0 l1 else oL (l1 + (2 : Int32)) fun v2 => oL (jushr l0 (2 : Int32)) fun v3 => fJ6_numberOfTrailingZeros_0f7a4_74 v3 v2
def fJ6_numberOfTrailingZeros_0f7a4_49 (l0 : Int32) (l1 : Int32) : Option (Int32) :=
  if l0 ≤ (16 : Int32) then fJ6_numberOfTrailingZeros_0f7a4_62 l0 l1 else oL (l1 + (4 : Int32)) fun v4 => oL (jushr l0 (4 : Int32)) fun v5 => fJ6_numberOfTrailingZeros_0f7a4_62 v5 v4
def fJ6_numberOfTrailingZeros_0f7a4_34 (l0 : Int32) (l1 : Int32) : Option (Int32) :=
  if l0 ≤ (256 : Int32) then fJ6_numberOfTrailingZeros_0f7a4_49 l0 l1 else oL (l1 + (8 : Int32)) fun v6 => oL (jushr l0 (8 : Int32)) fun v7 => fJ6_numberOfTrailingZeros_0f7a4_49 v7 v6
def fJ6_numberOfTrailingZeros_0f7a4 (a0 : Int32) : Option (Int32) :=
  oL ((a0 ^^^ (-1 : Int32)) &&& (a0 - (1 : Int32))) fun v1 => if 0 < v1 then if v1 ≤ (65536 : Int32) then fJ6_numberOfTrailingZeros_0f7a4_34 v1 (1 : Int32) else oL ((1 : Int32) + (16 : Int32)) fun v8 => oL (jushr v1 (16 : Int32)) fun v9 => fJ6_numberOfTrailingZeros_0f7a4_34 v9 v8 else some (v1 &&& (32 : Int32))
def fX8_when (th : Nat) (a1 : Int32) (h : AH) : Option (Int32 × AH) :=
  ob (fX8_isCell a1) fun v2 => if v2 = 0 then ob2 (fX8_refuse th (-2 : Int32) h) fun v10 h9 => some (v10, h9) else ob2 (fX7_openSteps (PC th 4) (PC (PC th 0) 0) a1 h) fun v5 h4 => if v5 = 0 then some ((-1 : Int32), h4) else ob (fJ6_numberOfTrailingZeros_0f7a4 v5) fun v7 => some (v7, h4)
def fJ6_bitCount_0f7a4 (a0 : Int32) : Option (Int32) :=
  oL (a0 - ((jushr a0 (1 : Int32)) &&& (1431655765 : Int32))) fun v1 => oL ((v1 &&& (858993459 : Int32)) + ((jushr v1 (2 : Int32)) &&& (858993459 : Int32))) fun v2 => oL ((v2 + (jushr v2 (4 : Int32))) &&& (252645135 : Int32)) fun v3 => oL (v3 + (jushr v3 (8 : Int32))) fun v4 => oL (v4 + (jushr v4 (16 : Int32))) fun v5 => some (v5 &&& (63 : Int32))
def fX8_enough_35 : Nat → Nat → Int32 → Int32 → Int32 → Int32 → Int32 → AH → Option (Int32 × AH)
  | 0, _, _, _, _, _, _, _ => none
  | n + 1, l0, l1, l2, l3, l4, l5, h => if (jshl (1 : Int32) (hI h (PC (PC l0 0) 0) 2)) ≤ l5 then some (l2, h) else ob (fJ6_bitCount_0f7a4 l5) fun v6 => if v6 < l3 then ob (fX7_gauge (PC l0 4) (PC (PC l0 0) 0) l5 l4 h) fun h8 => ob (fX7_witnesses (PC l0 4) (PC (PC l0 0) 0) l1 h8) fun v10 => if v10 = 0 then ob (fJ6_bitCount_0f7a4 l5) fun v13 => oL (l5 + (1 : Int32)) fun v14 => fX8_enough_35 n l0 l1 l5 v13 l4 v14 h8 else oL (l5 + (1 : Int32)) fun v11 => fX8_enough_35 n l0 l1 l2 l3 l4 v11 h8 else oL (l5 + (1 : Int32)) fun v15 => fX8_enough_35 n l0 l1 l2 l3 l4 v15 h
def fX8_enough (th : Nat) (a1 : Int32) (h : AH) : Option (Int32 × AH) :=
  ob (fX8_isCell a1) fun v2 => if v2 = 0 then ob2 (fX8_refuse th (-2 : Int32) h) fun v18 h17 => some (v18, h17) else ob (fX2_dayStep (PC (PC th 0) 0) (0 : Int32) h) fun v4 => fX8_enough_35 FU th a1 (-1 : Int32) (6 : Int32) v4 (0 : Int32) h
def fX7_whoSeesWithShowAt_96 (l0 : Nat) (l1 : Nat) (l2 : Int32) (h : AH) : Option (Int32 × AH) :=
  ob (fX7_witnesses l0 l1 l2 h) fun v8 => some (v8, h)
def fX7_whoSeesWithShowAt_27 : Nat → Nat → Nat → Int32 → Int32 → Int32 → Int32 → Int32 → AH → Option (Int32 × AH)
  | 0, _, _, _, _, _, _, _, _ => none
  | n + 1, l0, l1, l2, l3, l4, l5, l6, h => if (hI h l1 3) ≤ l6 then fX7_whoSeesWithShowAt_96 l0 l1 l2 h else oG (inb l6 (SZ (PC l1 9))) (ob (fX8_far l4 (hI h (PC l1 9) (ix l6))) fun v10 => oG (inb l3 (SZ (PC l1 4))) (oG (inb l3 (SZ (PC l1 6))) (ob (fX1_pullBy (hI h (PC l1 4) (ix l3)) (hI h (PC l1 6) (ix l3)) v10 l5) fun v12 => oG (inb l6 (SZ (PC l0 0))) (oG (inb l6 (SZ (PC l0 0))) (oL (sI h (PC l0 0) (ix l6) (jmax (hI h (PC l0 0) (ix l6)) v12)) fun h13 => oL (l6 + (1 : Int32)) fun v14 => fX7_whoSeesWithShowAt_27 n l0 l1 l2 l3 l4 l5 v14 h13)))))
def fX7_whoSeesWithShowAt (th : Nat) (a1 : Nat) (a2 : Int32) (a3 : Int32) (a4 : Int32) (h : AH) : Option (Int32 × AH) :=
  ob (fX2_dayStep a1 (0 : Int32) h) fun v2 => ob (fX2_onBits a1 h) fun v4 => ob (fX7_gauge th a1 (v4 &&& ((jshl (1 : Int32) a3) ^^^ (-1 : Int32))) v2 h) fun h6 => fX7_whoSeesWithShowAt_27 FU th a1 a2 a3 a4 v2 (0 : Int32) h6
def fX8_place_30 (l0 : Nat) (h : AH) : Option (Int32 × AH) :=
  ob2 (fX8_refuse l0 (-2 : Int32) h) fun v5 h4 => some (v5, h4)
def fX8_place_98 (l3 : Int32) (l4 : Int32) (l5 : Int32) (h : AH) : Option (Int32 × AH) :=
  if l3 = 0 then some (l4, h) else some (l5, h)
def fX8_place_47 : Nat → Nat → Int32 → Int32 → Int32 → Int32 → Int32 → Int32 → AH → Option (Int32 × AH)
  | 0, _, _, _, _, _, _, _, _ => none
  | n + 1, l0, l1, l2, l3, l4, l5, l6, h => if (30 : Int32) ≤ l6 then fX8_place_98 l3 l4 l5 h else ob2 (fX7_whoSeesWithShowAt (PC l0 4) (PC (PC l0 0) 0) l2 l1 l6 h) fun v12 h11 => ob (fJ6_bitCount_0f7a4 v12) fun v14 => if l5 ≤ v14 then oL (l6 + (1 : Int32)) fun v15 => fX8_place_47 n l0 l1 l2 l3 l4 l5 v15 h11 else oL (l6 + (1 : Int32)) fun v16 => fX8_place_47 n l0 l1 l2 l3 l6 v14 v16 h11
def fX8_place (th : Nat) (a1 : Int32) (a2 : Int32) (a3 : Int32) (h : AH) : Option (Int32 × AH) :=
  ob (fX2_hasShow (PC (PC th 0) 0) a1 h) fun v2 => if v2 = 0 then fX8_place_30 th h else ob (fX8_isCell a2) fun v7 => if v7 = 0 then fX8_place_30 th h else ob (fX8_within a3 (0 : Int32) (1 : Int32)) fun v9 => if v9 = 0 then fX8_place_30 th h else fX8_place_47 FU th a1 a2 a3 (-1 : Int32) (7 : Int32) (0 : Int32) h
def fX8_planCells_4 : Nat → Int32 → Int32 → Option (Int32)
  | 0, _, _ => none
  | n + 1, l1, l2 => if (4 : Int32) < l2 then some (0 : Int32) else ob (fX8_within (jrem l1 (100 : Int32)) (11 : Int32) (40 : Int32)) fun v2 => if v2 = 0 then some (0 : Int32) else oL (l1 / (100 : Int32)) fun v3 => if v3 = 0 then some l2 else oL (l2 + (1 : Int32)) fun v4 => fX8_planCells_4 n v3 v4
def fX8_planCells (a0 : Int32) : Option (Int32) :=
  fX8_planCells_4 FU a0 (1 : Int32)
def fX4_openAt (th : Nat) (a1 : Int32) (a2 : Int32) (h : AH) : Option (AH) :=
  if a1 < 0 then some h else if (Int32.ofNat (SZ (PC th 0))) ≤ a1 then some h else oG (inb a1 (SZ (PC th 0))) (oL (sI h (PC th 0) (ix a1) a2) fun h1 => some h1)
def fX4_upTo (a0 : Int32) : Option (Int32) :=
  some ((jshl (1 : Int32) (a0 + (1 : Int32))) - (1 : Int32))
def fX4_stepsTogether_42 (h : AH) (l3 : Int32) : Option (Int32) :=
  ob (fJ6_bitCount_0f7a4 l3) fun v2 => some v2
def fX4_stepsTogether_5 (h : AH) : Nat → Nat → Int32 → Int32 → Int32 → Int32 → Option (Int32)
  | 0, _, _, _, _, _ => none
  | n + 1, l0, l1, l2, l3, l4 => if (hI h l0 1) ≤ l4 then fX4_stepsTogether_42 h l3 else if ((jshr l1 l4) &&& (1 : Int32)) = (1 : Int32) then oG (inb l4 (SZ (PC l0 0))) (oL (l3 ||| ((hI h (PC l0 0) (ix l4)) &&& l2)) fun v4 => oL (l4 + (1 : Int32)) fun v5 => fX4_stepsTogether_5 h n l0 l1 l2 v4 v5) else oL (l4 + (1 : Int32)) fun v3 => fX4_stepsTogether_5 h n l0 l1 l2 l3 v3
def fX4_stepsTogether (th : Nat) (a1 : Int32) (a2 : Int32) (h : AH) : Option (Int32) :=
  fX4_stepsTogether_5 h FU th a1 a2 (0 : Int32) (0 : Int32)
def fX4_canFill_2 (h : AH) : Nat → Nat → Int32 → Int32 → Int32 → Option (Int32)
  | 0, _, _, _, _ => none
  | n + 1, l0, l1, l2, l3 => if (jshl (1 : Int32) (hI h l0 1)) ≤ l3 then some (1 : Int32) else ob (fJ6_numberOfTrailingZeros_0f7a4 l3) fun v2 => if v2 < l1 then oL (l3 + (1 : Int32)) fun v3 => fX4_canFill_2 h n l0 l1 l2 v3 else ob (fX4_stepsTogether l0 l3 l2 h) fun v5 => ob (fJ6_bitCount_0f7a4 l3) fun v7 => if v7 ≤ v5 then oL (l3 + (1 : Int32)) fun v8 => fX4_canFill_2 h n l0 l1 l2 v8 else some (0 : Int32)
def fX4_canFill (th : Nat) (a1 : Int32) (a2 : Int32) (h : AH) : Option (Int32) :=
  fX4_canFill_2 h FU th a1 a2 (1 : Int32)
def fX4_soonestLast_2 (h : AH) : Nat → Nat → Int32 → Option (Int32)
  | 0, _, _ => none
  | n + 1, l0, l1 => if (24 : Int32) ≤ l1 then some (-1 : Int32) else ob (fX4_upTo l1) fun v2 => ob (fX4_canFill l0 (0 : Int32) v2 h) fun v4 => if v4 = 0 then oL (l1 + (1 : Int32)) fun v5 => fX4_soonestLast_2 h n l0 v5 else some l1
def fX4_soonestLast (th : Nat) (h : AH) : Option (Int32) :=
  fX4_soonestLast_2 h FU th (0 : Int32)
def fX4_firstStep_2 (h : AH) : Nat → Nat → Int32 → Int32 → Int32 → Option (Int32)
  | 0, _, _, _, _ => none
  | n + 1, l0, l1, l2, l3 => if (24 : Int32) ≤ l3 then some (-1 : Int32) else oG (inb l1 (SZ (PC l0 0))) (if (((hI h (PC l0 0) (ix l1)) &&& l2) &&& (jshl (1 : Int32) l3)) = 0 then oL (l3 + (1 : Int32)) fun v1 => fX4_firstStep_2 h n l0 l1 l2 v1 else ob (fX4_canFill l0 (l1 + (1 : Int32)) (l2 &&& ((jshl (1 : Int32) l3) ^^^ (-1 : Int32))) h) fun v3 => if v3 = 0 then oL (l3 + (1 : Int32)) fun v4 => fX4_firstStep_2 h n l0 l1 l2 v4 else some l3)
def fX4_firstStep (th : Nat) (a1 : Int32) (a2 : Int32) (h : AH) : Option (Int32) :=
  fX4_firstStep_2 h FU th a1 a2 (0 : Int32)
def fX4_stepOf_11 (h : AH) : Nat → Nat → Int32 → Int32 → Int32 → Int32 → Option (Int32)
  | 0, _, _, _, _, _ => none
  | n + 1, l0, l1, l3, l4, l5 => if l1 < l5 then some l4 else if (hI h l0 1) ≤ l5 then some l4 else ob (fX4_firstStep l0 l5 l3 h) fun v4 => if v4 = (-1 : Int32) then some (-1 : Int32) else oL (l3 &&& ((jshl (1 : Int32) v4) ^^^ (-1 : Int32))) fun v5 => oL (l5 + (1 : Int32)) fun v6 => fX4_stepOf_11 h n l0 l1 v5 v4 v6
def fX4_stepOf (th : Nat) (a1 : Int32) (a2 : Int32) (h : AH) : Option (Int32) :=
  ob (fX4_upTo a2) fun v2 => fX4_stepOf_11 h FU th a1 v2 (-1 : Int32) (0 : Int32)
def fX8_plan_14 (l0 : Nat) (h : AH) : Option (Int32 × AH) :=
  ob2 (fX8_refuse l0 (-2 : Int32) h) fun v5 h4 => some ((-10 : Int32), h4)
def fX8_plan_89 (l0 : Nat) (l2 : Int32) (l3 : Int32) (h : AH) : Option (Int32 × AH) :=
  ob (fX4_soonestLast (PC l0 6) h) fun v9 => if v9 = (-1 : Int32) then some ((-1 : Int32), h) else if l2 = (-1 : Int32) then some ((v9 + (1 : Int32)), h) else if l3 ≤ l2 then some ((-5 : Int32), h) else ob (fX4_stepOf (PC l0 6) l2 v9 h) fun v11 => some (v11, h)
def fX8_plan_40 : Nat → Nat → Int32 → Int32 → Int32 → Int32 → AH → Option (Int32 × AH)
  | 0, _, _, _, _, _, _ => none
  | n + 1, l0, l2, l3, l4, l5, h => if l5 < 0 then fX8_plan_89 l0 l2 l3 h else ob2 (fX7_openSteps (PC l0 4) (PC (PC l0 0) 0) ((jrem l4 (100 : Int32)) - (11 : Int32)) h) fun v14 h13 => ob (fX4_openAt (PC l0 6) l5 v14 h13) fun h16 => oL (l4 / (100 : Int32)) fun v17 => oL (l5 + (-1 : Int32)) fun v18 => fX8_plan_40 n l0 l2 l3 v17 v18 h16
def fX8_plan (th : Nat) (a1 : Int32) (a2 : Int32) (h : AH) : Option (Int32 × AH) :=
  ob (fX8_planCells a1) fun v2 => if v2 = 0 then fX8_plan_14 th h else if (-1 : Int32) ≤ a2 then oL (sI h (PC th 6) 1 v2) fun h6 => oL (v2 - (1 : Int32)) fun v7 => fX8_plan_40 FU th a2 v2 a1 v7 h6 else fX8_plan_14 th h
def fX8_cellsSeenFrom_53 (h : AH) : Nat → Int32 → Int32 → Int32 → Int32 → Int32 → Option (Int32)
  | 0, _, _, _, _, _ => none
  | n + 1, l2, l3, l4, l5, l6 => if (30 : Int32) ≤ l6 then some l5 else ob (fX8_far l2 l6) fun v9 => ob (fX1_seesBy l3 v9 l4) fun v11 => if v11 = 0 then oL (l6 + (1 : Int32)) fun v12 => fX8_cellsSeenFrom_53 h n l2 l3 l4 l5 v12 else oL (l5 + (1 : Int32)) fun v13 => oL (l6 + (1 : Int32)) fun v14 => fX8_cellsSeenFrom_53 h n l2 l3 l4 v13 v14
def fX8_cellsSeenFrom (th : Nat) (a1 : Int32) (a2 : Int32) (h : AH) : Option (Int32) :=
  oG (inb a1 (SZ (PC (PC (PC th 0) 0) 8))) (oL (hI h (PC (PC (PC th 0) 0) 8) (ix a1)) fun v1 => ob (fX2_onBits (PC (PC th 0) 0) h) fun v3 => ob (fX2_dayStep (PC (PC th 0) 0) (0 : Int32) h) fun v5 => ob (fX2_greatestPull (PC (PC th 0) 0) v3 a2 v5 h) fun v7 => fX8_cellsSeenFrom_53 h FU a2 v1 v7 (0 : Int32) (0 : Int32))
def fX8_guard_23 (l0 : Nat) (h : AH) : Option (Int32 × AH) :=
  ob2 (fX8_refuse l0 (-2 : Int32) h) fun v5 h4 => some (v5, h4)
def fX8_guard_74 (l2 : Int32) (l3 : Int32) (l4 : Int32) (h : AH) : Option (Int32 × AH) :=
  if l2 = 0 then some (l3, h) else some (l4, h)
def fX8_guard_38 : Nat → Nat → Int32 → Int32 → Int32 → Int32 → Int32 → AH → Option (Int32 × AH)
  | 0, _, _, _, _, _, _, _ => none
  | n + 1, l0, l1, l2, l3, l4, l5, h => if (30 : Int32) ≤ l5 then fX8_guard_74 l2 l3 l4 h else ob (fX8_cellsSeenFrom l0 l1 l5 h) fun v9 => if v9 ≤ l4 then oL (l5 + (1 : Int32)) fun v10 => fX8_guard_38 n l0 l1 l2 l3 l4 v10 h else oL (l5 + (1 : Int32)) fun v11 => fX8_guard_38 n l0 l1 l2 l5 v9 v11 h
def fX8_guard (th : Nat) (a1 : Int32) (a2 : Int32) (h : AH) : Option (Int32 × AH) :=
  ob (fX2_hasWatcher (PC (PC th 0) 0) a1 h) fun v2 => if v2 = 0 then fX8_guard_23 th h else ob (fX8_within a2 (0 : Int32) (1 : Int32)) fun v7 => if v7 = 0 then fX8_guard_23 th h else fX8_guard_38 FU th a1 a2 (-1 : Int32) (-1 : Int32) (0 : Int32) h
def fX6_add_77 (l0 : Nat) (h : AH) : Option (Int32 × AH) :=
  some ((hI h l0 1), h)
def fX6_add (th : Nat) (a1 : Int32) (a2 : Int32) (a3 : Int32) (a4 : Int32) (a5 : Int32) (h : AH) : Option (Int32 × AH) :=
  if (6 : Int32) ≤ (hI h th 1) then fX6_add_77 th h else oL ((hI h th 1) * (5 : Int32)) fun v1 => oG (inb v1 (SZ (PC th 0))) (oL (sI h (PC th 0) (ix v1) a1) fun h2 => oG (inb (v1 + (1 : Int32)) (SZ (PC th 0))) (oL (sI h2 (PC th 0) (ix (v1 + (1 : Int32))) a2) fun h3 => oG (inb (v1 + (2 : Int32)) (SZ (PC th 0))) (oL (sI h3 (PC th 0) (ix (v1 + (2 : Int32))) a3) fun h4 => oG (inb (v1 + (3 : Int32)) (SZ (PC th 0))) (oL (sI h4 (PC th 0) (ix (v1 + (3 : Int32))) a4) fun h5 => oG (inb (v1 + (4 : Int32)) (SZ (PC th 0))) (oL (sI h5 (PC th 0) (ix (v1 + (4 : Int32))) a5) fun h6 => oL (sI h6 th 1 ((hI h6 th 1) + (1 : Int32))) fun h7 => fX6_add_77 th h7)))))
def fX8_saw_29 (l0 : Nat) (h : AH) : Option (Int32 × AH) :=
  ob2 (fX8_refuse l0 (-2 : Int32) h) fun v5 h4 => some (v5, h4)
def fX8_saw (th : Nat) (a1 : Int32) (a2 : Int32) (h : AH) : Option (Int32 × AH) :=
  ob (fX8_isDayStep a1) fun v2 => if v2 = 0 then fX8_saw_29 th h else ob (fX8_within a2 (0 : Int32) ((jshl (1 : Int32) (hI h (PC (PC th 0) 0) 3)) - (1 : Int32))) fun v7 => if v7 = 0 then fX8_saw_29 th h else if (hI h (PC (PC th 0) 2) 1) < (6 : Int32) then ob2 (fX6_add (PC (PC th 0) 2) a1 a2 (0 : Int32) (0 : Int32) (0 : Int32) h) fun v10 h9 => some (v10, h9) else ob2 (fX8_refuse th (-4 : Int32) h) fun v13 h12 => some (v13, h12)
def fX6_told (th : Nat) (a1 : Int32) (a2 : Int32) (h : AH) : Option (Int32) :=
  oL ((a1 * (5 : Int32)) + a2) fun v1 => if v1 < 0 then some (0 : Int32) else if (Int32.ofNat (SZ (PC th 0))) ≤ v1 then some (0 : Int32) else oG (inb v1 (SZ (PC th 0))) (some (hI h (PC th 0) (ix v1)))
def fX8_where_57 (k107 : Nat → Int32 → Int32 → AH → Option (Int32 × AH)) : Nat → Nat → Int32 → Int32 → Int32 → AH → Option (Int32 × AH)
  | 0, _, _, _, _, _ => none
  | n + 1, l0, l1, l2, l3, h => if (30 : Int32) ≤ l3 then k107 l0 l1 l2 h else ob (fX7_witnesses (PC l0 4) (PC (PC l0 0) 0) l3 h) fun v8 => ob (fX6_told (PC (PC l0 0) 2) l2 (1 : Int32) h) fun v10 => if v8 = v10 then oL (l3 + (1 : Int32)) fun v11 => fX8_where_57 k107 n l0 l1 l2 v11 h else oL (l1 &&& ((jshl (1 : Int32) l3) ^^^ (-1 : Int32))) fun v12 => oL (l3 + (1 : Int32)) fun v13 => fX8_where_57 k107 n l0 v12 l2 v13 h
def fX8_where_5 : Nat → Nat → Int32 → Int32 → AH → Option (Int32 × AH)
  | 0, _, _, _, _ => none
  | n + 1, l0, l1, l2, h => if (hI h (PC (PC l0 0) 2) 1) ≤ l2 then some (l1, h) else ob (fX2_onBits (PC (PC l0 0) 0) h) fun v2 => ob (fX6_told (PC (PC l0 0) 2) l2 (0 : Int32) h) fun v4 => ob (fX7_gauge (PC l0 4) (PC (PC l0 0) 0) v2 v4 h) fun h6 => fX8_where_57 (fun w14 w15 w16 h17 => oL (w16 + (1 : Int32)) fun v19 => fX8_where_5 n w14 w15 v19 h17) FU l0 l1 l2 (0 : Int32) h6
def fX8_where (th : Nat) (h : AH) : Option (Int32 × AH) :=
  fX8_where_5 FU th (1073741823 : Int32) (0 : Int32) h
def fX8_isFar (a0 : Int32) : Option (Int32) :=
  ob (fX8_within a0 (0 : Int32) (9 : Int32)) fun v2 => oG (isB v2) (some v2)
def fX8_isPull (a0 : Int32) : Option (Int32) :=
  ob (fX8_within a0 (0 : Int32) (40 : Int32)) fun v2 => oG (isB v2) (some v2)
def fX8_note_44 (l0 : Nat) (h : AH) : Option (Int32 × AH) :=
  ob2 (fX8_refuse l0 (-2 : Int32) h) fun v5 h4 => some (v5, h4)
def fX8_note (th : Nat) (a1 : Int32) (a2 : Int32) (a3 : Int32) (a4 : Int32) (a5 : Int32) (h : AH) : Option (Int32 × AH) :=
  ob (fX2_hasShow (PC (PC th 0) 0) a1 h) fun v2 => if v2 = 0 then fX8_note_44 th h else ob (fX8_isLoud a2) fun v7 => if v7 = 0 then fX8_note_44 th h else ob (fX8_isFar a3) fun v9 => if v9 = 0 then fX8_note_44 th h else ob (fX8_isDayStep a4) fun v11 => if v11 = 0 then fX8_note_44 th h else ob (fX8_isPull a5) fun v13 => if v13 = 0 then fX8_note_44 th h else if (hI h (PC (PC th 0) 3) 1) < (6 : Int32) then ob2 (fX6_add (PC (PC th 0) 3) a1 a2 a3 a4 a5 h) fun v16 h15 => some (v16, h15) else ob2 (fX8_refuse th (-4 : Int32) h) fun v19 h18 => some (v19, h18)
def fX8_mark_38 (l0 : Nat) (h : AH) : Option (Int32 × AH) :=
  ob2 (fX8_refuse l0 (-2 : Int32) h) fun v5 h4 => some (v5, h4)
def fX8_mark (th : Nat) (a1 : Int32) (a2 : Int32) (a3 : Int32) (a4 : Int32) (h : AH) : Option (Int32 × AH) :=
  ob (fX2_hasWatcher (PC (PC th 0) 0) a1 h) fun v2 => if v2 = 0 then fX8_mark_38 th h else ob (fX8_isFar a2) fun v7 => if v7 = 0 then fX8_mark_38 th h else ob (fX8_isPull a3) fun v9 => if v9 = 0 then fX8_mark_38 th h else ob (fX8_within a4 (0 : Int32) (1 : Int32)) fun v11 => if v11 = 0 then fX8_mark_38 th h else if (hI h (PC (PC th 0) 4) 1) < (6 : Int32) then ob2 (fX6_add (PC (PC th 0) 4) a1 a2 a3 a4 (0 : Int32) h) fun v14 h13 => some (v14, h13) else ob2 (fX8_refuse th (-4 : Int32) h) fun v17 h16 => some (v17, h16)
def fX8_forget_52 (s0 : Nat) (h : AH) : Option (Int32 × AH) :=
  oL (hI h s0 1) fun v3 => oL (sI h s0 1 (0 : Int32)) fun h4 => some (v3, h4)
def fX8_forget (th : Nat) (a1 : Int32) (h : AH) : Option (Int32 × AH) :=
  ob (fX8_within a1 (0 : Int32) (2 : Int32)) fun v2 => if v2 = 0 then ob2 (fX8_refuse th (-2 : Int32) h) fun v7 h6 => some (v7, h6) else if a1 = 0 then fX8_forget_52 (PC (PC th 0) 2) h else if a1 = (1 : Int32) then fX8_forget_52 (PC (PC th 0) 3) h else fX8_forget_52 (PC (PC th 0) 4) h
def fX8_showKindsLeft_26 (h : AH) (k99 : Int32 → Nat → Int32 → Int32 → Option (Int32)) : Nat → Int32 → Nat → Int32 → Int32 → Int32 → Option (Int32)
  | 0, _, _, _, _, _ => none
  | n + 1, l1, l2, l3, l4, l5 => ob (fX6_told l2 l4 (0 : Int32) h) fun v2 => if v2 = l1 then if (6 : Int32) ≤ l5 then k99 l1 l2 l3 l4 else ob (fX6_told l2 l4 (1 : Int32) h) fun v4 => ob (fX6_told l2 l4 (2 : Int32) h) fun v6 => ob (fX6_told l2 l4 (3 : Int32) h) fun v8 => ob (fX1_pullBy l5 v4 v6 v8) fun v10 => ob (fX6_told l2 l4 (4 : Int32) h) fun v12 => if v10 = v12 then oL (l5 + (1 : Int32)) fun v13 => fX8_showKindsLeft_26 h k99 n l1 l2 l3 l4 v13 else oL (l3 &&& ((jshl (1 : Int32) l5) ^^^ (-1 : Int32))) fun v14 => oL (l5 + (1 : Int32)) fun v15 => fX8_showKindsLeft_26 h k99 n l1 l2 v14 l4 v15 else k99 l1 l2 l3 l4
def fX8_showKindsLeft_14 (h : AH) : Nat → Int32 → Nat → Int32 → Int32 → Option (Int32)
  | 0, _, _, _, _ => none
  | n + 1, l1, l2, l3, l4 => if (hI h l2 1) ≤ l4 then some l3 else fX8_showKindsLeft_26 h (fun w16 w17 w18 w19 => oL (w19 + (1 : Int32)) fun v21 => fX8_showKindsLeft_14 h n w16 w17 w18 v21) FU l1 l2 l3 l4 (0 : Int32)
def fX8_showKindsLeft (th : Nat) (a1 : Int32) (h : AH) : Option (Int32) :=
  fX8_showKindsLeft_14 h FU a1 (PC (PC th 0) 3) (63 : Int32) (0 : Int32)
def fX8_is (th : Nat) (a1 : Int32) (h : AH) : Option (Int32 × AH) :=
  ob (fX2_hasShow (PC (PC th 0) 0) a1 h) fun v2 => if v2 = 0 then ob2 (fX8_refuse th (-2 : Int32) h) fun v5 h4 => some (v5, h4) else ob (fX8_showKindsLeft th a1 h) fun v7 => some (v7, h)
def fX8_mostAlike_51 (k99 : Nat → Int32 → Int32 → Int32 → Int32 → AH → Option (Int32 × AH)) : Nat → Nat → Int32 → Int32 → Int32 → Int32 → Int32 → AH → Option (Int32 × AH)
  | 0, _, _, _, _, _, _, _ => none
  | n + 1, l0, l1, l5, l6, l7, l8, h => if (6 : Int32) ≤ l8 then k99 l0 l1 l5 l6 l7 h else if (((jshr l1 l6) &&& (jshr l1 l8)) &&& (1 : Int32)) = (1 : Int32) then oG (inb l6 (SZ (PC l0 7))) (oG (inb l8 (SZ (PC l0 7))) (if (hI h (PC l0 7) (ix l6)) = (hI h (PC l0 7) (ix l8)) then oL (l7 + (1 : Int32)) fun v3 => oL (l8 + (1 : Int32)) fun v4 => fX8_mostAlike_51 k99 n l0 l1 l5 l6 v3 v4 h else oL (l8 + (1 : Int32)) fun v2 => fX8_mostAlike_51 k99 n l0 l1 l5 l6 l7 v2 h)) else oL (l8 + (1 : Int32)) fun v1 => fX8_mostAlike_51 k99 n l0 l1 l5 l6 l7 v1 h
def fX8_mostAlike_38 : Nat → Nat → Int32 → Int32 → Int32 → AH → Option (Int32 × AH)
  | 0, _, _, _, _, _ => none
  | n + 1, l0, l1, l5, l6, h => if (6 : Int32) ≤ l6 then some (l5, h) else fX8_mostAlike_51 (fun w5 w6 w7 w8 w9 h10 => oL (jmax w7 w9) fun v12 => oL (w8 + (1 : Int32)) fun v13 => fX8_mostAlike_38 n w5 w6 v12 v13 h10) FU l0 l1 l5 l6 (0 : Int32) (0 : Int32) h
def fX8_mostAlike_32 (l0 : Nat) (l1 : Int32) (h : AH) : Option (Int32 × AH) :=
  fX8_mostAlike_38 FU l0 l1 (0 : Int32) (0 : Int32) h
def fX8_mostAlike_3 : Nat → Nat → Int32 → Int32 → Int32 → Int32 → Int32 → AH → Option (Int32 × AH)
  | 0, _, _, _, _, _, _, _ => none
  | n + 1, l0, l1, l2, l3, l4, l5, h => if (6 : Int32) ≤ l5 then fX8_mostAlike_32 l0 l1 h else ob (fX1_pullBy l5 l2 l3 l4) fun v15 => oG (inb l5 (SZ (PC l0 7))) (oL (sI h (PC l0 7) (ix l5) v15) fun h16 => oL (l5 + (1 : Int32)) fun v17 => fX8_mostAlike_3 n l0 l1 l2 l3 l4 v17 h16)
def fX8_mostAlike (th : Nat) (a1 : Int32) (a2 : Int32) (a3 : Int32) (a4 : Int32) (h : AH) : Option (Int32 × AH) :=
  fX8_mostAlike_3 FU th a1 a2 a3 a4 (0 : Int32) h
def fX8_look_50 (k106 : Nat → Int32 → Int32 → Int32 → Int32 → Int32 → AH → Option (Int32 × AH)) : Nat → Nat → Int32 → Int32 → Int32 → Int32 → Int32 → Int32 → AH → Option (Int32 × AH)
  | 0, _, _, _, _, _, _, _, _ => none
  | n + 1, l0, l1, l2, l3, l4, l5, l6, h => if (9 : Int32) < l6 then k106 l0 l1 l2 l3 l4 l5 h else oG (inb l1 (SZ (PC (PC (PC l0 0) 0) 6))) (ob2 (fX8_mostAlike l0 l2 (hI h (PC (PC (PC l0 0) 0) 6) (ix l1)) l6 l5 h) fun v7 h6 => if l4 ≤ v7 then oL (l6 + (1 : Int32)) fun v8 => fX8_look_50 k106 n l0 l1 l2 l3 l4 l5 v8 h6 else oL (((100 : Int32) * l5) + l6) fun v9 => oL (l6 + (1 : Int32)) fun v10 => fX8_look_50 k106 n l0 l1 l2 v9 v7 l5 v10 h6)
def fX8_look_36 : Nat → Nat → Int32 → Int32 → Int32 → Int32 → Int32 → AH → Option (Int32 × AH)
  | 0, _, _, _, _, _, _, _ => none
  | n + 1, l0, l1, l2, l3, l4, l5, h => if l2 = 0 then some (l3, h) else if (12 : Int32) ≤ l5 then some (l3, h) else fX8_look_50 (fun w11 w12 w13 w14 w15 w16 h17 => oL (w16 + (1 : Int32)) fun v19 => fX8_look_36 n w11 w12 w13 w14 w15 v19 h17) FU l0 l1 l2 l3 l4 l5 (0 : Int32) h
def fX8_look (th : Nat) (a1 : Int32) (h : AH) : Option (Int32 × AH) :=
  ob (fX2_hasShow (PC (PC th 0) 0) a1 h) fun v2 => if v2 = 0 then ob2 (fX8_refuse th (-2 : Int32) h) fun v22 h21 => some (v22, h21) else ob (fX8_showKindsLeft th a1 h) fun v4 => fX8_look_36 FU th a1 v4 (-1 : Int32) (7 : Int32) (0 : Int32) h
def fX8_watcherKindsLeft_83 (h : AH) (k26 : Int32 → Nat → Int32 → Int32 → Int32 → Option (Int32)) (k101 : Int32 → Nat → Int32 → Int32 → Option (Int32)) (l1 : Int32) (l2 : Nat) (l3 : Int32) (l4 : Int32) (l5 : Int32) (s0 : Int32) (s1 : Int32) : Option (Int32) :=
  if s0 = s1 then oL (l5 + (1 : Int32)) fun v11 => k26 l1 l2 l3 l4 v11 else oL (l3 &&& ((jshl (1 : Int32) l5) ^^^ (-1 : Int32))) fun v12 => oL (l5 + (1 : Int32)) fun v13 => k26 l1 l2 v12 l4 v13
def fX8_watcherKindsLeft_26 (h : AH) (k101 : Int32 → Nat → Int32 → Int32 → Option (Int32)) : Nat → Int32 → Nat → Int32 → Int32 → Int32 → Option (Int32)
  | 0, _, _, _, _, _ => none
  | n + 1, l1, l2, l3, l4, l5 => ob (fX6_told l2 l4 (0 : Int32) h) fun v2 => if v2 = l1 then if (6 : Int32) ≤ l5 then k101 l1 l2 l3 l4 else ob (fX6_told l2 l4 (1 : Int32) h) fun v4 => ob (fX6_told l2 l4 (2 : Int32) h) fun v6 => ob (fX1_seesBy l5 v4 v6) fun v8 => ob (fX6_told l2 l4 (3 : Int32) h) fun v10 => if v10 = (1 : Int32) then fX8_watcherKindsLeft_83 h (fX8_watcherKindsLeft_26 h k101 n) k101 l1 l2 l3 l4 l5 v8 (1 : Int32) else fX8_watcherKindsLeft_83 h (fX8_watcherKindsLeft_26 h k101 n) k101 l1 l2 l3 l4 l5 v8 (0 : Int32) else k101 l1 l2 l3 l4
def fX8_watcherKindsLeft_14 (h : AH) : Nat → Int32 → Nat → Int32 → Int32 → Option (Int32)
  | 0, _, _, _, _ => none
  | n + 1, l1, l2, l3, l4 => if (hI h l2 1) ≤ l4 then some l3 else fX8_watcherKindsLeft_26 h (fun w14 w15 w16 w17 => oL (w17 + (1 : Int32)) fun v19 => fX8_watcherKindsLeft_14 h n w14 w15 w16 v19) FU l1 l2 l3 l4 (0 : Int32)
def fX8_watcherKindsLeft (th : Nat) (a1 : Int32) (h : AH) : Option (Int32) :=
  fX8_watcherKindsLeft_14 h FU a1 (PC (PC th 0) 4) (63 : Int32) (0 : Int32)
def fX8_what (th : Nat) (a1 : Int32) (h : AH) : Option (Int32 × AH) :=
  ob (fX2_hasWatcher (PC (PC th 0) 0) a1 h) fun v2 => if v2 = 0 then ob2 (fX8_refuse th (-2 : Int32) h) fun v5 h4 => some (v5, h4) else ob (fX8_watcherKindsLeft th a1 h) fun v7 => some (v7, h)
def fX8_greaterPart_41 (l0 : Int32) (l3 : Int32) : Option (Int32) :=
  ob (fJ6_bitCount_0f7a4 l0) fun v2 => some (jmax l3 (v2 - l3))
def fX8_greaterPart_5 : Nat → Int32 → Int32 → Int32 → Int32 → Int32 → Option (Int32)
  | 0, _, _, _, _, _ => none
  | n + 1, l0, l1, l2, l3, l4 => if (6 : Int32) ≤ l4 then fX8_greaterPart_41 l0 l3 else if ((jshr l0 l4) &&& (1 : Int32)) = (1 : Int32) then ob (fX1_seesBy l4 l1 l2) fun v5 => if v5 = 0 then oL (l4 + (1 : Int32)) fun v6 => fX8_greaterPart_5 n l0 l1 l2 l3 v6 else oL (l3 + (1 : Int32)) fun v7 => oL (l4 + (1 : Int32)) fun v8 => fX8_greaterPart_5 n l0 l1 l2 v7 v8 else oL (l4 + (1 : Int32)) fun v3 => fX8_greaterPart_5 n l0 l1 l2 l3 v3
def fX8_greaterPart (a0 : Int32) (a1 : Int32) (a2 : Int32) : Option (Int32) :=
  fX8_greaterPart_5 FU a0 a1 a2 (0 : Int32) (0 : Int32)
def fX8_tries_50 (k93 : Int32 → Int32 → Int32 → Int32 → AH → Option (Int32 × AH)) : Nat → Int32 → Int32 → Int32 → Int32 → Int32 → AH → Option (Int32 × AH)
  | 0, _, _, _, _, _, _ => none
  | n + 1, l2, l3, l4, l5, l6, h => if (40 : Int32) < l6 then k93 l2 l3 l4 l5 h else ob (fX8_greaterPart l2 l5 l6) fun v6 => if l4 ≤ v6 then oL (l6 + (1 : Int32)) fun v7 => fX8_tries_50 k93 n l2 l3 l4 l5 v7 h else oL (((100 : Int32) * l5) + l6) fun v8 => oL (l6 + (1 : Int32)) fun v9 => fX8_tries_50 k93 n l2 v8 v6 l5 v9 h
def fX8_tries_36 : Nat → Int32 → Int32 → Int32 → Int32 → AH → Option (Int32 × AH)
  | 0, _, _, _, _, _ => none
  | n + 1, l2, l3, l4, l5, h => if l2 = 0 then some (l3, h) else if (9 : Int32) < l5 then some (l3, h) else fX8_tries_50 (fun w10 w11 w12 w13 h14 => oL (w13 + (1 : Int32)) fun v15 => fX8_tries_36 n w10 w11 w12 v15 h14) FU l2 l3 l4 l5 (0 : Int32) h
def fX8_tries (th : Nat) (a1 : Int32) (h : AH) : Option (Int32 × AH) :=
  ob (fX2_hasWatcher (PC (PC th 0) 0) a1 h) fun v2 => if v2 = 0 then ob2 (fX8_refuse th (-2 : Int32) h) fun v18 h17 => some (v18, h17) else ob (fX8_watcherKindsLeft th a1 h) fun v4 => fX8_tries_36 FU v4 (-1 : Int32) (7 : Int32) (0 : Int32) h
def fX8_seesStanding (th : Nat) (a1 : Int32) (a2 : Int32) (a3 : Int32) (h : AH) : Option (Int32) :=
  ob (fX2_onBits (PC (PC th 0) 0) h) fun v2 => ob (fX2_dayStep (PC (PC th 0) 0) (0 : Int32) h) fun v4 => ob (fX2_greatestPull (PC (PC th 0) 0) v2 a2 v4 h) fun v6 => oG (inb a1 (SZ (PC (PC (PC th 0) 0) 8))) (ob (fX8_far a2 a3) fun v8 => ob (fX1_seesBy (hI h (PC (PC (PC th 0) 0) 8) (ix a1)) v8 v6) fun v10 => oG (isB v10) (some v10))
def fX8_game_33 (l0 : Nat) (h : AH) : Option (Int32 × AH) :=
  ob2 (fX8_refuse l0 (-2 : Int32) h) fun v5 h4 => some (v5, h4)
def fX8_game_153 (k46 : Nat → Int32 → Int32 → Int32 → Int32 → Int32 → AH → Option (Int32 × AH)) (l0 : Nat) (l1 : Int32) (l2 : Int32) (l3 : Int32) (l4 : Int32) (l5 : Int32) (l11 : Int32) (s0 : Int32) (h : AH) : Option (Int32 × AH) :=
  if l11 = 0 then if s0 = 0 then oL (l4 ||| (jshl (1 : Int32) l5)) fun v16 => oL (l5 + (1 : Int32)) fun v17 => k46 l0 l1 l2 l3 v16 v17 h else oL (l5 + (1 : Int32)) fun v15 => k46 l0 l1 l2 l3 l4 v15 h else oL (l5 + (1 : Int32)) fun v14 => k46 l0 l1 l2 l3 l4 v14 h
def fX8_game_152 (k46 : Nat → Int32 → Int32 → Int32 → Int32 → Int32 → AH → Option (Int32 × AH)) (l0 : Nat) (l1 : Int32) (l2 : Int32) (l3 : Int32) (l4 : Int32) (l5 : Int32) (l11 : Int32) (h : AH) : Option (Int32 × AH) :=
  fX8_game_153 k46 l0 l1 l2 l3 l4 l5 l11 (0 : Int32) h
def fX8_game_129 (k46 : Nat → Int32 → Int32 → Int32 → Int32 → Int32 → AH → Option (Int32 × AH)) (l0 : Nat) (l1 : Int32) (l2 : Int32) (l3 : Int32) (l4 : Int32) (l5 : Int32) (l6 : Int32) (l9 : Int32) (l10 : Int32) (s0 : Int32) (h : AH) : Option (Int32 × AH) :=
  if l10 = 0 then ob (fX8_seesStanding l0 l1 l9 l6 h) fun v19 => if v19 = 0 then fX8_game_152 k46 l0 l1 l2 l3 l4 l5 s0 h else fX8_game_153 k46 l0 l1 l2 l3 l4 l5 s0 (1 : Int32) h else fX8_game_152 k46 l0 l1 l2 l3 l4 l5 s0 h
def fX8_game_128 (k46 : Nat → Int32 → Int32 → Int32 → Int32 → Int32 → AH → Option (Int32 × AH)) (l0 : Nat) (l1 : Int32) (l2 : Int32) (l3 : Int32) (l4 : Int32) (l5 : Int32) (l6 : Int32) (l9 : Int32) (l10 : Int32) (h : AH) : Option (Int32 × AH) :=
  fX8_game_129 k46 l0 l1 l2 l3 l4 l5 l6 l9 l10 (0 : Int32) h
def fX8_game_78 (k46 : Nat → Int32 → Int32 → Int32 → Int32 → Int32 → AH → Option (Int32 × AH)) (l0 : Nat) (l1 : Int32) (l2 : Int32) (l3 : Int32) (l4 : Int32) (l5 : Int32) (l6 : Int32) (s0 : Int32) (h : AH) : Option (Int32 × AH) :=
  oL ((l2 + l3) - l6) fun v10 => oL ((l2 + l3) - s0) fun v11 => ob (fX8_seesStanding l0 l1 s0 l6 h) fun v13 => if v13 = 0 then fX8_game_128 k46 l0 l1 l2 l3 l4 l5 l6 v11 v13 h else ob (fX8_seesStanding l0 l1 s0 v10 h) fun v21 => if v21 = 0 then fX8_game_129 k46 l0 l1 l2 l3 l4 l5 l6 v11 v13 (1 : Int32) h else fX8_game_128 k46 l0 l1 l2 l3 l4 l5 l6 v11 v13 h
def fX8_game_64 (k46 : Nat → Int32 → Int32 → Int32 → Int32 → Int32 → AH → Option (Int32 × AH)) (l0 : Nat) (l1 : Int32) (l2 : Int32) (l3 : Int32) (l4 : Int32) (l5 : Int32) (s0 : Int32) (h : AH) : Option (Int32 × AH) :=
  if (l5 &&& (2 : Int32)) = 0 then fX8_game_78 k46 l0 l1 l2 l3 l4 l5 s0 l2 h else fX8_game_78 k46 l0 l1 l2 l3 l4 l5 s0 l3 h
def fX8_game_46 : Nat → Nat → Int32 → Int32 → Int32 → Int32 → Int32 → AH → Option (Int32 × AH)
  | 0, _, _, _, _, _, _, _ => none
  | n + 1, l0, l1, l2, l3, l4, l5, h => if (4 : Int32) ≤ l5 then some (l4, h) else if (l5 &&& (1 : Int32)) = 0 then fX8_game_64 (fX8_game_46 n) l0 l1 l2 l3 l4 l5 l2 h else fX8_game_64 (fX8_game_46 n) l0 l1 l2 l3 l4 l5 l3 h
def fX8_game (th : Nat) (a1 : Int32) (a2 : Int32) (a3 : Int32) (h : AH) : Option (Int32 × AH) :=
  ob (fX2_hasWatcher (PC (PC th 0) 0) a1 h) fun v2 => if v2 = 0 then fX8_game_33 th h else ob (fX8_isCell a2) fun v7 => if v7 = 0 then fX8_game_33 th h else ob (fX8_isCell a3) fun v9 => if v9 = 0 then fX8_game_33 th h else if a2 = a3 then fX8_game_33 th h else fX8_game_46 FU th a1 a2 a3 (0 : Int32) (0 : Int32) h
def fX8_power_5 : Nat → Int64 → Int32 → Int64 → Int32 → Option (Int64)
  | 0, _, _, _, _ => none
  | n + 1, l0, l2, l3, l5 => if l2 ≤ l5 then some l3 else oL (l3 * l0) fun v1 => oL (l5 + (1 : Int32)) fun v2 => fX8_power_5 n l0 l2 v1 v2
def fX8_power (a0 : Int64) (a1 : Int32) : Option (Int64) :=
  fX8_power_5 FU a0 a1 (1 : Int64) (0 : Int32)
def fX8_oddsOf (a0 : Int32) (a1 : Int32) (a2 : Int32) : Option (Int64) :=
  ob (fJ6_bitCount_0f7a4 a1) fun v2 => ob (fX8_power (((10 : Int32) - a2).toInt64) v2) fun v4 => ob (fJ6_bitCount_0f7a4 a0) fun v6 => ob (fX8_power a2.toInt64 (v6 - v2)) fun v8 => some (v4 * v8)
def fX8_keepFraction_44 (l0 : Nat) (l1 : Int64) (l3 : Int64) (l7 : Int64) (h : AH) : Option (AH) :=
  if (lg_cmp l7 (0 : Int64)) ≤ 0 then some h else oG (decide (¬ l7 = 0)) (oL (sJ h l0 8 (l1 / l7)) fun h2 => oG (decide (¬ l7 = 0)) (oL (sJ h2 l0 9 (l3 / l7)) fun h4 => some h4))
def fX8_keepFraction_9 : Nat → Nat → Int64 → Int64 → Int64 → Int64 → Int32 → AH → Option (AH)
  | 0, _, _, _, _, _, _, _ => none
  | n + 1, l0, l1, l3, l5, l7, l9, h => if (100 : Int32) ≤ l9 then fX8_keepFraction_44 l0 l1 l3 l7 h else if (lg_cmp l5 (0 : Int64)) = 0 then fX8_keepFraction_44 l0 l1 l3 l7 h else oG (decide (¬ l5 = 0)) (oL (jremL l7 l5) fun v6 => oL (l9 + (1 : Int32)) fun v7 => fX8_keepFraction_9 n l0 l1 l3 v6 l5 v7 h)
def fX8_keepFraction (th : Nat) (a1 : Int64) (a2 : Int64) (h : AH) : Option (AH) :=
  fX8_keepFraction_9 FU th a1 a2 a1 a2 (0 : Int32) h
def fX8_fails_17 (l0 : Nat) (h : AH) : Option (Int32 × AH) :=
  ob2 (fX8_refuse l0 (-2 : Int32) h) fun v5 h4 => some (v5, h4)
def fX8_fails_126 (l0 : Nat) (l3 : Int32) (l4 : Int64) (h : AH) : Option (Int32 × AH) :=
  ob (fJ6_bitCount_0f7a4 l3) fun v11 => ob (fX8_power (10 : Int64) v11) fun v13 => ob (fX8_keepFraction l0 l4 v13 h) fun h15 => some ((1 : Int32), h15)
def fX8_fails_41 : Nat → Nat → Int32 → Int32 → Int32 → Int64 → Int32 → AH → Option (Int32 × AH)
  | 0, _, _, _, _, _, _, _ => none
  | n + 1, l0, l1, l2, l3, l4, l6, h => if (32 : Int32) ≤ l6 then fX8_fails_126 l0 l3 l4 h else if (l6 &&& (l3 ^^^ (-1 : Int32))) = 0 then ob (fX2_dayStep (PC (PC l0 0) 0) (0 : Int32) h) fun v18 => ob (fX7_gauge (PC l0 4) (PC (PC l0 0) 0) l6 v18 h) fun h20 => ob (fX7_witnesses (PC l0 4) (PC (PC l0 0) 0) l1 h20) fun v22 => ob (fJ6_bitCount_0f7a4 v22) fun v24 => ob (fX8_oddsOf l3 l6 l2) fun v26 => oL (l4 + (v24.toInt64 * v26)) fun v27 => oL (l6 + (1 : Int32)) fun v28 => fX8_fails_41 n l0 l1 l2 l3 v27 v28 h20 else oL (l6 + (1 : Int32)) fun v16 => fX8_fails_41 n l0 l1 l2 l3 l4 v16 h
def fX8_fails (th : Nat) (a1 : Int32) (a2 : Int32) (h : AH) : Option (Int32 × AH) :=
  ob (fX8_isCell a1) fun v2 => if v2 = 0 then fX8_fails_17 th h else ob (fX8_within a2 (0 : Int32) (10 : Int32)) fun v7 => if v7 = 0 then fX8_fails_17 th h else ob (fX2_onBits (PC (PC th 0) 0) h) fun v9 => fX8_fails_41 FU th a1 a2 v9 (0 : Int64) (0 : Int32) h
def fX8_years_21 (l0 : Nat) (h : AH) : Option (Int32 × AH) :=
  ob2 (fX8_refuse l0 (-2 : Int32) h) fun v5 h4 => some (v5, h4)
def fX8_years_37 : Nat → Nat → Int32 → Int64 → Int32 → Int32 → AH → Option (Int32 × AH)
  | 0, _, _, _, _, _, _ => none
  | n + 1, l0, l2, l3, l5, l6, h => if l2 ≤ l6 then some (l5, h) else oL (jremL ((l3 * (1103515245 : Int64)) + (12345 : Int64)) (2147483648 : Int64)) fun v9 => oL ((jremL (v9 / (65536 : Int64)) (30 : Int64)).toInt32) fun v10 => ob (fX2_dayStep (PC (PC l0 0) 0) l6 h) fun v12 => ob2 (fX7_whoSees (PC l0 4) (PC (PC l0 0) 0) v10 v12 h) fun v15 h14 => ob (fJ6_bitCount_0f7a4 v15) fun v17 => oL (l5 + v17) fun v18 => oL (l6 + (1 : Int32)) fun v19 => fX8_years_37 n l0 l2 v9 v18 v19 h14
def fX8_years (th : Nat) (a1 : Int32) (a2 : Int32) (h : AH) : Option (Int32 × AH) :=
  ob (fX8_within a1 (0 : Int32) (999999 : Int32)) fun v2 => if v2 = 0 then fX8_years_21 th h else ob (fX8_within a2 (0 : Int32) (60 : Int32)) fun v7 => if v7 = 0 then fX8_years_21 th h else oL a1.toInt64 fun v8 => fX8_years_37 FU th a2 v8 (0 : Int32) (0 : Int32) h
def fX8_part (th : Nat) (a1 : Int32) (h : AH) : Option (Int64 × AH) :=
  ob (fX8_within a1 (0 : Int32) (1 : Int32)) fun v2 => if v2 = 0 then ob2 (fX8_refuse th (-2 : Int32) h) fun v5 h4 => some (v5.toInt64, h4) else if a1 = 0 then some ((hJ h th 8), h) else some ((hJ h th 9), h)
def fX8_isImage (th : Nat) (a1 : Int32) (h : AH) : Option (Int32) :=
  if a1 < 0 then some (0 : Int32) else if (Int32.ofNat (SZ (PC th 1))) ≤ a1 then some (0 : Int32) else if (Int32.ofNat (SZ (PC th 2))) ≤ a1 then some (0 : Int32) else oG (inb a1 (SZ (PC th 1))) (oG (decide (KD (hQ h (PC th 1) (ix a1)) = 0)) (some (1 : Int32)))
def fX3_copyOf_10 : Nat → Nat → Nat → Int32 → AH → Option (AH)
  | 0, _, _, _, _ => none
  | n + 1, l0, l1, l2, h => if (hI h l0 1) ≤ l2 then some h else if (Int32.ofNat (SZ (PC l1 0))) ≤ l2 then some h else oG (inb l2 (SZ (PC l1 0))) (oG (decide (KD (hQ h (PC l1 0) (ix l2)) = 1)) (ob (fX3_keepAt l0 l2 (hQ h (PC l1 0) (ix l2)) h) fun h4 => oL (l2 + (1 : Int32)) fun v5 => fX3_copyOf_10 n l0 l1 v5 h4))
def fX3_copyOf (th : Nat) (a1 : Nat) (h : AH) : Option (AH) :=
  oL (sI h th 1 (hI h a1 1)) fun h1 => fX3_copyOf_10 FU th a1 (0 : Int32) h1
def fX6_copyOf_10 : Nat → Nat → Nat → Int32 → AH → Option (AH)
  | 0, _, _, _, _ => none
  | n + 1, l0, l1, l2, h => if (Int32.ofNat (SZ (PC l0 0))) ≤ l2 then some h else oG (inb l2 (SZ (PC l1 0))) (oG (inb l2 (SZ (PC l0 0))) (oL (sI h (PC l0 0) (ix l2) (hI h (PC l1 0) (ix l2))) fun h2 => oL (l2 + (1 : Int32)) fun v3 => fX6_copyOf_10 n l0 l1 v3 h2))
def fX6_copyOf (th : Nat) (a1 : Nat) (h : AH) : Option (AH) :=
  oL (sI h th 1 (hI h a1 1)) fun h1 => fX6_copyOf_10 FU th a1 (0 : Int32) h1
def fX0_copyOf (th : Nat) (a1 : Nat) (h : AH) : Option (AH) :=
  ob (fX2_copyOf (PC th 0) (PC a1 0) h) fun h2 => ob (fX3_copyOf (PC th 1) (PC a1 1) h2) fun h4 => ob (fX6_copyOf (PC th 2) (PC a1 2) h4) fun h6 => ob (fX6_copyOf (PC th 3) (PC a1 3) h6) fun h8 => ob (fX6_copyOf (PC th 4) (PC a1 4) h8) fun h10 => some h10
def fX8_image (th : Nat) (a1 : Int32) (h : AH) : Option (Int32 × AH) :=
  ob (fX8_isImage th a1 h) fun v2 => if v2 = 0 then ob2 (fX8_refuse th (-2 : Int32) h) fun v9 h8 => some (v9, h8) else oG (inb a1 (SZ (PC th 1))) (oG (decide (KD (hQ h (PC th 1) (ix a1)) = 0)) (ob (fX0_copyOf (hQ h (PC th 1) (ix a1)) (PC th 0) h) fun h5 => oG (inb a1 (SZ (PC th 2))) (oG (isB (1 : Int32)) (oL (sI h5 (PC th 2) (ix a1) (1 : Int32)) fun h6 => some ((1 : Int32), h6)))))
def fX8_from (th : Nat) (a1 : Int32) (h : AH) : Option (Int32 × AH) :=
  ob (fX8_isImage th a1 h) fun v2 => if v2 = 0 then ob2 (fX8_refuse th (-2 : Int32) h) fun v11 h10 => some (v11, h10) else oG (inb a1 (SZ (PC th 2))) (if (hI h (PC th 2) (ix a1)) = 0 then ob2 (fX8_refuse th (-3 : Int32) h) fun v8 h7 => some (v8, h7) else oG (inb a1 (SZ (PC th 1))) (oG (decide (KD (hQ h (PC th 1) (ix a1)) = 0)) (ob (fX0_copyOf (PC th 0) (hQ h (PC th 1) (ix a1)) h) fun h5 => some ((1 : Int32), h5))))
def fX8_status (th : Nat) (a1 : Int32) (h : AH) : Option (Int32 × AH) :=
  if a1 = (0 : Int32) then some ((hI h th 10), h) else if a1 = (1 : Int32) then some ((hI h th 11), h) else if a1 = (2 : Int32) then some ((hI h th 12), h) else ob2 (fX8_refuse th (-2 : Int32) h) fun v6 h5 => some ((-1 : Int32), h5)
def fX2_knownTogether_4 (h : AH) : Nat → Nat → Int32 → Int32 → Option (Int32)
  | 0, _, _, _ => none
  | n + 1, l0, l1, l2 => if (hI h l0 3) ≤ l2 then some l1 else oG (inb l2 (SZ (PC l0 10))) (oL (l1 + (hI h (PC l0 10) (ix l2))) fun v1 => oL (l2 + (1 : Int32)) fun v2 => fX2_knownTogether_4 h n l0 v1 v2)
def fX2_knownTogether (th : Nat) (h : AH) : Option (Int32) :=
  fX2_knownTogether_4 h FU th (0 : Int32) (0 : Int32)
def fX8_tally (th : Nat) (a1 : Int32) (h : AH) : Option (Int32) :=
  if a1 = (0 : Int32) then some (hI h (PC (PC th 0) 0) 2) else if a1 = (1 : Int32) then some (hI h (PC (PC th 0) 0) 3) else if a1 = (2 : Int32) then some (hI h (PC (PC th 0) 0) 0) else if a1 = (3 : Int32) then some (hI h (PC (PC th 0) 0) 1) else if a1 = (4 : Int32) then ob (fX2_onBits (PC (PC th 0) 0) h) fun v6 => ob (fJ6_bitCount_0f7a4 v6) fun v8 => some v8 else if a1 = (5 : Int32) then ob (fX2_knownTogether (PC (PC th 0) 0) h) fun v11 => some v11 else if a1 = (6 : Int32) then some (hI h (PC (PC th 0) 2) 1) else if a1 = (7 : Int32) then some (hI h (PC (PC th 0) 3) 1) else if a1 = (8 : Int32) then some (hI h (PC (PC th 0) 4) 1) else if a1 = (9 : Int32) then some (hI h (PC (PC th 0) 1) 1) else some (hI h (PC th 5) 3)
def fX8_count (th : Nat) (a1 : Int32) (h : AH) : Option (Int32 × AH) :=
  ob (fX8_within a1 (0 : Int32) (10 : Int32)) fun v2 => if v2 = 0 then ob2 (fX8_refuse th (-2 : Int32) h) fun v5 h4 => some (v5, h4) else ob (fX8_tally th a1 h) fun v7 => some (v7, h)
def fX6_mixInto_18 (h : AH) (k48 : Nat → Int32 → Int64 → Int32 → Option (Int64)) : Nat → Nat → Int32 → Int64 → Int32 → Int32 → Option (Int64)
  | 0, _, _, _, _, _ => none
  | n + 1, l0, l3, l4, l6, l7 => if l3 ≤ l7 then k48 l0 l3 l4 l6 else ob (fX6_told l0 l6 l7 h) fun v2 => oL (((31 : Int64) * l4) + v2.toInt64) fun v3 => oL (l7 + (1 : Int32)) fun v4 => fX6_mixInto_18 h k48 n l0 l3 v3 l6 v4
def fX6_mixInto_6 (h : AH) : Nat → Nat → Int32 → Int64 → Int32 → Option (Int64)
  | 0, _, _, _, _ => none
  | n + 1, l0, l3, l4, l6 => if (hI h l0 1) ≤ l6 then some l4 else fX6_mixInto_18 h (fun w5 w6 w7 w8 => oL (w8 + (1 : Int32)) fun v10 => fX6_mixInto_6 h n w5 w6 w7 v10) FU l0 l3 l4 l6 (0 : Int32)
def fX6_mixInto (th : Nat) (a1 : Int64) (a2 : Int32) (h : AH) : Option (Int64) :=
  fX6_mixInto_6 h FU th a2 a1 (0 : Int32)
def fX8_digest_147 (h : AH) (l0 : Nat) (l1 : Int64) : Option (Int64) :=
  ob (fX6_mixInto (PC (PC l0 0) 2) l1 (2 : Int32) h) fun v2 => ob (fX6_mixInto (PC (PC l0 0) 3) v2 (5 : Int32) h) fun v4 => ob (fX6_mixInto (PC (PC l0 0) 4) v4 (4 : Int32) h) fun v6 => some (((31 : Int64) * (((31 : Int64) * v6) + (hJ h l0 8))) + (hJ h l0 9))
def fX8_digest_108 (h : AH) (k141 : Nat → Int64 → Int32 → Option (Int64)) : Nat → Nat → Int64 → Int32 → Int32 → Option (Int64)
  | 0, _, _, _, _ => none
  | n + 1, l0, l1, l3, l4 => if (2 : Int32) < l4 then k141 l0 l1 l3 else ob (fX2_watcherPart (PC (PC l0 0) 0) l3 l4 h) fun v8 => oL (((31 : Int64) * l1) + v8.toInt64) fun v9 => oL (l4 + (1 : Int32)) fun v10 => fX8_digest_108 h k141 n l0 v9 l3 v10
def fX8_digest_91 (h : AH) : Nat → Nat → Int64 → Int32 → Option (Int64)
  | 0, _, _, _ => none
  | n + 1, l0, l1, l3 => if (hI h (PC (PC l0 0) 0) 3) ≤ l3 then fX8_digest_147 h l0 l1 else fX8_digest_108 h (fun w11 w12 w13 => oL (w13 + (1 : Int32)) fun v15 => fX8_digest_91 h n w11 w12 v15) FU l0 l1 l3 (0 : Int32)
def fX8_digest_89 (h : AH) (l0 : Nat) (l1 : Int64) : Option (Int64) :=
  fX8_digest_91 h FU l0 l1 (0 : Int32)
def fX8_digest_50 (h : AH) (k83 : Nat → Int64 → Int32 → Option (Int64)) : Nat → Nat → Int64 → Int32 → Int32 → Option (Int64)
  | 0, _, _, _, _ => none
  | n + 1, l0, l1, l3, l4 => if (3 : Int32) < l4 then k83 l0 l1 l3 else ob (fX2_showPart (PC (PC l0 0) 0) l3 l4 h) fun v17 => oL (((31 : Int64) * l1) + v17.toInt64) fun v18 => oL (l4 + (1 : Int32)) fun v19 => fX8_digest_50 h k83 n l0 v18 l3 v19
def fX8_digest_33 (h : AH) : Nat → Nat → Int64 → Int32 → Option (Int64)
  | 0, _, _, _ => none
  | n + 1, l0, l1, l3 => if (hI h (PC (PC l0 0) 0) 2) ≤ l3 then fX8_digest_89 h l0 l1 else fX8_digest_50 h (fun w20 w21 w22 => oL (w22 + (1 : Int32)) fun v24 => fX8_digest_33 h n w20 w21 v24) FU l0 l1 l3 (0 : Int32)
def fX8_digest_31 (h : AH) (l0 : Nat) (l1 : Int64) : Option (Int64) :=
  fX8_digest_33 h FU l0 l1 (0 : Int32)
def fX8_digest_6 (h : AH) : Nat → Nat → Int64 → Int32 → Option (Int64)
  | 0, _, _, _ => none
  | n + 1, l0, l1, l3 => if (10 : Int32) < l3 then fX8_digest_31 h l0 l1 else ob (fX8_tally l0 l3 h) fun v26 => oL (((31 : Int64) * l1) + v26.toInt64) fun v27 => oL (l3 + (1 : Int32)) fun v28 => fX8_digest_6 h n l0 v27 v28
def fX8_digest (th : Nat) (h : AH) : Option (Int64) :=
  fX8_digest_6 h FU th (1487 : Int64) (0 : Int32)
def fX9_in (a0 : Int64) (a1 : Int64) (a2 : Int64) : Option (Int32) :=
  if (lg_cmp a0 a1) < 0 then some (0 : Int32) else if 0 < (lg_cmp a0 a2) then some (0 : Int32) else some (1 : Int32)
def fX9_bad (th : Nat) (a1 : Int32) (h : AH) : Option (Int32 × AH) :=
  oG (inb (0 : Int32) (SZ (PC th 3))) (oG (inb (0 : Int32) (SZ (PC th 3))) (oL (sI h (PC th 3) (ix (0 : Int32)) ((hI h (PC th 3) (ix (0 : Int32))) + (1 : Int32))) fun h1 => some (a1, h1)))
def fX9_no (th : Nat) (h : AH) : Option (Int32 × AH) :=
  oG (inb (1 : Int32) (SZ (PC th 3))) (oG (inb (1 : Int32) (SZ (PC th 3))) (oL (sI h (PC th 3) (ix (1 : Int32)) ((hI h (PC th 3) (ix (1 : Int32))) + (1 : Int32))) fun h1 => some ((-3 : Int32), h1)))
def fX9_full (th : Nat) (h : AH) : Option (Int32 × AH) :=
  oG (inb (2 : Int32) (SZ (PC th 3))) (oG (inb (2 : Int32) (SZ (PC th 3))) (oL (sI h (PC th 3) (ix (2 : Int32)) ((hI h (PC th 3) (ix (2 : Int32))) + (1 : Int32))) fun h1 => some ((-4 : Int32), h1)))
def fX9_bits_4 : Nat → Int32 → Int32 → Option (Int32)
  | 0, _, _ => none
  | n + 1, l1, l2 => if l2 ≤ 0 then some l1 else oL (l1 + (l2 &&& (1 : Int32))) fun v1 => oL (jshr l2 (1 : Int32)) fun v2 => fX9_bits_4 n v1 v2
def fX9_bits (a0 : Int32) : Option (Int32) :=
  fX9_bits_4 FU (0 : Int32) a0
def fX9_has (a0 : Int32) (a1 : Int32) : Option (Int32) :=
  if ((jshr a0 a1) &&& (1 : Int32)) = (1 : Int32) then some (1 : Int32) else some (0 : Int32)
def fX9_begin_2 : Nat → Nat → Int32 → AH → Option (AH)
  | 0, _, _, _ => none
  | n + 1, l0, l1, h => if (112 : Int32) ≤ l1 then some h else oG (inb l1 (SZ l0)) (oL (sI h l0 (ix l1) (0 : Int32)) fun h1 => oL (l1 + (1 : Int32)) fun v2 => fX9_begin_2 n l0 v2 h1)
def fX9_begin (a0 : Nat) (h : AH) : Option (AH) :=
  fX9_begin_2 FU a0 (0 : Int32) h
def fX9_many (th : Nat) (h : AH) : Option (Int32) :=
  oG (inb (0 : Int32) (SZ (PC th 0))) (some (hI h (PC th 0) (ix (0 : Int32))))
def fX9_manyWatchers (th : Nat) (h : AH) : Option (Int32) :=
  oG (inb (1 : Int32) (SZ (PC th 0))) (some (hI h (PC th 0) (ix (1 : Int32))))
def fX9_isShow (th : Nat) (a1 : Int32) (h : AH) : Option (Int32) :=
  ob (fX9_many th h) fun v2 => ob (fX9_in a1.toInt64 (0 : Int64) ((v2 - (1 : Int32)).toInt64)) fun v4 => oG (isB v4) (some v4)
def fX9_isWatcher (th : Nat) (a1 : Int32) (h : AH) : Option (Int32) :=
  ob (fX9_manyWatchers th h) fun v2 => ob (fX9_in a1.toInt64 (0 : Int64) ((v2 - (1 : Int32)).toInt64)) fun v4 => oG (isB v4) (some v4)
def fX9_isCell (a0 : Int32) : Option (Int32) :=
  ob (fX9_in a0.toInt64 (0 : Int64) (29 : Int64)) fun v2 => oG (isB v2) (some v2)
def fX9_isStep (a0 : Int32) : Option (Int32) :=
  ob (fX9_in a0.toInt64 (0 : Int64) (11 : Int64)) fun v2 => oG (isB v2) (some v2)
def fX9_isFar (a0 : Int32) : Option (Int32) :=
  ob (fX9_in a0.toInt64 (0 : Int64) (9 : Int64)) fun v2 => oG (isB v2) (some v2)
def fX9_land (th : Nat) (h : AH) : Option (Int32 × AH) :=
  ob (fX9_manyWatchers th h) fun v2 => ob (fX9_begin (PC th 0) h) fun h4 => some (v2, h4)
def fX9_layShow (a0 : Nat) (a1 : Int32) (a2 : Int32) (a3 : Int32) (h : AH) : Option (AH) :=
  oG (inb (0 : Int32) (SZ a0)) (oL (hI h a0 (ix (0 : Int32))) fun v1 => oG (inb ((30 : Int32) + v1) (SZ a0)) (oL (sI h a0 (ix ((30 : Int32) + v1)) a1) fun h2 => oG (inb ((14 : Int32) + v1) (SZ a0)) (oL (sI h2 a0 (ix ((14 : Int32) + v1)) a2) fun h3 => oG (inb ((35 : Int32) + v1) (SZ a0)) (oL (sI h3 a0 (ix ((35 : Int32) + v1)) a3) fun h4 => oG (inb ((25 : Int32) + v1) (SZ a0)) (oL (sI h4 a0 (ix ((25 : Int32) + v1)) (1 : Int32)) fun h5 => oG (inb (0 : Int32) (SZ a0)) (oG (inb (0 : Int32) (SZ a0)) (oL (sI h5 a0 (ix (0 : Int32)) ((hI h5 a0 (ix (0 : Int32))) + (1 : Int32))) fun h6 => some h6)))))))
def fX9_show_31 (l0 : Nat) (h : AH) : Option (Int32 × AH) :=
  ob2 (fX9_bad l0 (-2 : Int32) h) fun v5 h4 => some (v5, h4)
def fX9_show (th : Nat) (a1 : Int32) (a2 : Int32) (a3 : Int32) (h : AH) : Option (Int32 × AH) :=
  ob (fX9_in a1.toInt64 (0 : Int64) (5 : Int64)) fun v2 => if v2 = 0 then fX9_show_31 th h else ob (fX9_isCell a2) fun v7 => if v7 = 0 then fX9_show_31 th h else ob (fX9_in a3.toInt64 (1 : Int64) (9 : Int64)) fun v9 => if v9 = 0 then fX9_show_31 th h else ob (fX9_many th h) fun v11 => if v11 = (5 : Int32) then ob2 (fX9_full th h) fun v19 h18 => some (v19, h18) else ob (fX9_layShow (PC th 0) a1 a2 a3 h) fun h13 => oG (inb (5 : Int32) (SZ (PC th 0))) (oL (sI h13 (PC th 0) (ix (5 : Int32)) (0 : Int32)) fun h14 => ob (fX9_many th h14) fun v16 => some ((v16 - (1 : Int32)), h14))
def fX9_layWatcher (a0 : Nat) (a1 : Int32) (a2 : Int32) (h : AH) : Option (AH) :=
  oG (inb (1 : Int32) (SZ a0)) (oL (hI h a0 (ix (1 : Int32))) fun v1 => oG (inb ((40 : Int32) + v1) (SZ a0)) (oL (sI h a0 (ix ((40 : Int32) + v1)) a1) fun h2 => oG (inb ((19 : Int32) + v1) (SZ a0)) (oL (sI h2 a0 (ix ((19 : Int32) + v1)) a2) fun h3 => oG (inb ((6 : Int32) + v1) (SZ a0)) (oL (sI h3 a0 (ix ((6 : Int32) + v1)) (0 : Int32)) fun h4 => oG (inb (1 : Int32) (SZ a0)) (oG (inb (1 : Int32) (SZ a0)) (oL (sI h4 a0 (ix (1 : Int32)) ((hI h4 a0 (ix (1 : Int32))) + (1 : Int32))) fun h5 => some h5))))))
def fX9_watcher_19 (l0 : Nat) (h : AH) : Option (Int32 × AH) :=
  ob2 (fX9_bad l0 (-2 : Int32) h) fun v5 h4 => some (v5, h4)
def fX9_watcher (th : Nat) (a1 : Int32) (a2 : Int32) (h : AH) : Option (Int32 × AH) :=
  ob (fX9_in a1.toInt64 (0 : Int64) (5 : Int64)) fun v2 => if v2 = 0 then fX9_watcher_19 th h else ob (fX9_isCell a2) fun v7 => if v7 = 0 then fX9_watcher_19 th h else ob (fX9_manyWatchers th h) fun v9 => if v9 = (6 : Int32) then ob2 (fX9_full th h) fun v17 h16 => some (v17, h16) else ob (fX9_layWatcher (PC th 0) a1 a2 h) fun h11 => oG (inb (5 : Int32) (SZ (PC th 0))) (oL (sI h11 (PC th 0) (ix (5 : Int32)) (0 : Int32)) fun h12 => ob (fX9_manyWatchers th h12) fun v14 => some ((v14 - (1 : Int32)), h12))
def fX9_plainPull (a0 : Int32) (a1 : Int32) : Option (Int32) :=
  if ((2 : Int32) * a1) ≤ a0 then some (0 : Int32) else some (((2 : Int32) * a1) - a0)
def fX9_firePull_17 (s0 : Int32) (s1 : Int32) (s2 : Int32) : Option (Int32) :=
  oL (s0 * (s1 + s2)) fun v3 => if v3 ≤ (30 : Int32) then some v3 else some (30 : Int32)
def fX9_firePull (a0 : Int32) (a1 : Int32) (a2 : Int32) : Option (Int32) :=
  ob (fX9_plainPull a0 a2) fun v2 => if (jrem a1 (2 : Int32)) = 0 then fX9_firePull_17 (2 : Int32) v2 (3 : Int32) else fX9_firePull_17 (2 : Int32) v2 (0 : Int32)
def fX9_pullAs_18 (l0 : Int32) (l1 : Int32) (l2 : Int32) (l3 : Int32) (l4 : Int32) (s0 : Int32) : Option (Int32) :=
  if l0 = (1 : Int32) then if (jrem l2 (2 : Int32)) = 0 then some (l4 + (3 : Int32)) else some l4 else if l0 = (2 : Int32) then some s0 else if l0 = (3 : Int32) then ob (fX9_firePull l1 l2 l3) fun v6 => some v6 else if l0 = (4 : Int32) then if l2 < (6 : Int32) then some (0 : Int32) else ob (fX9_firePull l1 l2 l3) fun v9 => some v9 else if l0 = (5 : Int32) then if s0 < (1 : Int32) then some s0 else some (s0 + (1 : Int32)) else some l4
def fX9_pullAs (a0 : Int32) (a1 : Int32) (a2 : Int32) (a3 : Int32) : Option (Int32) :=
  ob (fX9_plainPull a1 a3) fun v2 => if a1 ≤ (5 : Int32) then fX9_pullAs_18 a0 a1 a2 a3 v2 v2 else fX9_pullAs_18 a0 a1 a2 a3 v2 (0 : Int32)
def fX9_notesAs_16 (l0 : Int32) (s0 : Int32) : Option (Int32) :=
  if l0 = (3 : Int32) then some (s0 + (4 : Int32)) else if l0 = (5 : Int32) then some ((s0 + (1 : Int32)) / (2 : Int32)) else some s0
def fX9_notesAs (a0 : Int32) (a1 : Int32) : Option (Int32) :=
  if (6 : Int32) ≤ a1 then fX9_notesAs_16 a0 (0 : Int32) else fX9_notesAs_16 a0 ((12 : Int32) - ((2 : Int32) * a1))
def fX9_drawnAs (a0 : Int32) (a1 : Int32) : Option (Int32) :=
  oL (((2 : Int32) * a1) + (2 : Int32)) fun v1 => if a0 = (1 : Int32) then some ((2 : Int32) * a1) else if a0 = (2 : Int32) then some (0 : Int32) else if a0 = (3 : Int32) then some a1 else if a0 = (4 : Int32) then some v1 else if a0 = (5 : Int32) then some (v1 / (2 : Int32)) else some a1
def fX9_seesAs (a0 : Int32) (a1 : Int32) (a2 : Int32) : Option (Int32) :=
  ob (fX9_notesAs a0 a1) fun v2 => ob (fX9_drawnAs a0 a2) fun v4 => if v2 ≤ v4 then some (0 : Int32) else some (1 : Int32)
def fX9_distance_40 (s0 : Int32) (s1 : Int32) : Option (Int32) :=
  some (s0 + s1)
def fX9_distance_30 (l3 : Int32) (s0 : Int32) : Option (Int32) :=
  if 0 ≤ l3 then fX9_distance_40 s0 l3 else fX9_distance_40 s0 (-l3)
def fX9_distance (a0 : Int32) (a1 : Int32) : Option (Int32) :=
  oL ((a0 / (6 : Int32)) - (a1 / (6 : Int32))) fun v1 => oL ((jrem a0 (6 : Int32)) - (jrem a1 (6 : Int32))) fun v2 => if 0 ≤ v1 then fX9_distance_30 v2 v1 else fX9_distance_30 v2 (-v1)
def fX9_pullAt (a0 : Nat) (a1 : Int32) (a2 : Int32) (a3 : Int32) (h : AH) : Option (Int32) :=
  oG (inb ((30 : Int32) + a1) (SZ a0)) (oG (inb ((14 : Int32) + a1) (SZ a0)) (ob (fX9_distance (hI h a0 (ix ((14 : Int32) + a1))) a2) fun v2 => oG (inb ((35 : Int32) + a1) (SZ a0)) (ob (fX9_pullAs (hI h a0 (ix ((30 : Int32) + a1))) v2 a3 (hI h a0 (ix ((35 : Int32) + a1)))) fun v4 => some v4)))
def fX9_greatest_51 (h : AH) (k6 : Nat → Int32 → Int32 → Int32 → Int32 → Int32 → Option (Int32)) (l0 : Nat) (l1 : Int32) (l2 : Int32) (l3 : Int32) (l5 : Int32) (s0 : Int32) : Option (Int32) :=
  oL (l5 + (1 : Int32)) fun v3 => k6 l0 l1 l2 l3 s0 v3
def fX9_greatest_35 (h : AH) (k6 : Nat → Int32 → Int32 → Int32 → Int32 → Int32 → Option (Int32)) (l0 : Nat) (l1 : Int32) (l2 : Int32) (l3 : Int32) (l4 : Int32) (l5 : Int32) (s0 : Int32) : Option (Int32) :=
  if s0 ≤ l4 then fX9_greatest_51 h k6 l0 l1 l2 l3 l5 l4 else fX9_greatest_51 h k6 l0 l1 l2 l3 l5 s0
def fX9_greatest_6 (h : AH) : Nat → Nat → Int32 → Int32 → Int32 → Int32 → Int32 → Option (Int32)
  | 0, _, _, _, _, _, _ => none
  | n + 1, l0, l1, l2, l3, l4, l5 => oG (inb (0 : Int32) (SZ l0)) (if (hI h l0 (ix (0 : Int32))) ≤ l5 then some l4 else ob (fX9_has l1 l5) fun v2 => if v2 = 0 then fX9_greatest_35 h (fX9_greatest_6 h n) l0 l1 l2 l3 l4 l5 (0 : Int32) else ob (fX9_pullAt l0 l5 l2 l3 h) fun v5 => fX9_greatest_35 h (fX9_greatest_6 h n) l0 l1 l2 l3 l4 l5 v5)
def fX9_greatest (a0 : Nat) (a1 : Int32) (a2 : Int32) (a3 : Int32) (h : AH) : Option (Int32) :=
  fX9_greatest_6 h FU a0 a1 a2 a3 (0 : Int32) (0 : Int32)
def fX9_isOn_4 (h : AH) : Nat → Nat → Int32 → Int32 → Option (Int32)
  | 0, _, _, _ => none
  | n + 1, l0, l1, l2 => oG (inb (0 : Int32) (SZ l0)) (if (hI h l0 (ix (0 : Int32))) ≤ l2 then some l1 else oG (inb ((25 : Int32) + l2) (SZ l0)) (oL (l1 ||| (jshl (hI h l0 (ix ((25 : Int32) + l2))) l2)) fun v1 => oL (l2 + (1 : Int32)) fun v2 => fX9_isOn_4 h n l0 v1 v2))
def fX9_isOn (a0 : Nat) (h : AH) : Option (Int32) :=
  fX9_isOn_4 h FU a0 (0 : Int32) (0 : Int32)
def fX9_seesFrom (a0 : Nat) (a1 : Int32) (a2 : Int32) (a3 : Int32) (a4 : Int32) (a5 : Int32) (h : AH) : Option (Int32) :=
  ob (fX9_distance a2 a3) fun v2 => ob (fX9_greatest a0 a4 a2 a5 h) fun v4 => ob (fX9_seesAs a1 v2 v4) fun v6 => oG (isB v6) (some v6)
def fX9_whoSees_48 (h : AH) (k6 : Nat → Int32 → Int32 → Int32 → Int32 → Int32 → Option (Int32)) (l0 : Nat) (l1 : Int32) (l2 : Int32) (l3 : Int32) (l5 : Int32) (s0 : Int32) (s1 : Int32) : Option (Int32) :=
  oL (s0 ||| s1) fun v3 => oL (l5 + (1 : Int32)) fun v4 => k6 l0 l1 l2 l3 v3 v4
def fX9_whoSees_6 (h : AH) : Nat → Nat → Int32 → Int32 → Int32 → Int32 → Int32 → Option (Int32)
  | 0, _, _, _, _, _, _ => none
  | n + 1, l0, l1, l2, l3, l4, l5 => oG (inb (1 : Int32) (SZ l0)) (if (hI h l0 (ix (1 : Int32))) ≤ l5 then some l4 else oG (inb ((40 : Int32) + l5) (SZ l0)) (oG (inb ((19 : Int32) + l5) (SZ l0)) (ob (fX9_seesFrom l0 (hI h l0 (ix ((40 : Int32) + l5))) (hI h l0 (ix ((19 : Int32) + l5))) l1 l2 l3 h) fun v2 => if v2 = 0 then fX9_whoSees_48 h (fX9_whoSees_6 h n) l0 l1 l2 l3 l5 l4 (0 : Int32) else fX9_whoSees_48 h (fX9_whoSees_6 h n) l0 l1 l2 l3 l5 l4 (jshl (1 : Int32) l5))))
def fX9_whoSees (a0 : Nat) (a1 : Int32) (a2 : Int32) (a3 : Int32) (h : AH) : Option (Int32) :=
  fX9_whoSees_6 h FU a0 a1 a2 a3 (0 : Int32) (0 : Int32)
def fX9_stepNow (th : Nat) (h : AH) : Option (Int32) :=
  oG (inb (13 : Int32) (SZ (PC th 0))) (some (jrem (hI h (PC th 0) (ix (13 : Int32))) (12 : Int32)))
def fX9_keep_95 (l0 : Nat) (h : AH) : Option (AH) :=
  oG (inb (5 : Int32) (SZ (PC l0 0))) (oG (inb (5 : Int32) (SZ (PC l0 0))) (oL (sI h (PC l0 0) (ix (5 : Int32)) ((hI h (PC l0 0) (ix (5 : Int32))) + (1 : Int32))) fun h1 => some h1))
def fX9_keep_55 : Nat → Nat → Int32 → AH → Option (AH)
  | 0, _, _, _ => none
  | n + 1, l0, l1, h => if (24 : Int32) ≤ l1 then fX9_keep_95 l0 h else oG (inb (5 : Int32) (SZ (PC l0 0))) (oG (inb ((6 : Int32) + l1) (SZ (PC l0 0))) (oG (inb (((112 : Int32) + ((24 : Int32) * (hI h (PC l0 0) (ix (5 : Int32))))) + l1) (SZ (PC l0 0))) (oL (sI h (PC l0 0) (ix (((112 : Int32) + ((24 : Int32) * (hI h (PC l0 0) (ix (5 : Int32))))) + l1)) (hI h (PC l0 0) (ix ((6 : Int32) + l1)))) fun h2 => oL (l1 + (1 : Int32)) fun v3 => fX9_keep_55 n l0 v3 h2)))
def fX9_keep_53 (l0 : Nat) (h : AH) : Option (AH) :=
  fX9_keep_55 FU l0 (0 : Int32) h
def fX9_keep_45 (l0 : Nat) (h : AH) : Option (AH) :=
  oG (inb (5 : Int32) (SZ (PC l0 0))) (oL (sI h (PC l0 0) (ix (5 : Int32)) (7 : Int32)) fun h4 => fX9_keep_53 l0 h4)
def fX9_keep_13 : Nat → Nat → Int32 → AH → Option (AH)
  | 0, _, _, _ => none
  | n + 1, l0, l1, h => if (168 : Int32) ≤ l1 then fX9_keep_45 l0 h else oG (inb ((136 : Int32) + l1) (SZ (PC l0 0))) (oG (inb ((112 : Int32) + l1) (SZ (PC l0 0))) (oL (sI h (PC l0 0) (ix ((112 : Int32) + l1)) (hI h (PC l0 0) (ix ((136 : Int32) + l1)))) fun h5 => oL (l1 + (1 : Int32)) fun v6 => fX9_keep_13 n l0 v6 h5))
def fX9_keep (th : Nat) (h : AH) : Option (AH) :=
  oG (inb (5 : Int32) (SZ (PC th 0))) (if (hI h (PC th 0) (ix (5 : Int32))) = (8 : Int32) then fX9_keep_13 FU th (0 : Int32) h else fX9_keep_53 th h)
def fX9_goDoing_74 (l2 : Int32) (s0 : Nat) (s1 : Int32) (s2 : Int32) (s3 : Int32) (h : AH) : Option (Int32 × AH) :=
  oG (inb s1 (SZ s0)) (oL (sI h s0 (ix s1) (s2 + s3)) fun h6 => some (l2, h6))
def fX9_goDoing_46 (l0 : Nat) (l2 : Int32) (h : AH) : Option (Int32 × AH) :=
  oG (inb (12 : Int32) (SZ l0)) (oG (inb (12 : Int32) (SZ l0)) (oL (sI h l0 (ix (12 : Int32)) ((hI h l0 (ix (12 : Int32))) + (1 : Int32))) fun h5 => oG (inb (13 : Int32) (SZ l0)) (oG (inb (13 : Int32) (SZ l0)) (if (9999 : Int32) ≤ (hI h5 l0 (ix (13 : Int32))) then fX9_goDoing_74 l2 l0 (13 : Int32) (hI h5 l0 (ix (13 : Int32))) (0 : Int32) h5 else fX9_goDoing_74 l2 l0 (13 : Int32) (hI h5 l0 (ix (13 : Int32))) (1 : Int32) h5))))
def fX9_goDoing_19 : Nat → Nat → Int32 → Int32 → AH → Option (Int32 × AH)
  | 0, _, _, _, _ => none
  | n + 1, l0, l2, l3, h => oG (inb (1 : Int32) (SZ l0)) (if (hI h l0 (ix (1 : Int32))) ≤ l3 then fX9_goDoing_46 l0 l2 h else oG (inb ((6 : Int32) + l3) (SZ l0)) (oG (inb ((6 : Int32) + l3) (SZ l0)) (oL (sI h l0 (ix ((6 : Int32) + l3)) ((hI h l0 (ix ((6 : Int32) + l3))) + ((jshr l2 l3) &&& (1 : Int32)))) fun h7 => oL (l3 + (1 : Int32)) fun v8 => fX9_goDoing_19 n l0 l2 v8 h7)))
def fX9_goDoing (a0 : Nat) (a1 : Int32) (h : AH) : Option (Int32 × AH) :=
  ob (fX9_isOn a0 h) fun v2 => oG (inb (13 : Int32) (SZ a0)) (ob (fX9_whoSees a0 a1 v2 (jrem (hI h a0 (ix (13 : Int32))) (12 : Int32)) h) fun v4 => fX9_goDoing_19 FU a0 v4 (0 : Int32) h)
def fX9_does (th : Nat) (a1 : Int32) (h : AH) : Option (Int32 × AH) :=
  ob (fX9_isCell a1) fun v2 => if v2 = 0 then ob2 (fX9_bad th (-2 : Int32) h) fun v10 h9 => some (v10, h9) else ob (fX9_keep th h) fun h4 => ob2 (fX9_goDoing (PC th 0) a1 h4) fun v7 h6 => some (v7, h6)
def fX9_goRest_27 (s0 : Nat) (s1 : Int32) (s2 : Int32) (h : AH) : Option (AH) :=
  oG (inb s1 (SZ s0)) (oL (sI h s0 (ix s1) s2) fun h1 => some h1)
def fX9_goRest (a0 : Nat) (a1 : Int32) (h : AH) : Option (AH) :=
  oG (inb (13 : Int32) (SZ a0)) (if ((hI h a0 (ix (13 : Int32))) + a1) ≤ (9999 : Int32) then oG (inb (13 : Int32) (SZ a0)) (fX9_goRest_27 a0 (13 : Int32) ((hI h a0 (ix (13 : Int32))) + a1) h) else fX9_goRest_27 a0 (13 : Int32) (9999 : Int32) h)
def fX9_rest (th : Nat) (a1 : Int32) (h : AH) : Option (Int32 × AH) :=
  ob (fX9_in a1.toInt64 (1 : Int64) (99 : Int64)) fun v2 => if v2 = 0 then ob2 (fX9_bad th (-2 : Int32) h) fun v9 h8 => some (v9, h8) else ob (fX9_keep th h) fun h4 => ob (fX9_goRest (PC th 0) a1 h4) fun h6 => oG (inb (13 : Int32) (SZ (PC th 0))) (some ((hI h6 (PC th 0) (ix (13 : Int32))), h6))
def fX9_put (th : Nat) (a1 : Int32) (a2 : Int32) (h : AH) : Option (Int32 × AH) :=
  oG (inb a1 (SZ (PC th 0))) (oL (hI h (PC th 0) (ix a1)) fun v1 => ob (fX9_keep th h) fun h3 => oG (inb a1 (SZ (PC th 0))) (oL (sI h3 (PC th 0) (ix a1) a2) fun h4 => some (v1, h4)))
def fX9_moves_27 (l0 : Nat) (h : AH) : Option (Int32 × AH) :=
  ob2 (fX9_bad l0 (-2 : Int32) h) fun v5 h4 => some (v5, h4)
def fX9_moves (th : Nat) (a1 : Int32) (a2 : Int32) (h : AH) : Option (Int32 × AH) :=
  ob (fX9_isShow th a1 h) fun v2 => if v2 = 0 then fX9_moves_27 th h else ob (fX9_isCell a2) fun v7 => if v7 = 0 then fX9_moves_27 th h else ob2 (fX9_put th ((14 : Int32) + a1) a2 h) fun v10 h9 => some (v10, h9)
def fX9_turns_30 (l0 : Nat) (h : AH) : Option (Int32 × AH) :=
  ob2 (fX9_bad l0 (-2 : Int32) h) fun v5 h4 => some (v5, h4)
def fX9_turns (th : Nat) (a1 : Int32) (a2 : Int32) (h : AH) : Option (Int32 × AH) :=
  ob (fX9_isShow th a1 h) fun v2 => if v2 = 0 then fX9_turns_30 th h else ob (fX9_in a2.toInt64 (0 : Int64) (1 : Int64)) fun v7 => if v7 = 0 then fX9_turns_30 th h else ob2 (fX9_put th ((25 : Int32) + a1) a2 h) fun v10 h9 => some (v10, h9)
def fX9_sends_27 (l0 : Nat) (h : AH) : Option (Int32 × AH) :=
  ob2 (fX9_bad l0 (-2 : Int32) h) fun v5 h4 => some (v5, h4)
def fX9_sends (th : Nat) (a1 : Int32) (a2 : Int32) (h : AH) : Option (Int32 × AH) :=
  ob (fX9_isWatcher th a1 h) fun v2 => if v2 = 0 then fX9_sends_27 th h else ob (fX9_isCell a2) fun v7 => if v7 = 0 then fX9_sends_27 th h else ob2 (fX9_put th ((19 : Int32) + a1) a2 h) fun v10 h9 => some (v10, h9)
def fX9_undo_66 (l0 : Nat) (h : AH) : Option (Int32 × AH) :=
  oG (inb (13 : Int32) (SZ (PC l0 0))) (some ((hI h (PC l0 0) (ix (13 : Int32))), h))
def fX9_undo_26 : Nat → Nat → Int32 → AH → Option (Int32 × AH)
  | 0, _, _, _ => none
  | n + 1, l0, l1, h => if (24 : Int32) ≤ l1 then fX9_undo_66 l0 h else oG (inb (5 : Int32) (SZ (PC l0 0))) (oG (inb (((112 : Int32) + ((24 : Int32) * (hI h (PC l0 0) (ix (5 : Int32))))) + l1) (SZ (PC l0 0))) (oG (inb ((6 : Int32) + l1) (SZ (PC l0 0))) (oL (sI h (PC l0 0) (ix ((6 : Int32) + l1)) (hI h (PC l0 0) (ix (((112 : Int32) + ((24 : Int32) * (hI h (PC l0 0) (ix (5 : Int32))))) + l1)))) fun h2 => oL (l1 + (1 : Int32)) fun v3 => fX9_undo_26 n l0 v3 h2)))
def fX9_undo (th : Nat) (h : AH) : Option (Int32 × AH) :=
  oG (inb (5 : Int32) (SZ (PC th 0))) (if (hI h (PC th 0) (ix (5 : Int32))) = 0 then ob2 (fX9_no th h) fun v6 h5 => some (v6, h5) else oG (inb (5 : Int32) (SZ (PC th 0))) (oG (inb (5 : Int32) (SZ (PC th 0))) (oL (sI h (PC th 0) (ix (5 : Int32)) ((hI h (PC th 0) (ix (5 : Int32))) - (1 : Int32))) fun h1 => fX9_undo_26 FU th (0 : Int32) h1)))
def fX9_of_20 (l0 : Nat) (h : AH) : Option (Int32 × AH) :=
  ob2 (fX9_bad l0 (-2 : Int32) h) fun v5 h4 => some (v5, h4)
def fX9_of (th : Nat) (a1 : Int32) (a2 : Int32) (h : AH) : Option (Int32 × AH) :=
  ob (fX9_isShow th a1 h) fun v2 => if v2 = 0 then fX9_of_20 th h else ob (fX9_in a2.toInt64 (0 : Int64) (3 : Int64)) fun v7 => if v7 = 0 then fX9_of_20 th h else if a2 = (0 : Int32) then oG (inb ((30 : Int32) + a1) (SZ (PC th 0))) (some ((hI h (PC th 0) (ix ((30 : Int32) + a1))), h)) else if a2 = (1 : Int32) then oG (inb ((14 : Int32) + a1) (SZ (PC th 0))) (some ((hI h (PC th 0) (ix ((14 : Int32) + a1))), h)) else if a2 = (2 : Int32) then oG (inb ((35 : Int32) + a1) (SZ (PC th 0))) (some ((hI h (PC th 0) (ix ((35 : Int32) + a1))), h)) else oG (inb ((25 : Int32) + a1) (SZ (PC th 0))) (some ((hI h (PC th 0) (ix ((25 : Int32) + a1))), h))
def fX9_about_20 (l0 : Nat) (h : AH) : Option (Int32 × AH) :=
  ob2 (fX9_bad l0 (-2 : Int32) h) fun v5 h4 => some (v5, h4)
def fX9_about_52 (l1 : Int32) (s0 : Nat) (s1 : Int32) (h : AH) : Option (Int32 × AH) :=
  oG (inb (s1 + l1) (SZ s0)) (some ((hI h s0 (ix (s1 + l1))), h))
def fX9_about (th : Nat) (a1 : Int32) (a2 : Int32) (h : AH) : Option (Int32 × AH) :=
  ob (fX9_isWatcher th a1 h) fun v2 => if v2 = 0 then fX9_about_20 th h else ob (fX9_in a2.toInt64 (0 : Int64) (2 : Int64)) fun v7 => if v7 = 0 then fX9_about_20 th h else if a2 = 0 then fX9_about_52 a1 (PC th 0) (40 : Int32) h else if a2 = (1 : Int32) then fX9_about_52 a1 (PC th 0) (19 : Int32) h else fX9_about_52 a1 (PC th 0) (6 : Int32) h
def fX9_pull_40 (l0 : Nat) (h : AH) : Option (Int32 × AH) :=
  ob2 (fX9_bad l0 (-2 : Int32) h) fun v5 h4 => some (v5, h4)
def fX9_pull (th : Nat) (a1 : Int32) (a2 : Int32) (h : AH) : Option (Int32 × AH) :=
  ob (fX9_isShow th a1 h) fun v2 => if v2 = 0 then fX9_pull_40 th h else ob (fX9_isWatcher th a2 h) fun v7 => if v7 = 0 then fX9_pull_40 th h else oG (inb ((19 : Int32) + a2) (SZ (PC th 0))) (ob (fX9_stepNow th h) fun v9 => ob (fX9_pullAt (PC th 0) a1 (hI h (PC th 0) (ix ((19 : Int32) + a2))) v9 h) fun v11 => some (v11, h))
def fX9_drawn_18 (l0 : Nat) (h : AH) : Option (Int32 × AH) :=
  ob2 (fX9_bad l0 (-2 : Int32) h) fun v5 h4 => some (v5, h4)
def fX9_drawn_75 : Nat → Nat → Int32 → Int32 → Int32 → AH → Option (Int32 × AH)
  | 0, _, _, _, _, _ => none
  | n + 1, l0, l1, l3, l4, h => ob (fX9_many l0 h) fun v15 => if v15 ≤ l4 then some ((-1 : Int32), h) else if l3 ≤ 0 then some ((-1 : Int32), h) else oG (inb ((25 : Int32) + l4) (SZ (PC l0 0))) (if (hI h (PC l0 0) (ix ((25 : Int32) + l4))) = (1 : Int32) then ob2 (fX9_pull l0 l4 l1 h) fun v19 h18 => if v19 = l3 then some (l4, h18) else oL (l4 + (1 : Int32)) fun v20 => fX9_drawn_75 n l0 l1 l3 v20 h18 else oL (l4 + (1 : Int32)) fun v16 => fX9_drawn_75 n l0 l1 l3 v16 h)
def fX9_drawn (th : Nat) (a1 : Int32) (a2 : Int32) (h : AH) : Option (Int32 × AH) :=
  ob (fX9_isWatcher th a1 h) fun v2 => if v2 = 0 then fX9_drawn_18 th h else ob (fX9_in a2.toInt64 (0 : Int64) (1 : Int64)) fun v7 => if v7 = 0 then fX9_drawn_18 th h else ob (fX9_isOn (PC th 0) h) fun v9 => oG (inb ((19 : Int32) + a1) (SZ (PC th 0))) (ob (fX9_stepNow th h) fun v11 => ob (fX9_greatest (PC th 0) v9 (hI h (PC th 0) (ix ((19 : Int32) + a1))) v11 h) fun v13 => if a2 = (1 : Int32) then oG (inb ((40 : Int32) + a1) (SZ (PC th 0))) (ob (fX9_drawnAs (hI h (PC th 0) (ix ((40 : Int32) + a1))) v13) fun v22 => some (v22, h)) else fX9_drawn_75 FU th a1 v13 (0 : Int32) h)
def fX9_sees_25 (l0 : Nat) (h : AH) : Option (Int32 × AH) :=
  ob2 (fX9_bad l0 (-2 : Int32) h) fun v7 h6 => some (v7, h6)
def fX9_sees (th : Nat) (a1 : Int32) (a2 : Int32) (h : AH) : Option (Int32 × AH) :=
  ob (fX9_manyWatchers th h) fun v2 => ob (fX9_in a1.toInt64 (-1 : Int64) ((v2 - (1 : Int32)).toInt64)) fun v4 => if v4 = 0 then fX9_sees_25 th h else ob (fX9_isCell a2) fun v9 => if v9 = 0 then fX9_sees_25 th h else ob (fX9_isOn (PC th 0) h) fun v11 => ob (fX9_stepNow th h) fun v13 => ob (fX9_whoSees (PC th 0) a2 v11 v13 h) fun v15 => if a1 = (-1 : Int32) then some (v15, h) else some (((jshr v15 a1) &&& (1 : Int32)), h)
def fX9_unseen_51 (k18 : Nat → Int32 → Int32 → Int32 → AH → Option (Int32 × AH)) (l0 : Nat) (l1 : Int32) (l3 : Int32) (s0 : Int32) (s1 : Int32) (h : AH) : Option (Int32 × AH) :=
  oL (s0 ||| s1) fun v7 => oL (l3 + (1 : Int32)) fun v8 => k18 l0 l1 v7 v8 h
def fX9_unseen_18 : Nat → Nat → Int32 → Int32 → Int32 → AH → Option (Int32 × AH)
  | 0, _, _, _, _, _ => none
  | n + 1, l0, l1, l2, l3, h => if (30 : Int32) ≤ l3 then some (l2, h) else ob (fX9_isOn (PC l0 0) h) fun v4 => ob (fX9_whoSees (PC l0 0) l3 v4 l1 h) fun v6 => if v6 = 0 then fX9_unseen_51 (fX9_unseen_18 n) l0 l1 l3 l2 (jshl (1 : Int32) l3) h else fX9_unseen_51 (fX9_unseen_18 n) l0 l1 l3 l2 (0 : Int32) h
def fX9_unseen (th : Nat) (a1 : Int32) (h : AH) : Option (Int32 × AH) :=
  ob (fX9_isStep a1) fun v2 => if v2 = 0 then ob2 (fX9_bad th (-2 : Int32) h) fun v11 h10 => some (v11, h10) else fX9_unseen_18 FU th a1 (0 : Int32) (0 : Int32) h
def fX9_isUnseenIn (th : Nat) (a1 : Int32) (a2 : Int32) (h : AH) : Option (Int32) :=
  ob (fX9_isOn (PC th 0) h) fun v2 => oG (inb (13 : Int32) (SZ (PC th 0))) (ob (fX9_whoSees (PC th 0) a1 v2 (jrem ((hI h (PC th 0) (ix (13 : Int32))) + a2) (12 : Int32)) h) fun v4 => if v4 = 0 then some (1 : Int32) else some (0 : Int32))
def fX9_when_16 : Nat → Nat → Int32 → Int32 → AH → Option (Int32 × AH)
  | 0, _, _, _, _ => none
  | n + 1, l0, l1, l2, h => if (24 : Int32) ≤ l2 then some ((-1 : Int32), h) else ob (fX9_isUnseenIn l0 l1 l2 h) fun v4 => if v4 = 0 then oL (l2 + (1 : Int32)) fun v5 => fX9_when_16 n l0 l1 v5 h else some (l2, h)
def fX9_when (th : Nat) (a1 : Int32) (h : AH) : Option (Int32 × AH) :=
  ob (fX9_isCell a1) fun v2 => if v2 = 0 then ob2 (fX9_bad th (-2 : Int32) h) fun v8 h7 => some (v8, h7) else fX9_when_16 FU th a1 (0 : Int32) h
def fX9_enough_77 (k18 : Nat → Int32 → Int32 → Int32 → AH → Option (Int32 × AH)) (l0 : Nat) (l1 : Int32) (l3 : Int32) (s0 : Int32) (h : AH) : Option (Int32 × AH) :=
  oL (l3 + (1 : Int32)) fun v5 => k18 l0 l1 s0 v5 h
def fX9_enough_76 (k18 : Nat → Int32 → Int32 → Int32 → AH → Option (Int32 × AH)) (l0 : Nat) (l1 : Int32) (l2 : Int32) (l3 : Int32) (h : AH) : Option (Int32 × AH) :=
  fX9_enough_77 k18 l0 l1 l3 l2 h
def fX9_enough_49 (k18 : Nat → Int32 → Int32 → Int32 → AH → Option (Int32 × AH)) (l0 : Nat) (l1 : Int32) (l2 : Int32) (l3 : Int32) (s0 : Int32) (h : AH) : Option (Int32 × AH) :=
  if s0 = 0 then fX9_enough_76 k18 l0 l1 l2 l3 h else ob (fX9_stepNow l0 h) fun v7 => ob (fX9_whoSees (PC l0 0) l1 l3 v7 h) fun v9 => if v9 = 0 then fX9_enough_77 k18 l0 l1 l3 l3 h else fX9_enough_76 k18 l0 l1 l2 l3 h
def fX9_enough_44 (k18 : Nat → Int32 → Int32 → Int32 → AH → Option (Int32 × AH)) (l0 : Nat) (l1 : Int32) (l2 : Int32) (l3 : Int32) (h : AH) : Option (Int32 × AH) :=
  fX9_enough_49 k18 l0 l1 l2 l3 (1 : Int32) h
def fX9_enough_18 : Nat → Nat → Int32 → Int32 → Int32 → AH → Option (Int32 × AH)
  | 0, _, _, _, _, _ => none
  | n + 1, l0, l1, l2, l3, h => ob (fX9_many l0 h) fun v4 => if (jshl (1 : Int32) v4) ≤ l3 then some (l2, h) else if l2 = (-1 : Int32) then fX9_enough_44 (fX9_enough_18 n) l0 l1 l2 l3 h else ob (fX9_bits l3) fun v11 => ob (fX9_bits l2) fun v13 => if v13 ≤ v11 then fX9_enough_49 (fX9_enough_18 n) l0 l1 l2 l3 (0 : Int32) h else fX9_enough_44 (fX9_enough_18 n) l0 l1 l2 l3 h
def fX9_enough (th : Nat) (a1 : Int32) (h : AH) : Option (Int32 × AH) :=
  ob (fX9_isCell a1) fun v2 => if v2 = 0 then ob2 (fX9_bad th (-2 : Int32) h) fun v16 h15 => some (v16, h15) else fX9_enough_18 FU th a1 (-1 : Int32) (0 : Int32) h
def fX9_layHand_2 : Nat → Nat → Int32 → AH → Option (AH)
  | 0, _, _, _ => none
  | n + 1, l0, l1, h => if (46 : Int32) ≤ l1 then some h else oG (inb l1 (SZ (PC l0 0))) (oG (inb l1 (SZ (PC l0 6))) (oL (sI h (PC l0 6) (ix l1) (hI h (PC l0 0) (ix l1))) fun h1 => oL (l1 + (1 : Int32)) fun v2 => fX9_layHand_2 n l0 v2 h1))
def fX9_layHand (th : Nat) (h : AH) : Option (AH) :=
  fX9_layHand_2 FU th (0 : Int32) h
def fX9_place_25 (l0 : Nat) (h : AH) : Option (Int32 × AH) :=
  ob2 (fX9_bad l0 (-2 : Int32) h) fun v5 h4 => some (v5, h4)
def fX9_place_136 (l3 : Int32) (l4 : Int32) (l5 : Int32) (h : AH) : Option (Int32 × AH) :=
  if l3 = 0 then some (l4, h) else some (l5, h)
def fX9_place_128 (k56 : Nat → Int32 → Int32 → Int32 → Int32 → Int32 → Int32 → AH → Option (Int32 × AH)) (l0 : Nat) (l1 : Int32) (l2 : Int32) (l3 : Int32) (l4 : Int32) (l6 : Int32) (s0 : Int32) (h : AH) : Option (Int32 × AH) :=
  oL (l6 + (1 : Int32)) fun v22 => k56 l0 l1 l2 l3 l4 s0 v22 h
def fX9_place_112 (k56 : Nat → Int32 → Int32 → Int32 → Int32 → Int32 → Int32 → AH → Option (Int32 × AH)) (l0 : Nat) (l1 : Int32) (l2 : Int32) (l3 : Int32) (l5 : Int32) (l6 : Int32) (l7 : Int32) (s0 : Int32) (h : AH) : Option (Int32 × AH) :=
  if l5 ≤ l7 then fX9_place_128 k56 l0 l1 l2 l3 s0 l6 l5 h else fX9_place_128 k56 l0 l1 l2 l3 s0 l6 l7 h
def fX9_place_56 : Nat → Nat → Int32 → Int32 → Int32 → Int32 → Int32 → Int32 → AH → Option (Int32 × AH)
  | 0, _, _, _, _, _, _, _, _ => none
  | n + 1, l0, l1, l2, l3, l4, l5, l6, h => if (30 : Int32) ≤ l6 then fX9_place_136 l3 l4 l5 h else oG (inb ((14 : Int32) + l1) (SZ (PC l0 6))) (oL (sI h (PC l0 6) (ix ((14 : Int32) + l1)) l6) fun h13 => ob (fX9_isOn (PC l0 6) h13) fun v15 => ob (fX9_stepNow l0 h13) fun v17 => ob (fX9_whoSees (PC l0 6) l2 v15 v17 h13) fun v19 => ob (fX9_bits v19) fun v21 => if l5 ≤ v21 then fX9_place_112 (fX9_place_56 n) l0 l1 l2 l3 l5 l6 v21 l4 h13 else fX9_place_112 (fX9_place_56 n) l0 l1 l2 l3 l5 l6 v21 l6 h13)
def fX9_place (th : Nat) (a1 : Int32) (a2 : Int32) (a3 : Int32) (h : AH) : Option (Int32 × AH) :=
  ob (fX9_isShow th a1 h) fun v2 => if v2 = 0 then fX9_place_25 th h else ob (fX9_isCell a2) fun v7 => if v7 = 0 then fX9_place_25 th h else ob (fX9_in a3.toInt64 (0 : Int64) (1 : Int64)) fun v9 => if v9 = 0 then fX9_place_25 th h else ob (fX9_layHand th h) fun h11 => oG (inb ((25 : Int32) + a1) (SZ (PC th 6))) (oL (sI h11 (PC th 6) (ix ((25 : Int32) + a1)) (1 : Int32)) fun h12 => fX9_place_56 FU th a1 a2 a3 (-1 : Int32) (1000000 : Int32) (0 : Int32) h12)
def fX9_layGoals_80 (l2 : Int32) (h : AH) : Option (Int32 × AH) :=
  if l2 = 0 then some ((-1 : Int32), h) else some (l2, h)
def fX9_layGoals_50 : Nat → Nat → Int32 → Int32 → Int32 → AH → Option (Int32 × AH)
  | 0, _, _, _, _, _ => none
  | n + 1, l0, l2, l3, l4, h => if l4 < 0 then fX9_layGoals_80 l2 h else oG (inb l4 (SZ (PC l0 7))) (oL (sI h (PC l0 7) (ix l4) ((jrem l3 (100 : Int32)) - (11 : Int32))) fun h2 => oL (l3 / (100 : Int32)) fun v3 => oL (l4 + (-1 : Int32)) fun v4 => fX9_layGoals_50 n l0 l2 v3 v4 h2)
def fX9_layGoals_43 (l0 : Nat) (l1 : Int32) (l2 : Int32) (h : AH) : Option (Int32 × AH) :=
  oL (l2 - (1 : Int32)) fun v1 => fX9_layGoals_50 FU l0 l2 l1 v1 h
def fX9_layGoals_4 : Nat → Nat → Int32 → Int32 → Int32 → AH → Option (Int32 × AH)
  | 0, _, _, _, _, _ => none
  | n + 1, l0, l1, l2, l3, h => if l3 ≤ 0 then fX9_layGoals_43 l0 l1 l2 h else if l2 = (4 : Int32) then some ((-1 : Int32), h) else ob (fX9_in ((jrem l3 (100 : Int32)).toInt64) (11 : Int64) (40 : Int64)) fun v6 => if v6 = 0 then some ((-1 : Int32), h) else oL (l2 + (1 : Int32)) fun v7 => oL (l3 / (100 : Int32)) fun v8 => fX9_layGoals_4 n l0 l1 v7 v8 h
def fX9_layGoals (th : Nat) (a1 : Int32) (h : AH) : Option (Int32 × AH) :=
  fX9_layGoals_4 FU th a1 (0 : Int32) a1 h
def fX9_lastBy_32 (k50 : AH → Option (Int32 × AH)) (k59 : Nat → Int32 → Int32 → Int32 → Int32 → Int32 → AH → Option (Int32 × AH)) : Nat → Nat → Int32 → Int32 → Int32 → Int32 → Int32 → Int32 → AH → Option (Int32 × AH)
  | 0, _, _, _, _, _, _, _, _ => none
  | n + 1, l0, l2, l3, l4, l5, l6, l7, h => if l2 ≤ l7 then k59 l0 l2 l3 l4 l5 l6 h else oG (inb l7 (SZ (PC l0 9))) (if (hI h (PC l0 9) (ix l7)) = l6 then k50 h else oL (l7 + (1 : Int32)) fun v5 => fX9_lastBy_32 k50 k59 n l0 l2 l3 l4 l5 l6 v5 h)
def fX9_lastBy_50 (h : AH) : Option (Int32 × AH) :=
  some ((1000000 : Int32), h)
def fX9_lastBy_105 (k10 : Nat → Int32 → Int32 → Int32 → Int32 → AH → Option (Int32 × AH)) (l0 : Nat) (l2 : Int32) (l3 : Int32) (l5 : Int32) (s0 : Int32) (h : AH) : Option (Int32 × AH) :=
  oL (l5 + (-1 : Int32)) fun v16 => k10 l0 l2 l3 s0 v16 h
def fX9_lastBy_75 (h : AH) : Option (Int32 × AH) :=
  some ((1000000 : Int32), h)
def fX9_lastBy_10 : Nat → Nat → Int32 → Int32 → Int32 → Int32 → AH → Option (Int32 × AH)
  | 0, _, _, _, _, _, _ => none
  | n + 1, l0, l2, l3, l4, l5, h => if l5 < 0 then some (l4, h) else oL (jrem l3 (24 : Int32)) fun v2 => oL (l3 / (24 : Int32)) fun v3 => oL (l5 + (1 : Int32)) fun v4 => fX9_lastBy_32 (fun h6 => fX9_lastBy_50 h6) (fun w7 w8 w9 w10 w11 w12 h13 => oG (inb (((24 : Int32) * w11) + w12) (SZ (PC w7 8))) (if (hI h13 (PC w7 8) (ix (((24 : Int32) * w11) + w12))) = 0 then fX9_lastBy_75 h13 else oG (inb w11 (SZ (PC w7 9))) (oL (sI h13 (PC w7 9) (ix w11) w12) fun h15 => if (w12 + (1 : Int32)) ≤ w10 then fX9_lastBy_105 (fX9_lastBy_10 n) w7 w8 w9 w11 w10 h15 else fX9_lastBy_105 (fX9_lastBy_10 n) w7 w8 w9 w11 (w12 + (1 : Int32)) h15))) FU l0 l2 v3 l4 l5 v2 v4 h
def fX9_lastBy (th : Nat) (a1 : Int32) (a2 : Int32) (h : AH) : Option (Int32 × AH) :=
  oL (a2 - (1 : Int32)) fun v1 => fX9_lastBy_10 FU th a2 a1 (0 : Int32) v1 h
def fX9_plan_16 (l0 : Nat) (h : AH) : Option (Int32 × AH) :=
  ob2 (fX9_bad l0 (-10 : Int32) h) fun v6 h5 => some (v6, h5)
def fX9_plan_171 (l0 : Nat) (l2 : Int32) (l3 : Int32) (l5 : Int32) (h : AH) : Option (Int32 × AH) :=
  if l5 = (1000000 : Int32) then some ((-1 : Int32), h) else if l2 = (-1 : Int32) then some (l5, h) else if l3 ≤ l2 then some ((-5 : Int32), h) else oG (inb l2 (SZ (PC l0 10))) (some ((hI h (PC l0 10) (ix l2)), h))
def fX9_plan_116 (k149 : Nat → Int32 → Int32 → Int32 → Int32 → Int32 → Int32 → AH → Option (Int32 × AH)) : Nat → Nat → Int32 → Int32 → Int32 → Int32 → Int32 → Int32 → Int32 → AH → Option (Int32 × AH)
  | 0, _, _, _, _, _, _, _, _, _ => none
  | n + 1, l0, l2, l3, l4, l5, l6, l7, l8, h => if l3 ≤ l8 then k149 l0 l2 l3 l4 l5 l6 l7 h else if l5 ≤ l7 then k149 l0 l2 l3 l4 l5 l6 l7 h else oG (inb l8 (SZ (PC l0 9))) (oG (inb l8 (SZ (PC l0 10))) (oL (sI h (PC l0 10) (ix l8) (hI h (PC l0 9) (ix l8))) fun h10 => oL (l8 + (1 : Int32)) fun v11 => fX9_plan_116 k149 n l0 l2 l3 l4 l5 l6 l7 v11 h10))
def fX9_plan_163 (k97 : Nat → Int32 → Int32 → Int32 → Int32 → Int32 → AH → Option (Int32 × AH)) (l0 : Nat) (l2 : Int32) (l3 : Int32) (l4 : Int32) (l6 : Int32) (s0 : Int32) (h : AH) : Option (Int32 × AH) :=
  oL (l6 + (1 : Int32)) fun v21 => k97 l0 l2 l3 l4 s0 v21 h
def fX9_plan_149 (k97 : Nat → Int32 → Int32 → Int32 → Int32 → Int32 → AH → Option (Int32 × AH)) (l0 : Nat) (l2 : Int32) (l3 : Int32) (l4 : Int32) (l5 : Int32) (l6 : Int32) (l7 : Int32) (h : AH) : Option (Int32 × AH) :=
  if l5 ≤ l7 then fX9_plan_163 k97 l0 l2 l3 l4 l6 l5 h else fX9_plan_163 k97 l0 l2 l3 l4 l6 l7 h
def fX9_plan_97 : Nat → Nat → Int32 → Int32 → Int32 → Int32 → Int32 → AH → Option (Int32 × AH)
  | 0, _, _, _, _, _, _, _ => none
  | n + 1, l0, l2, l3, l4, l5, l6, h => if l4 ≤ l6 then fX9_plan_171 l0 l2 l3 l5 h else ob2 (fX9_lastBy l0 l6 l3 h) fun v9 h8 => fX9_plan_116 (fun w12 w13 w14 w15 w16 w17 w18 h19 => fX9_plan_149 (fX9_plan_97 n) w12 w13 w14 w15 w16 w17 w18 h19) FU l0 l2 l3 l4 l5 l6 v9 (0 : Int32) h8
def fX9_plan_90 (l0 : Nat) (l2 : Int32) (l3 : Int32) (l4 : Int32) (h : AH) : Option (Int32 × AH) :=
  fX9_plan_97 FU l0 l2 l3 l4 (1000000 : Int32) (0 : Int32) h
def fX9_plan_45 (k84 : Nat → Int32 → Int32 → Int32 → Int32 → AH → Option (Int32 × AH)) : Nat → Nat → Int32 → Int32 → Int32 → Int32 → Int32 → AH → Option (Int32 × AH)
  | 0, _, _, _, _, _, _, _ => none
  | n + 1, l0, l2, l3, l4, l5, l6, h => if (24 : Int32) ≤ l6 then k84 l0 l2 l3 l4 l5 h else oG (inb l5 (SZ (PC l0 7))) (ob (fX9_isUnseenIn l0 (hI h (PC l0 7) (ix l5)) l6 h) fun v24 => oG (inb (((24 : Int32) * l5) + l6) (SZ (PC l0 8))) (oG (isB v24) (oL (sI h (PC l0 8) (ix (((24 : Int32) * l5) + l6)) v24) fun h25 => oL (l6 + (1 : Int32)) fun v26 => fX9_plan_45 k84 n l0 l2 l3 l4 l5 v26 h25)))
def fX9_plan_29 : Nat → Nat → Int32 → Int32 → Int32 → Int32 → AH → Option (Int32 × AH)
  | 0, _, _, _, _, _, _ => none
  | n + 1, l0, l2, l3, l4, l5, h => if l3 ≤ l5 then fX9_plan_90 l0 l2 l3 l4 h else oL (l4 * (24 : Int32)) fun v22 => fX9_plan_45 (fun w27 w28 w29 w30 w31 h32 => oL (w31 + (1 : Int32)) fun v34 => fX9_plan_29 n w27 w28 w29 w30 v34 h32) FU l0 l2 l3 v22 l5 (0 : Int32) h
def fX9_plan (th : Nat) (a1 : Int32) (a2 : Int32) (h : AH) : Option (Int32 × AH) :=
  ob2 (fX9_layGoals th a1 h) fun v3 h2 => if v3 = (-1 : Int32) then fX9_plan_16 th h2 else if (-1 : Int32) ≤ a2 then fX9_plan_29 FU th a2 v3 (1 : Int32) (0 : Int32) h2 else fX9_plan_16 th h2
def fX9_guard_18 (l0 : Nat) (h : AH) : Option (Int32 × AH) :=
  ob2 (fX9_bad l0 (-2 : Int32) h) fun v5 h4 => some (v5, h4)
def fX9_guard_139 (l2 : Int32) (l3 : Int32) (l4 : Int32) (h : AH) : Option (Int32 × AH) :=
  if l2 = 0 then some (l3, h) else some (l4, h)
def fX9_guard_94 (k46 : Nat → Int32 → Int32 → Int32 → Int32 → Int32 → Int32 → Int32 → AH → Option (Int32 × AH)) (k103 : Nat → Int32 → Int32 → Int32 → Int32 → Int32 → Int32 → AH → Option (Int32 × AH)) (l0 : Nat) (l1 : Int32) (l2 : Int32) (l3 : Int32) (l4 : Int32) (l5 : Int32) (l7 : Int32) (s0 : Int32) (s1 : Int32) (h : AH) : Option (Int32 × AH) :=
  oL (s0 + s1) fun v14 => oL (l7 + (1 : Int32)) fun v15 => k46 l0 l1 l2 l3 l4 l5 v14 v15 h
def fX9_guard_46 (k103 : Nat → Int32 → Int32 → Int32 → Int32 → Int32 → Int32 → AH → Option (Int32 × AH)) : Nat → Nat → Int32 → Int32 → Int32 → Int32 → Int32 → Int32 → Int32 → AH → Option (Int32 × AH)
  | 0, _, _, _, _, _, _, _, _, _ => none
  | n + 1, l0, l1, l2, l3, l4, l5, l6, l7, h => if (30 : Int32) ≤ l7 then k103 l0 l1 l2 l3 l4 l5 l6 h else oG (inb ((40 : Int32) + l1) (SZ (PC l0 0))) (ob (fX9_isOn (PC l0 0) h) fun v9 => ob (fX9_stepNow l0 h) fun v11 => ob (fX9_seesFrom (PC l0 0) (hI h (PC l0 0) (ix ((40 : Int32) + l1))) l5 l7 v9 v11 h) fun v13 => if v13 = 0 then fX9_guard_94 (fX9_guard_46 k103 n) k103 l0 l1 l2 l3 l4 l5 l7 l6 (0 : Int32) h else fX9_guard_94 (fX9_guard_46 k103 n) k103 l0 l1 l2 l3 l4 l5 l7 l6 (1 : Int32) h)
def fX9_guard_131 (k33 : Nat → Int32 → Int32 → Int32 → Int32 → Int32 → AH → Option (Int32 × AH)) (l0 : Nat) (l1 : Int32) (l2 : Int32) (l3 : Int32) (l5 : Int32) (s0 : Int32) (h : AH) : Option (Int32 × AH) :=
  oL (l5 + (1 : Int32)) fun v25 => k33 l0 l1 l2 l3 s0 v25 h
def fX9_guard_116 (k33 : Nat → Int32 → Int32 → Int32 → Int32 → Int32 → AH → Option (Int32 × AH)) (l0 : Nat) (l1 : Int32) (l2 : Int32) (l4 : Int32) (l5 : Int32) (l6 : Int32) (s0 : Int32) (h : AH) : Option (Int32 × AH) :=
  if l6 ≤ l4 then fX9_guard_131 k33 l0 l1 l2 s0 l5 l4 h else fX9_guard_131 k33 l0 l1 l2 s0 l5 l6 h
def fX9_guard_33 : Nat → Nat → Int32 → Int32 → Int32 → Int32 → Int32 → AH → Option (Int32 × AH)
  | 0, _, _, _, _, _, _, _ => none
  | n + 1, l0, l1, l2, l3, l4, l5, h => if (30 : Int32) ≤ l5 then fX9_guard_139 l2 l3 l4 h else fX9_guard_46 (fun w16 w17 w18 w19 w20 w21 w22 h23 => if w22 ≤ w20 then fX9_guard_116 (fX9_guard_33 n) w16 w17 w18 w20 w21 w22 w19 h23 else fX9_guard_116 (fX9_guard_33 n) w16 w17 w18 w20 w21 w22 w21 h23) FU l0 l1 l2 l3 l4 l5 (0 : Int32) (0 : Int32) h
def fX9_guard (th : Nat) (a1 : Int32) (a2 : Int32) (h : AH) : Option (Int32 × AH) :=
  ob (fX9_isWatcher th a1 h) fun v2 => if v2 = 0 then fX9_guard_18 th h else ob (fX9_in a2.toInt64 (0 : Int64) (1 : Int64)) fun v7 => if v7 = 0 then fX9_guard_18 th h else fX9_guard_33 FU th a1 a2 (-1 : Int32) (-1 : Int32) (0 : Int32) h
def fX9_saw_25 (l0 : Nat) (h : AH) : Option (Int32 × AH) :=
  ob2 (fX9_bad l0 (-2 : Int32) h) fun v5 h4 => some (v5, h4)
def fX9_saw (th : Nat) (a1 : Int32) (a2 : Int32) (h : AH) : Option (Int32 × AH) :=
  ob (fX9_isStep a1) fun v2 => if v2 = 0 then fX9_saw_25 th h else ob (fX9_manyWatchers th h) fun v7 => ob (fX9_in a2.toInt64 (0 : Int64) (((jshl (1 : Int32) v7) - (1 : Int32)).toInt64)) fun v9 => if v9 = 0 then fX9_saw_25 th h else oG (inb (2 : Int32) (SZ (PC th 0))) (if (hI h (PC th 0) (ix (2 : Int32))) = (6 : Int32) then ob2 (fX9_full th h) fun v15 h14 => some (v15, h14) else oG (inb (2 : Int32) (SZ (PC th 0))) (oG (inb ((46 : Int32) + ((2 : Int32) * (hI h (PC th 0) (ix (2 : Int32))))) (SZ (PC th 0))) (oL (sI h (PC th 0) (ix ((46 : Int32) + ((2 : Int32) * (hI h (PC th 0) (ix (2 : Int32)))))) a1) fun h10 => oG (inb (2 : Int32) (SZ (PC th 0))) (oG (inb (((46 : Int32) + ((2 : Int32) * (hI h10 (PC th 0) (ix (2 : Int32))))) + (1 : Int32)) (SZ (PC th 0))) (oL (sI h10 (PC th 0) (ix (((46 : Int32) + ((2 : Int32) * (hI h10 (PC th 0) (ix (2 : Int32))))) + (1 : Int32))) a2) fun h11 => oG (inb (2 : Int32) (SZ (PC th 0))) (oG (inb (2 : Int32) (SZ (PC th 0))) (oL (sI h11 (PC th 0) (ix (2 : Int32)) ((hI h11 (PC th 0) (ix (2 : Int32))) + (1 : Int32))) fun h12 => oG (inb (2 : Int32) (SZ (PC th 0))) (some ((hI h12 (PC th 0) (ix (2 : Int32))), h12)))))))))
def fX9_where_79 (h : AH) (k15 : Nat → Int32 → Int32 → Int32 → Int32 → Option (Int32)) (k86 : Nat → Int32 → Int32 → Int32 → Option (Int32)) (l0 : Nat) (l1 : Int32) (l2 : Int32) (l4 : Int32) (s0 : Int32) : Option (Int32) :=
  oL (l4 + (1 : Int32)) fun v1 => k15 l0 l1 l2 s0 v1
def fX9_where_78 (h : AH) (k15 : Nat → Int32 → Int32 → Int32 → Int32 → Option (Int32)) (k86 : Nat → Int32 → Int32 → Int32 → Option (Int32)) (l0 : Nat) (l1 : Int32) (l2 : Int32) (l4 : Int32) : Option (Int32) :=
  fX9_where_79 h k15 k86 l0 l1 l2 l4 (0 : Int32)
def fX9_where_15 (h : AH) (k86 : Nat → Int32 → Int32 → Int32 → Option (Int32)) : Nat → Nat → Int32 → Int32 → Int32 → Int32 → Option (Int32)
  | 0, _, _, _, _, _ => none
  | n + 1, l0, l1, l2, l3, l4 => oG (inb (2 : Int32) (SZ (PC l0 0))) (if (hI h (PC l0 0) (ix (2 : Int32))) ≤ l4 then k86 l0 l1 l2 l3 else if l3 = 0 then fX9_where_78 h (fX9_where_15 h k86 n) k86 l0 l1 l2 l4 else ob (fX9_isOn (PC l0 0) h) fun v3 => oG (inb ((46 : Int32) + ((2 : Int32) * l4)) (SZ (PC l0 0))) (ob (fX9_whoSees (PC l0 0) l2 v3 (hI h (PC l0 0) (ix ((46 : Int32) + ((2 : Int32) * l4)))) h) fun v5 => oG (inb (((46 : Int32) + ((2 : Int32) * l4)) + (1 : Int32)) (SZ (PC l0 0))) (if v5 = (hI h (PC l0 0) (ix (((46 : Int32) + ((2 : Int32) * l4)) + (1 : Int32)))) then fX9_where_79 h (fX9_where_15 h k86 n) k86 l0 l1 l2 l4 (1 : Int32) else fX9_where_78 h (fX9_where_15 h k86 n) k86 l0 l1 l2 l4)))
def fX9_where_98 (h : AH) (k4 : Nat → Int32 → Int32 → Option (Int32)) (l0 : Nat) (l2 : Int32) (s0 : Int32) (s1 : Int32) : Option (Int32) :=
  oL (s0 ||| s1) fun v11 => oL (l2 + (1 : Int32)) fun v12 => k4 l0 v11 v12
def fX9_where_4 (h : AH) : Nat → Nat → Int32 → Int32 → Option (Int32)
  | 0, _, _, _ => none
  | n + 1, l0, l1, l2 => if (30 : Int32) ≤ l2 then some l1 else fX9_where_15 h (fun w6 w7 w8 w9 => if w9 = 0 then fX9_where_98 h (fX9_where_4 h n) w6 w8 w7 (0 : Int32) else fX9_where_98 h (fX9_where_4 h n) w6 w8 w7 (jshl (1 : Int32) w8)) FU l0 l1 l2 (1 : Int32) (0 : Int32)
def fX9_where (th : Nat) (h : AH) : Option (Int32) :=
  fX9_where_4 h FU th (0 : Int32) (0 : Int32)
def fX9_note_48 (l0 : Nat) (h : AH) : Option (Int32 × AH) :=
  ob2 (fX9_bad l0 (-2 : Int32) h) fun v5 h4 => some (v5, h4)
def fX9_note (th : Nat) (a1 : Int32) (a2 : Int32) (a3 : Int32) (a4 : Int32) (a5 : Int32) (h : AH) : Option (Int32 × AH) :=
  ob (fX9_isShow th a1 h) fun v2 => if v2 = 0 then fX9_note_48 th h else ob (fX9_in a2.toInt64 (1 : Int64) (9 : Int64)) fun v7 => if v7 = 0 then fX9_note_48 th h else ob (fX9_isFar a3) fun v9 => if v9 = 0 then fX9_note_48 th h else ob (fX9_isStep a4) fun v11 => if v11 = 0 then fX9_note_48 th h else ob (fX9_in a5.toInt64 (0 : Int64) (40 : Int64)) fun v13 => if v13 = 0 then fX9_note_48 th h else oG (inb (3 : Int32) (SZ (PC th 0))) (if (hI h (PC th 0) (ix (3 : Int32))) = (6 : Int32) then ob2 (fX9_full th h) fun v23 h22 => some (v23, h22) else oG (inb (3 : Int32) (SZ (PC th 0))) (oL ((58 : Int32) + ((5 : Int32) * (hI h (PC th 0) (ix (3 : Int32))))) fun v14 => oG (inb v14 (SZ (PC th 0))) (oL (sI h (PC th 0) (ix v14) a1) fun h15 => oG (inb (v14 + (1 : Int32)) (SZ (PC th 0))) (oL (sI h15 (PC th 0) (ix (v14 + (1 : Int32))) a2) fun h16 => oG (inb (v14 + (2 : Int32)) (SZ (PC th 0))) (oL (sI h16 (PC th 0) (ix (v14 + (2 : Int32))) a3) fun h17 => oG (inb (v14 + (3 : Int32)) (SZ (PC th 0))) (oL (sI h17 (PC th 0) (ix (v14 + (3 : Int32))) a4) fun h18 => oG (inb (v14 + (4 : Int32)) (SZ (PC th 0))) (oL (sI h18 (PC th 0) (ix (v14 + (4 : Int32))) a5) fun h19 => oG (inb (3 : Int32) (SZ (PC th 0))) (oG (inb (3 : Int32) (SZ (PC th 0))) (oL (sI h19 (PC th 0) (ix (3 : Int32)) ((hI h19 (PC th 0) (ix (3 : Int32))) + (1 : Int32))) fun h20 => oG (inb (3 : Int32) (SZ (PC th 0))) (some ((hI h20 (PC th 0) (ix (3 : Int32))), h20)))))))))))
def fX9_mark_38 (l0 : Nat) (h : AH) : Option (Int32 × AH) :=
  ob2 (fX9_bad l0 (-2 : Int32) h) fun v5 h4 => some (v5, h4)
def fX9_mark (th : Nat) (a1 : Int32) (a2 : Int32) (a3 : Int32) (a4 : Int32) (h : AH) : Option (Int32 × AH) :=
  ob (fX9_isWatcher th a1 h) fun v2 => if v2 = 0 then fX9_mark_38 th h else ob (fX9_isFar a2) fun v7 => if v7 = 0 then fX9_mark_38 th h else ob (fX9_in a3.toInt64 (0 : Int64) (40 : Int64)) fun v9 => if v9 = 0 then fX9_mark_38 th h else ob (fX9_in a4.toInt64 (0 : Int64) (1 : Int64)) fun v11 => if v11 = 0 then fX9_mark_38 th h else oG (inb (4 : Int32) (SZ (PC th 0))) (if (hI h (PC th 0) (ix (4 : Int32))) = (6 : Int32) then ob2 (fX9_full th h) fun v20 h19 => some (v20, h19) else oG (inb (4 : Int32) (SZ (PC th 0))) (oL ((88 : Int32) + ((4 : Int32) * (hI h (PC th 0) (ix (4 : Int32))))) fun v12 => oG (inb v12 (SZ (PC th 0))) (oL (sI h (PC th 0) (ix v12) a1) fun h13 => oG (inb (v12 + (1 : Int32)) (SZ (PC th 0))) (oL (sI h13 (PC th 0) (ix (v12 + (1 : Int32))) a2) fun h14 => oG (inb (v12 + (2 : Int32)) (SZ (PC th 0))) (oL (sI h14 (PC th 0) (ix (v12 + (2 : Int32))) a3) fun h15 => oG (inb (v12 + (3 : Int32)) (SZ (PC th 0))) (oL (sI h15 (PC th 0) (ix (v12 + (3 : Int32))) a4) fun h16 => oG (inb (4 : Int32) (SZ (PC th 0))) (oG (inb (4 : Int32) (SZ (PC th 0))) (oL (sI h16 (PC th 0) (ix (4 : Int32)) ((hI h16 (PC th 0) (ix (4 : Int32))) + (1 : Int32))) fun h17 => oG (inb (4 : Int32) (SZ (PC th 0))) (some ((hI h17 (PC th 0) (ix (4 : Int32))), h17))))))))))
def fX9_forget (th : Nat) (a1 : Int32) (h : AH) : Option (Int32 × AH) :=
  ob (fX9_in a1.toInt64 (0 : Int64) (2 : Int64)) fun v2 => if v2 = 0 then ob2 (fX9_bad th (-2 : Int32) h) fun v7 h6 => some (v7, h6) else oG (inb ((2 : Int32) + a1) (SZ (PC th 0))) (oL (hI h (PC th 0) (ix ((2 : Int32) + a1))) fun v3 => oG (inb ((2 : Int32) + a1) (SZ (PC th 0))) (oL (sI h (PC th 0) (ix ((2 : Int32) + a1)) (0 : Int32)) fun h4 => some (v3, h4)))
def fX9_kindsOf_100 (h : AH) (k16 : Nat → Int32 → Int32 → Int32 → Int32 → Int32 → Option (Int32)) (k108 : Nat → Int32 → Int32 → Int32 → Int32 → Option (Int32)) (l0 : Nat) (l1 : Int32) (l2 : Int32) (l3 : Int32) (l5 : Int32) (s0 : Int32) : Option (Int32) :=
  oL (l5 + (1 : Int32)) fun v2 => k16 l0 l1 l2 l3 s0 v2
def fX9_kindsOf_99 (h : AH) (k16 : Nat → Int32 → Int32 → Int32 → Int32 → Int32 → Option (Int32)) (k108 : Nat → Int32 → Int32 → Int32 → Int32 → Option (Int32)) (l0 : Nat) (l1 : Int32) (l2 : Int32) (l3 : Int32) (l5 : Int32) : Option (Int32) :=
  fX9_kindsOf_100 h k16 k108 l0 l1 l2 l3 l5 (0 : Int32)
def fX9_kindsOf_95 (h : AH) (k16 : Nat → Int32 → Int32 → Int32 → Int32 → Int32 → Option (Int32)) (k108 : Nat → Int32 → Int32 → Int32 → Int32 → Option (Int32)) (l0 : Nat) (l1 : Int32) (l2 : Int32) (l3 : Int32) (l5 : Int32) : Option (Int32) :=
  fX9_kindsOf_100 h k16 k108 l0 l1 l2 l3 l5 (1 : Int32)
def fX9_kindsOf_16 (h : AH) (k108 : Nat → Int32 → Int32 → Int32 → Int32 → Option (Int32)) : Nat → Nat → Int32 → Int32 → Int32 → Int32 → Int32 → Option (Int32)
  | 0, _, _, _, _, _, _ => none
  | n + 1, l0, l1, l2, l3, l4, l5 => oG (inb (3 : Int32) (SZ (PC l0 0))) (if (hI h (PC l0 0) (ix (3 : Int32))) ≤ l5 then k108 l0 l1 l2 l3 l4 else oL ((58 : Int32) + ((5 : Int32) * l5)) fun v1 => if l4 = 0 then fX9_kindsOf_99 h (fX9_kindsOf_16 h k108 n) k108 l0 l1 l2 l3 l5 else oG (inb v1 (SZ (PC l0 0))) (if (hI h (PC l0 0) (ix v1)) = l1 then oG (inb (v1 + (2 : Int32)) (SZ (PC l0 0))) (oG (inb (v1 + (3 : Int32)) (SZ (PC l0 0))) (oG (inb (v1 + (1 : Int32)) (SZ (PC l0 0))) (ob (fX9_pullAs l3 (hI h (PC l0 0) (ix (v1 + (2 : Int32)))) (hI h (PC l0 0) (ix (v1 + (3 : Int32)))) (hI h (PC l0 0) (ix (v1 + (1 : Int32))))) fun v4 => oG (inb (v1 + (4 : Int32)) (SZ (PC l0 0))) (if v4 = (hI h (PC l0 0) (ix (v1 + (4 : Int32)))) then fX9_kindsOf_95 h (fX9_kindsOf_16 h k108 n) k108 l0 l1 l2 l3 l5 else fX9_kindsOf_99 h (fX9_kindsOf_16 h k108 n) k108 l0 l1 l2 l3 l5)))) else fX9_kindsOf_95 h (fX9_kindsOf_16 h k108 n) k108 l0 l1 l2 l3 l5))
def fX9_kindsOf_121 (h : AH) (k4 : Nat → Int32 → Int32 → Int32 → Option (Int32)) (l0 : Nat) (l1 : Int32) (l3 : Int32) (s0 : Int32) (s1 : Int32) : Option (Int32) :=
  oL (s0 ||| s1) fun v11 => oL (l3 + (1 : Int32)) fun v12 => k4 l0 l1 v11 v12
def fX9_kindsOf_4 (h : AH) : Nat → Nat → Int32 → Int32 → Int32 → Option (Int32)
  | 0, _, _, _, _ => none
  | n + 1, l0, l1, l2, l3 => if (6 : Int32) ≤ l3 then some l2 else fX9_kindsOf_16 h (fun w5 w6 w7 w8 w9 => if w9 = 0 then fX9_kindsOf_121 h (fX9_kindsOf_4 h n) w5 w6 w8 w7 (0 : Int32) else fX9_kindsOf_121 h (fX9_kindsOf_4 h n) w5 w6 w8 w7 (jshl (1 : Int32) w8)) FU l0 l1 l2 l3 (1 : Int32) (0 : Int32)
def fX9_kindsOf (th : Nat) (a1 : Int32) (h : AH) : Option (Int32) :=
  fX9_kindsOf_4 h FU th a1 (0 : Int32) (0 : Int32)
def fX9_is (th : Nat) (a1 : Int32) (h : AH) : Option (Int32 × AH) :=
  ob (fX9_isShow th a1 h) fun v2 => if v2 = 0 then ob2 (fX9_bad th (-2 : Int32) h) fun v5 h4 => some (v5, h4) else ob (fX9_kindsOf th a1 h) fun v7 => some (v7, h)
def fX9_look_170 (k109 : Nat → Int32 → Int32 → Int32 → Int32 → Int32 → Int32 → Int32 → Int32 → Int32 → Int32 → AH → Option (Int32 × AH)) (k179 : Nat → Int32 → Int32 → Int32 → Int32 → Int32 → Int32 → Int32 → Int32 → AH → Option (Int32 × AH)) (l0 : Nat) (l1 : Int32) (l2 : Int32) (l3 : Int32) (l4 : Int32) (l5 : Int32) (l6 : Int32) (l7 : Int32) (l9 : Int32) (l10 : Int32) (s0 : Int32) (s1 : Int32) (h : AH) : Option (Int32 × AH) :=
  oL (s0 + s1) fun v11 => oL (l10 + (1 : Int32)) fun v12 => k109 l0 l1 l2 l3 l4 l5 l6 l7 v11 l9 v12 h
def fX9_look_169 (k109 : Nat → Int32 → Int32 → Int32 → Int32 → Int32 → Int32 → Int32 → Int32 → Int32 → Int32 → AH → Option (Int32 × AH)) (k179 : Nat → Int32 → Int32 → Int32 → Int32 → Int32 → Int32 → Int32 → Int32 → AH → Option (Int32 × AH)) (l0 : Nat) (l1 : Int32) (l2 : Int32) (l3 : Int32) (l4 : Int32) (l5 : Int32) (l6 : Int32) (l7 : Int32) (l9 : Int32) (l10 : Int32) (s0 : Int32) (h : AH) : Option (Int32 × AH) :=
  fX9_look_170 k109 k179 l0 l1 l2 l3 l4 l5 l6 l7 l9 l10 s0 (0 : Int32) h
def fX9_look_109 (k179 : Nat → Int32 → Int32 → Int32 → Int32 → Int32 → Int32 → Int32 → Int32 → AH → Option (Int32 × AH)) : Nat → Nat → Int32 → Int32 → Int32 → Int32 → Int32 → Int32 → Int32 → Int32 → Int32 → Int32 → AH → Option (Int32 × AH)
  | 0, _, _, _, _, _, _, _, _, _, _, _, _ => none
  | n + 1, l0, l1, l2, l3, l4, l5, l6, l7, l8, l9, l10, h => if (6 : Int32) ≤ l10 then k179 l0 l1 l2 l3 l4 l5 l6 l7 l8 h else ob (fX9_has l2 l7) fun v8 => if v8 = 0 then k179 l0 l1 l2 l3 l4 l5 l6 l7 l8 h else ob (fX9_has l2 l10) fun v10 => if v10 = 0 then fX9_look_169 (fX9_look_109 k179 n) k179 l0 l1 l2 l3 l4 l5 l6 l7 l9 l10 l8 h else oG (inb ((35 : Int32) + l1) (SZ (PC l0 0))) (ob (fX9_pullAs l10 (jrem l5 (100 : Int32)) (l5 / (100 : Int32)) (hI h (PC l0 0) (ix ((35 : Int32) + l1)))) fun v14 => if v14 = l9 then fX9_look_170 (fX9_look_109 k179 n) k179 l0 l1 l2 l3 l4 l5 l6 l7 l9 l10 l8 (1 : Int32) h else fX9_look_169 (fX9_look_109 k179 n) k179 l0 l1 l2 l3 l4 l5 l6 l7 l9 l10 l8 h)
def fX9_look_193 (k63 : Nat → Int32 → Int32 → Int32 → Int32 → Int32 → Int32 → Int32 → AH → Option (Int32 × AH)) (k201 : Nat → Int32 → Int32 → Int32 → Int32 → Int32 → Int32 → AH → Option (Int32 × AH)) (l0 : Nat) (l1 : Int32) (l2 : Int32) (l3 : Int32) (l4 : Int32) (l5 : Int32) (l7 : Int32) (s0 : Int32) (h : AH) : Option (Int32 × AH) :=
  oL (l7 + (1 : Int32)) fun v26 => k63 l0 l1 l2 l3 l4 l5 s0 v26 h
def fX9_look_179 (k63 : Nat → Int32 → Int32 → Int32 → Int32 → Int32 → Int32 → Int32 → AH → Option (Int32 × AH)) (k201 : Nat → Int32 → Int32 → Int32 → Int32 → Int32 → Int32 → AH → Option (Int32 × AH)) (l0 : Nat) (l1 : Int32) (l2 : Int32) (l3 : Int32) (l4 : Int32) (l5 : Int32) (l6 : Int32) (l7 : Int32) (l8 : Int32) (h : AH) : Option (Int32 × AH) :=
  if l8 ≤ l6 then fX9_look_193 k63 k201 l0 l1 l2 l3 l4 l5 l7 l6 h else fX9_look_193 k63 k201 l0 l1 l2 l3 l4 l5 l7 l8 h
def fX9_look_63 (k201 : Nat → Int32 → Int32 → Int32 → Int32 → Int32 → Int32 → AH → Option (Int32 × AH)) : Nat → Nat → Int32 → Int32 → Int32 → Int32 → Int32 → Int32 → Int32 → AH → Option (Int32 × AH)
  | 0, _, _, _, _, _, _, _, _, _ => none
  | n + 1, l0, l1, l2, l3, l4, l5, l6, l7, h => if (6 : Int32) ≤ l7 then k201 l0 l1 l2 l3 l4 l5 l6 h else if (1000000 : Int32) ≤ l6 then k201 l0 l1 l2 l3 l4 l5 l6 h else oG (inb ((35 : Int32) + l1) (SZ (PC l0 0))) (ob (fX9_pullAs l7 (jrem l5 (100 : Int32)) (l5 / (100 : Int32)) (hI h (PC l0 0) (ix ((35 : Int32) + l1)))) fun v6 => fX9_look_109 (fun w15 w16 w17 w18 w19 w20 w21 w22 w23 h24 => fX9_look_179 (fX9_look_63 k201 n) k201 w15 w16 w17 w18 w19 w20 w21 w22 w23 h24) FU l0 l1 l2 l3 l4 l5 l6 l7 (0 : Int32) v6 (0 : Int32) h)
def fX9_look_229 (k30 : Nat → Int32 → Int32 → Int32 → Int32 → Int32 → AH → Option (Int32 × AH)) (l0 : Nat) (l1 : Int32) (l2 : Int32) (l3 : Int32) (l5 : Int32) (s0 : Int32) (h : AH) : Option (Int32 × AH) :=
  oL (l5 + (1 : Int32)) fun v36 => k30 l0 l1 l2 l3 s0 v36 h
def fX9_look_214 (k30 : Nat → Int32 → Int32 → Int32 → Int32 → Int32 → AH → Option (Int32 × AH)) (l0 : Nat) (l1 : Int32) (l2 : Int32) (l4 : Int32) (l5 : Int32) (l6 : Int32) (s0 : Int32) (h : AH) : Option (Int32 × AH) :=
  if l4 ≤ l6 then fX9_look_229 k30 l0 l1 l2 s0 l5 l4 h else fX9_look_229 k30 l0 l1 l2 s0 l5 l6 h
def fX9_look_201 (k30 : Nat → Int32 → Int32 → Int32 → Int32 → Int32 → AH → Option (Int32 × AH)) (l0 : Nat) (l1 : Int32) (l2 : Int32) (l3 : Int32) (l4 : Int32) (l5 : Int32) (l6 : Int32) (h : AH) : Option (Int32 × AH) :=
  if l4 ≤ l6 then fX9_look_214 k30 l0 l1 l2 l4 l5 l6 l3 h else fX9_look_214 k30 l0 l1 l2 l4 l5 l6 l5 h
def fX9_look_58 (k30 : Nat → Int32 → Int32 → Int32 → Int32 → Int32 → AH → Option (Int32 × AH)) (l0 : Nat) (l1 : Int32) (l2 : Int32) (l3 : Int32) (l4 : Int32) (l5 : Int32) (s0 : Int32) (h : AH) : Option (Int32 × AH) :=
  fX9_look_63 (fun w27 w28 w29 w30 w31 w32 w33 h34 => fX9_look_201 k30 w27 w28 w29 w30 w31 w32 w33 h34) FU l0 l1 l2 l3 l4 l5 s0 (0 : Int32) h
def fX9_look_30 : Nat → Nat → Int32 → Int32 → Int32 → Int32 → Int32 → AH → Option (Int32 × AH)
  | 0, _, _, _, _, _, _, _ => none
  | n + 1, l0, l1, l2, l3, l4, l5, h => if (1110 : Int32) ≤ l5 then some (l3, h) else if l2 ≤ 0 then some (l3, h) else if (10 : Int32) ≤ (jrem l5 (100 : Int32)) then fX9_look_58 (fX9_look_30 n) l0 l1 l2 l3 l4 l5 (1000000 : Int32) h else fX9_look_58 (fX9_look_30 n) l0 l1 l2 l3 l4 l5 (0 : Int32) h
def fX9_look (th : Nat) (a1 : Int32) (h : AH) : Option (Int32 × AH) :=
  ob (fX9_isShow th a1 h) fun v2 => if v2 = 0 then ob2 (fX9_bad th (-2 : Int32) h) fun v39 h38 => some (v39, h38) else ob (fX9_kindsOf th a1 h) fun v4 => fX9_look_30 FU th a1 v4 (-1 : Int32) (1000000 : Int32) (0 : Int32) h
def fX9_kindsOfWatcher_100 (h : AH) (k16 : Nat → Int32 → Int32 → Int32 → Int32 → Int32 → Option (Int32)) (k108 : Nat → Int32 → Int32 → Int32 → Int32 → Option (Int32)) (l0 : Nat) (l1 : Int32) (l2 : Int32) (l3 : Int32) (l5 : Int32) (s0 : Int32) : Option (Int32) :=
  oL (l5 + (1 : Int32)) fun v2 => k16 l0 l1 l2 l3 s0 v2
def fX9_kindsOfWatcher_99 (h : AH) (k16 : Nat → Int32 → Int32 → Int32 → Int32 → Int32 → Option (Int32)) (k108 : Nat → Int32 → Int32 → Int32 → Int32 → Option (Int32)) (l0 : Nat) (l1 : Int32) (l2 : Int32) (l3 : Int32) (l5 : Int32) : Option (Int32) :=
  fX9_kindsOfWatcher_100 h k16 k108 l0 l1 l2 l3 l5 (0 : Int32)
def fX9_kindsOfWatcher_95 (h : AH) (k16 : Nat → Int32 → Int32 → Int32 → Int32 → Int32 → Option (Int32)) (k108 : Nat → Int32 → Int32 → Int32 → Int32 → Option (Int32)) (l0 : Nat) (l1 : Int32) (l2 : Int32) (l3 : Int32) (l5 : Int32) : Option (Int32) :=
  fX9_kindsOfWatcher_100 h k16 k108 l0 l1 l2 l3 l5 (1 : Int32)
def fX9_kindsOfWatcher_92 (h : AH) (k16 : Nat → Int32 → Int32 → Int32 → Int32 → Int32 → Option (Int32)) (k108 : Nat → Int32 → Int32 → Int32 → Int32 → Option (Int32)) (l0 : Nat) (l1 : Int32) (l2 : Int32) (l3 : Int32) (l5 : Int32) (s0 : Int32) (s1 : Int32) : Option (Int32) :=
  if s0 = s1 then fX9_kindsOfWatcher_95 h k16 k108 l0 l1 l2 l3 l5 else fX9_kindsOfWatcher_99 h k16 k108 l0 l1 l2 l3 l5
def fX9_kindsOfWatcher_16 (h : AH) (k108 : Nat → Int32 → Int32 → Int32 → Int32 → Option (Int32)) : Nat → Nat → Int32 → Int32 → Int32 → Int32 → Int32 → Option (Int32)
  | 0, _, _, _, _, _, _ => none
  | n + 1, l0, l1, l2, l3, l4, l5 => oG (inb (4 : Int32) (SZ (PC l0 0))) (if (hI h (PC l0 0) (ix (4 : Int32))) ≤ l5 then k108 l0 l1 l2 l3 l4 else oL ((88 : Int32) + ((4 : Int32) * l5)) fun v1 => if l4 = 0 then fX9_kindsOfWatcher_99 h (fX9_kindsOfWatcher_16 h k108 n) k108 l0 l1 l2 l3 l5 else oG (inb v1 (SZ (PC l0 0))) (if (hI h (PC l0 0) (ix v1)) = l1 then oG (inb (v1 + (1 : Int32)) (SZ (PC l0 0))) (oG (inb (v1 + (2 : Int32)) (SZ (PC l0 0))) (ob (fX9_seesAs l3 (hI h (PC l0 0) (ix (v1 + (1 : Int32)))) (hI h (PC l0 0) (ix (v1 + (2 : Int32))))) fun v4 => oG (inb (v1 + (3 : Int32)) (SZ (PC l0 0))) (if (hI h (PC l0 0) (ix (v1 + (3 : Int32)))) = (1 : Int32) then fX9_kindsOfWatcher_92 h (fX9_kindsOfWatcher_16 h k108 n) k108 l0 l1 l2 l3 l5 v4 (1 : Int32) else fX9_kindsOfWatcher_92 h (fX9_kindsOfWatcher_16 h k108 n) k108 l0 l1 l2 l3 l5 v4 (0 : Int32)))) else fX9_kindsOfWatcher_95 h (fX9_kindsOfWatcher_16 h k108 n) k108 l0 l1 l2 l3 l5))
def fX9_kindsOfWatcher_121 (h : AH) (k4 : Nat → Int32 → Int32 → Int32 → Option (Int32)) (l0 : Nat) (l1 : Int32) (l3 : Int32) (s0 : Int32) (s1 : Int32) : Option (Int32) :=
  oL (s0 ||| s1) fun v11 => oL (l3 + (1 : Int32)) fun v12 => k4 l0 l1 v11 v12
def fX9_kindsOfWatcher_4 (h : AH) : Nat → Nat → Int32 → Int32 → Int32 → Option (Int32)
  | 0, _, _, _, _ => none
  | n + 1, l0, l1, l2, l3 => if (6 : Int32) ≤ l3 then some l2 else fX9_kindsOfWatcher_16 h (fun w5 w6 w7 w8 w9 => if w9 = 0 then fX9_kindsOfWatcher_121 h (fX9_kindsOfWatcher_4 h n) w5 w6 w8 w7 (0 : Int32) else fX9_kindsOfWatcher_121 h (fX9_kindsOfWatcher_4 h n) w5 w6 w8 w7 (jshl (1 : Int32) w8)) FU l0 l1 l2 l3 (1 : Int32) (0 : Int32)
def fX9_kindsOfWatcher (th : Nat) (a1 : Int32) (h : AH) : Option (Int32) :=
  fX9_kindsOfWatcher_4 h FU th a1 (0 : Int32) (0 : Int32)
def fX9_what (th : Nat) (a1 : Int32) (h : AH) : Option (Int32 × AH) :=
  ob (fX9_isWatcher th a1 h) fun v2 => if v2 = 0 then ob2 (fX9_bad th (-2 : Int32) h) fun v5 h4 => some (v5, h4) else ob (fX9_kindsOfWatcher th a1 h) fun v7 => some (v7, h)
def fX9_tries_89 (k48 : Int32 → Int32 → Int32 → Int32 → Int32 → Int32 → AH → Option (Int32 × AH)) (k98 : Int32 → Int32 → Int32 → Int32 → Int32 → AH → Option (Int32 × AH)) (l2 : Int32) (l3 : Int32) (l4 : Int32) (l5 : Int32) (l7 : Int32) (s0 : Int32) (s1 : Int32) (h : AH) : Option (Int32 × AH) :=
  oL (s0 + s1) fun v7 => oL (l7 + (1 : Int32)) fun v8 => k48 l2 l3 l4 l5 v7 v8 h
def fX9_tries_88 (k48 : Int32 → Int32 → Int32 → Int32 → Int32 → Int32 → AH → Option (Int32 × AH)) (k98 : Int32 → Int32 → Int32 → Int32 → Int32 → AH → Option (Int32 × AH)) (l2 : Int32) (l3 : Int32) (l4 : Int32) (l5 : Int32) (l7 : Int32) (s0 : Int32) (h : AH) : Option (Int32 × AH) :=
  fX9_tries_89 k48 k98 l2 l3 l4 l5 l7 s0 (0 : Int32) h
def fX9_tries_48 (k98 : Int32 → Int32 → Int32 → Int32 → Int32 → AH → Option (Int32 × AH)) : Nat → Int32 → Int32 → Int32 → Int32 → Int32 → Int32 → AH → Option (Int32 × AH)
  | 0, _, _, _, _, _, _, _ => none
  | n + 1, l2, l3, l4, l5, l6, l7, h => if (6 : Int32) ≤ l7 then k98 l2 l3 l4 l5 l6 h else ob (fX9_has l2 l7) fun v6 => if v6 = 0 then fX9_tries_88 (fX9_tries_48 k98 n) k98 l2 l3 l4 l5 l7 l6 h else ob (fX9_seesAs l7 (l5 / (100 : Int32)) (jrem l5 (100 : Int32))) fun v10 => if v10 = 0 then fX9_tries_88 (fX9_tries_48 k98 n) k98 l2 l3 l4 l5 l7 l6 h else fX9_tries_89 (fX9_tries_48 k98 n) k98 l2 l3 l4 l5 l7 l6 (1 : Int32) h
def fX9_tries_166 (k30 : Int32 → Int32 → Int32 → Int32 → AH → Option (Int32 × AH)) (l2 : Int32) (l3 : Int32) (l5 : Int32) (s0 : Int32) (h : AH) : Option (Int32 × AH) :=
  oL (l5 + (1 : Int32)) fun v20 => k30 l2 l3 s0 v20 h
def fX9_tries_151 (k30 : Int32 → Int32 → Int32 → Int32 → AH → Option (Int32 × AH)) (l2 : Int32) (l4 : Int32) (l5 : Int32) (l8 : Int32) (s0 : Int32) (h : AH) : Option (Int32 × AH) :=
  if l4 ≤ l8 then fX9_tries_166 k30 l2 s0 l5 l4 h else fX9_tries_166 k30 l2 s0 l5 l8 h
def fX9_tries_136 (k30 : Int32 → Int32 → Int32 → Int32 → AH → Option (Int32 × AH)) (l2 : Int32) (l3 : Int32) (l4 : Int32) (l5 : Int32) (s0 : Int32) (h : AH) : Option (Int32 × AH) :=
  if l4 ≤ s0 then fX9_tries_151 k30 l2 l4 l5 s0 l3 h else fX9_tries_151 k30 l2 l4 l5 s0 l5 h
def fX9_tries_30 : Nat → Int32 → Int32 → Int32 → Int32 → AH → Option (Int32 × AH)
  | 0, _, _, _, _, _ => none
  | n + 1, l2, l3, l4, l5, h => if (941 : Int32) ≤ l5 then some (l3, h) else if l2 ≤ 0 then some (l3, h) else fX9_tries_48 (fun w11 w12 w13 w14 w15 h16 => ob (fX9_bits w11) fun v18 => oL (v18 - w15) fun v19 => if (jrem w14 (100 : Int32)) ≤ (40 : Int32) then if w15 ≤ v19 then fX9_tries_136 (fX9_tries_30 n) w11 w12 w13 w14 v19 h16 else fX9_tries_136 (fX9_tries_30 n) w11 w12 w13 w14 w15 h16 else fX9_tries_136 (fX9_tries_30 n) w11 w12 w13 w14 (1000000 : Int32) h16) FU l2 l3 l4 l5 (0 : Int32) (0 : Int32) h
def fX9_tries (th : Nat) (a1 : Int32) (h : AH) : Option (Int32 × AH) :=
  ob (fX9_isWatcher th a1 h) fun v2 => if v2 = 0 then ob2 (fX9_bad th (-2 : Int32) h) fun v23 h22 => some (v23, h22) else ob (fX9_kindsOfWatcher th a1 h) fun v4 => fX9_tries_30 FU v4 (-1 : Int32) (1000000 : Int32) (0 : Int32) h
def fX9_game_27 (l0 : Nat) (h : AH) : Option (Int32 × AH) :=
  ob2 (fX9_bad l0 (-2 : Int32) h) fun v5 h4 => some (v5, h4)
def fX9_game_192 (k130 : Int32 → Int32 → Int32 → AH → Option (Int32 × AH)) (l4 : Int32) (l6 : Int32) (s0 : Int32) (s1 : Int32) (h : AH) : Option (Int32 × AH) :=
  oL (s0 ||| s1) fun v14 => oL (l6 + (1 : Int32)) fun v15 => k130 l4 v14 v15 h
def fX9_game_175 (k130 : Int32 → Int32 → Int32 → AH → Option (Int32 × AH)) (l4 : Int32) (l5 : Int32) (l6 : Int32) (s0 : Int32) (h : AH) : Option (Int32 × AH) :=
  if s0 = 0 then fX9_game_192 k130 l4 l6 l5 (0 : Int32) h else fX9_game_192 k130 l4 l6 l5 (jshl (1 : Int32) l6) h
def fX9_game_130 : Nat → Int32 → Int32 → Int32 → AH → Option (Int32 × AH)
  | 0, _, _, _, _ => none
  | n + 1, l4, l5, l6, h => if (4 : Int32) ≤ l6 then some (l5, h) else ob (fX9_has l4 l6) fun v11 => if v11 = 0 then ob (fX9_has l4 (l6 ^^^ (2 : Int32))) fun v13 => if v13 = 0 then fX9_game_175 (fX9_game_130 n) l4 l5 l6 (1 : Int32) h else fX9_game_175 (fX9_game_130 n) l4 l5 l6 (0 : Int32) h else ob (fX9_has l4 (l6 ^^^ (1 : Int32))) fun v17 => fX9_game_175 (fX9_game_130 n) l4 l5 l6 v17 h
def fX9_game_124 (l4 : Int32) (h : AH) : Option (Int32 × AH) :=
  fX9_game_130 FU l4 (0 : Int32) (0 : Int32) h
def fX9_game_115 (k40 : Nat → Int32 → Int32 → Int32 → Int32 → Int32 → AH → Option (Int32 × AH)) (l0 : Nat) (l1 : Int32) (l2 : Int32) (l3 : Int32) (l5 : Int32) (s0 : Int32) (s1 : Int32) (h : AH) : Option (Int32 × AH) :=
  oL (s0 ||| s1) fun v26 => oL (l5 + (1 : Int32)) fun v27 => k40 l0 l1 l2 l3 v26 v27 h
def fX9_game_84 (k40 : Nat → Int32 → Int32 → Int32 → Int32 → Int32 → AH → Option (Int32 × AH)) (l0 : Nat) (l1 : Int32) (l2 : Int32) (l3 : Int32) (l4 : Int32) (l5 : Int32) (s0 : Nat) (s1 : Int32) (s2 : Int32) (s3 : Int32) (h : AH) : Option (Int32 × AH) :=
  ob (fX9_isOn (PC l0 0) h) fun v21 => ob (fX9_stepNow l0 h) fun v23 => ob (fX9_seesFrom s0 s1 s2 s3 v21 v23 h) fun v25 => if v25 = 0 then fX9_game_115 k40 l0 l1 l2 l3 l5 l4 (0 : Int32) h else fX9_game_115 k40 l0 l1 l2 l3 l5 l4 (jshl (1 : Int32) l5) h
def fX9_game_70 (k40 : Nat → Int32 → Int32 → Int32 → Int32 → Int32 → AH → Option (Int32 × AH)) (l0 : Nat) (l1 : Int32) (l2 : Int32) (l3 : Int32) (l4 : Int32) (l5 : Int32) (s0 : Nat) (s1 : Int32) (s2 : Int32) (h : AH) : Option (Int32 × AH) :=
  ob (fX9_has l5 (0 : Int32)) fun v19 => if v19 = 0 then fX9_game_84 k40 l0 l1 l2 l3 l4 l5 s0 s1 s2 l2 h else fX9_game_84 k40 l0 l1 l2 l3 l4 l5 s0 s1 s2 l3 h
def fX9_game_40 : Nat → Nat → Int32 → Int32 → Int32 → Int32 → Int32 → AH → Option (Int32 × AH)
  | 0, _, _, _, _, _, _, _ => none
  | n + 1, l0, l1, l2, l3, l4, l5, h => if (4 : Int32) ≤ l5 then fX9_game_124 l4 h else oG (inb ((40 : Int32) + l1) (SZ (PC l0 0))) (if l5 ≤ (1 : Int32) then fX9_game_70 (fX9_game_40 n) l0 l1 l2 l3 l4 l5 (PC l0 0) (hI h (PC l0 0) (ix ((40 : Int32) + l1))) l2 h else fX9_game_70 (fX9_game_40 n) l0 l1 l2 l3 l4 l5 (PC l0 0) (hI h (PC l0 0) (ix ((40 : Int32) + l1))) l3 h)
def fX9_game (th : Nat) (a1 : Int32) (a2 : Int32) (a3 : Int32) (h : AH) : Option (Int32 × AH) :=
  ob (fX9_isWatcher th a1 h) fun v2 => if v2 = 0 then fX9_game_27 th h else ob (fX9_isCell a2) fun v7 => if v7 = 0 then fX9_game_27 th h else ob (fX9_isCell a3) fun v9 => if v9 = 0 then fX9_game_27 th h else if a2 = a3 then fX9_game_27 th h else fX9_game_40 FU th a1 a2 a3 (0 : Int32) (0 : Int32) h
def fX9_fraction_31 (l0 : Nat) (l1 : Int64) (l3 : Int64) (l5 : Int64) (h : AH) : Option (AH) :=
  oG (decide (¬ l5 = 0)) (oL (sJ h l0 4 (l1 / l5)) fun h2 => oG (decide (¬ l5 = 0)) (oL (sJ h2 l0 5 (l3 / l5)) fun h4 => some h4))
def fX9_fraction_6 : Nat → Nat → Int64 → Int64 → Int64 → Int64 → AH → Option (AH)
  | 0, _, _, _, _, _, _ => none
  | n + 1, l0, l1, l3, l5, l7, h => if (lg_cmp l7 (0 : Int64)) = 0 then fX9_fraction_31 l0 l1 l3 l5 h else oG (decide (¬ l7 = 0)) (oL (jremL l5 l7) fun v6 => fX9_fraction_6 n l0 l1 l3 l7 v6 h)
def fX9_fraction (th : Nat) (a1 : Int64) (a2 : Int64) (h : AH) : Option (AH) :=
  fX9_fraction_6 FU th a1 a2 a1 a2 h
def fX9_fails_19 (l0 : Nat) (h : AH) : Option (Int32 × AH) :=
  ob2 (fX9_bad l0 (-2 : Int32) h) fun v5 h4 => some (v5, h4)
def fX9_fails_197 (l0 : Nat) (l4 : Int64) (l6 : Int64) (h : AH) : Option (Int32 × AH) :=
  ob (fX9_fraction l0 l4 l6 h) fun h15 => some ((1 : Int32), h15)
def fX9_fails_156 (k112 : Nat → Int32 → Int32 → Int32 → Int64 → Int64 → Int32 → Int64 → Int32 → AH → Option (Int32 × AH)) (k165 : Nat → Int32 → Int32 → Int32 → Int64 → Int64 → Int32 → Int64 → AH → Option (Int32 × AH)) (l0 : Nat) (l1 : Int32) (l2 : Int32) (l3 : Int32) (l4 : Int64) (l6 : Int64) (l8 : Int32) (l11 : Int32) (s0 : Int64) (s1 : Int64) (h : AH) : Option (Int32 × AH) :=
  oL (s0 * s1) fun v22 => oL (l11 + (1 : Int32)) fun v23 => k112 l0 l1 l2 l3 l4 l6 l8 v22 v23 h
def fX9_fails_112 (k165 : Nat → Int32 → Int32 → Int32 → Int64 → Int64 → Int32 → Int64 → AH → Option (Int32 × AH)) : Nat → Nat → Int32 → Int32 → Int32 → Int64 → Int64 → Int32 → Int64 → Int32 → AH → Option (Int32 × AH)
  | 0, _, _, _, _, _, _, _, _, _, _ => none
  | n + 1, l0, l1, l2, l3, l4, l6, l8, l9, l11, h => ob (fX9_many l0 h) fun v17 => if v17 ≤ l11 then k165 l0 l1 l2 l3 l4 l6 l8 l9 h else ob (fX9_has l3 l11) fun v19 => if v19 = 0 then fX9_fails_156 (fX9_fails_112 k165 n) k165 l0 l1 l2 l3 l4 l6 l8 l11 l9 (1 : Int64) h else ob (fX9_has l8 l11) fun v21 => if v21 = 0 then fX9_fails_156 (fX9_fails_112 k165 n) k165 l0 l1 l2 l3 l4 l6 l8 l11 l9 l2.toInt64 h else fX9_fails_156 (fX9_fails_112 k165 n) k165 l0 l1 l2 l3 l4 l6 l8 l11 l9 (((10 : Int32) - l2).toInt64) h
def fX9_fails_107 (k82 : Nat → Int32 → Int32 → Int32 → Int64 → Int64 → Int32 → AH → Option (Int32 × AH)) (l0 : Nat) (l1 : Int32) (l2 : Int32) (l3 : Int32) (l4 : Int64) (l6 : Int64) (l8 : Int32) (s0 : Int64) (h : AH) : Option (Int32 × AH) :=
  fX9_fails_112 (fun w24 w25 w26 w27 w28 w29 w30 w31 h32 => ob (fX9_stepNow w24 h32) fun v35 => ob (fX9_whoSees (PC w24 0) w25 w30 v35 h32) fun v37 => ob (fX9_bits v37) fun v39 => oL (w28 + (w31 * v39.toInt64)) fun v40 => oL (w30 + (1 : Int32)) fun v41 => k82 w24 w25 w26 w27 v40 w29 v41 h32) FU l0 l1 l2 l3 l4 l6 l8 s0 (0 : Int32) h
def fX9_fails_82 : Nat → Nat → Int32 → Int32 → Int32 → Int64 → Int64 → Int32 → AH → Option (Int32 × AH)
  | 0, _, _, _, _, _, _, _, _ => none
  | n + 1, l0, l1, l2, l3, l4, l6, l8, h => ob (fX9_many l0 h) fun v13 => if (jshl (1 : Int32) v13) ≤ l8 then fX9_fails_197 l0 l4 l6 h else if (l8 &&& (l3 ^^^ (-1 : Int32))) = 0 then fX9_fails_107 (fX9_fails_82 n) l0 l1 l2 l3 l4 l6 l8 (1 : Int64) h else fX9_fails_107 (fX9_fails_82 n) l0 l1 l2 l3 l4 l6 l8 (0 : Int64) h
def fX9_fails_79 (l0 : Nat) (l1 : Int32) (l2 : Int32) (l3 : Int32) (l4 : Int64) (l6 : Int64) (h : AH) : Option (Int32 × AH) :=
  fX9_fails_82 FU l0 l1 l2 l3 l4 l6 (0 : Int32) h
def fX9_fails_70 (k43 : Nat → Int32 → Int32 → Int32 → Int64 → Int64 → Int32 → AH → Option (Int32 × AH)) (l0 : Nat) (l1 : Int32) (l2 : Int32) (l3 : Int32) (l4 : Int64) (l8 : Int32) (s0 : Int64) (s1 : Int64) (h : AH) : Option (Int32 × AH) :=
  oL (s0 * s1) fun v44 => oL (l8 + (1 : Int32)) fun v45 => k43 l0 l1 l2 l3 l4 v44 v45 h
def fX9_fails_43 : Nat → Nat → Int32 → Int32 → Int32 → Int64 → Int64 → Int32 → AH → Option (Int32 × AH)
  | 0, _, _, _, _, _, _, _, _ => none
  | n + 1, l0, l1, l2, l3, l4, l6, l8, h => ob (fX9_many l0 h) fun v11 => if v11 ≤ l8 then fX9_fails_79 l0 l1 l2 l3 l4 l6 h else ob (fX9_has l3 l8) fun v43 => if v43 = 0 then fX9_fails_70 (fX9_fails_43 n) l0 l1 l2 l3 l4 l8 l6 (1 : Int64) h else fX9_fails_70 (fX9_fails_43 n) l0 l1 l2 l3 l4 l8 l6 (10 : Int64) h
def fX9_fails (th : Nat) (a1 : Int32) (a2 : Int32) (h : AH) : Option (Int32 × AH) :=
  ob (fX9_isCell a1) fun v2 => if v2 = 0 then fX9_fails_19 th h else ob (fX9_in a2.toInt64 (0 : Int64) (10 : Int64)) fun v7 => if v7 = 0 then fX9_fails_19 th h else ob (fX9_isOn (PC th 0) h) fun v9 => fX9_fails_43 FU th a1 a2 v9 (0 : Int64) (1 : Int64) (0 : Int32) h
def fX9_years_24 (l0 : Nat) (h : AH) : Option (Int32 × AH) :=
  ob2 (fX9_bad l0 (-2 : Int32) h) fun v5 h4 => some (v5, h4)
def fX9_years_40 : Nat → Nat → Int32 → Int64 → Int32 → Int32 → AH → Option (Int32 × AH)
  | 0, _, _, _, _, _, _ => none
  | n + 1, l0, l2, l3, l5, l6, h => if l2 ≤ l6 then some (l5, h) else oL (jremL ((l3 * (1103515245 : Int64)) + (12345 : Int64)) (2147483648 : Int64)) fun v9 => ob (fX9_isOn (PC l0 0) h) fun v11 => oG (inb (13 : Int32) (SZ (PC l0 0))) (ob (fX9_whoSees (PC l0 0) ((jremL (v9 / (65536 : Int64)) (30 : Int64)).toInt32) v11 (jrem ((hI h (PC l0 0) (ix (13 : Int32))) + l6) (12 : Int32)) h) fun v13 => ob (fX9_bits v13) fun v15 => oL (l5 + v15) fun v16 => oL (l6 + (1 : Int32)) fun v17 => fX9_years_40 n l0 l2 v9 v16 v17 h)
def fX9_years (th : Nat) (a1 : Int32) (a2 : Int32) (h : AH) : Option (Int32 × AH) :=
  ob (fX9_in a1.toInt64 (0 : Int64) (999999 : Int64)) fun v2 => if v2 = 0 then fX9_years_24 th h else ob (fX9_in a2.toInt64 (0 : Int64) (60 : Int64)) fun v7 => if v7 = 0 then fX9_years_24 th h else oL a1.toInt64 fun v8 => fX9_years_40 FU th a2 v8 (0 : Int32) (0 : Int32) h
def fX9_type (th : Nat) (a1 : Int32) (h : AH) : Option (Int32 × AH) :=
  ob (fX9_in a1.toInt64 (0 : Int64) (127 : Int64)) fun v2 => if v2 = 0 then ob2 (fX9_bad th (-2 : Int32) h) fun v10 h9 => some (v10, h9) else if (hI h th 12) = (150 : Int32) then ob2 (fX9_full th h) fun v7 h6 => some (v7, h6) else oG (inb (hI h th 12) (SZ (PC th 11))) (oL (sI h (PC th 11) (ix (hI h th 12)) a1) fun h3 => oL (sI h3 th 12 ((hI h3 th 12) + (1 : Int32))) fun h4 => some ((hI h4 th 12), h4))
def fX9_clear (th : Nat) (h : AH) : Option (Int32 × AH) :=
  oL (hI h th 12) fun v1 => oL (sI h th 12 (0 : Int32)) fun h2 => some (v1, h2)
def fX9_isSmall (a0 : Int32) : Option (Int32) :=
  ob (fX9_in a0.toInt64 (97 : Int64) (122 : Int64)) fun v2 => oG (isB v2) (some v2)
def fX9_isFigure (a0 : Int32) : Option (Int32) :=
  ob (fX9_in a0.toInt64 (48 : Int64) (57 : Int64)) fun v2 => oG (isB v2) (some v2)
def fX9_lookAt_299 (s0 : Nat) (s1 : Int32) (h : AH) : Option (AH) :=
  oL (sI h s0 15 s1) fun h12 => some h12
def fX9_lookAt_295 (l0 : Nat) (s0 : Nat) (h : AH) : Option (AH) :=
  fX9_lookAt_299 s0 (hI h l0 15) h
def fX9_lookAt_274 (l0 : Nat) (h : AH) : Option (AH) :=
  if (hI h l0 15) = (2 : Int32) then if (hI h l0 14) ≤ (2 : Int32) then fX9_lookAt_295 l0 l0 h else fX9_lookAt_299 l0 (4 : Int32) h else fX9_lookAt_295 l0 l0 h
def fX9_lookAt_218 : Nat → Nat → Int32 → AH → Option (AH)
  | 0, _, _, _ => none
  | n + 1, l0, l4, h => if (hI h l0 14) ≤ l4 then fX9_lookAt_274 l0 h else if (2 : Int32) ≤ l4 then fX9_lookAt_274 l0 h else if (hI h l0 15) = (2 : Int32) then oG (inb ((hI h l0 13) + l4) (SZ (PC l0 11))) (oL (sI h l0 16 ((((10 : Int32) * (hI h l0 16)) + (hI h (PC l0 11) (ix ((hI h l0 13) + l4)))) - (48 : Int32))) fun h13 => oL (l4 + (1 : Int32)) fun v14 => fX9_lookAt_218 n l0 v14 h13) else fX9_lookAt_274 l0 h
def fX9_lookAt_215 (l0 : Nat) (h : AH) : Option (AH) :=
  fX9_lookAt_218 FU l0 (0 : Int32) h
def fX9_lookAt_208 (k136 : Nat → Int32 → AH → Option (AH)) (l0 : Nat) (l3 : Int32) (s0 : Nat) (s1 : Int32) (s2 : Int32) (h : AH) : Option (AH) :=
  oL (sI h s0 14 (s1 + s2)) fun h18 => k136 l0 l3 h18
def fX9_lookAt_193 (k136 : Nat → Int32 → AH → Option (AH)) (l0 : Nat) (s0 : Int32) (h : AH) : Option (AH) :=
  if s0 = 0 then fX9_lookAt_208 k136 l0 s0 l0 (hI h l0 14) (0 : Int32) h else fX9_lookAt_208 k136 l0 s0 l0 (hI h l0 14) (1 : Int32) h
def fX9_lookAt_136 : Nat → Nat → Int32 → AH → Option (AH)
  | 0, _, _, _ => none
  | n + 1, l0, l3, h => if l3 = 0 then fX9_lookAt_215 l0 h else if (hI h l0 12) ≤ ((hI h l0 13) + (hI h l0 14)) then fX9_lookAt_215 l0 h else oG (inb ((hI h l0 13) + (hI h l0 14)) (SZ (PC l0 11))) (oL (hI h (PC l0 11) (ix ((hI h l0 13) + (hI h l0 14)))) fun v15 => if (hI h l0 15) = (1 : Int32) then ob (fX9_isSmall v15) fun v20 => fX9_lookAt_193 (fX9_lookAt_136 n) l0 v20 h else ob (fX9_isFigure v15) fun v17 => fX9_lookAt_193 (fX9_lookAt_136 n) l0 v17 h)
def fX9_lookAt_135 (l0 : Nat) (s0 : Int32) (h : AH) : Option (AH) :=
  fX9_lookAt_136 FU l0 s0 h
def fX9_lookAt_114 (l0 : Nat) (s0 : Nat) (s1 : Int32) (h : AH) : Option (AH) :=
  oL (sI h s0 15 s1) fun h10 => oL (sI h10 l0 14 (1 : Int32)) fun h11 => if (3 : Int32) ≤ (hI h11 l0 15) then fX9_lookAt_135 l0 (0 : Int32) h11 else fX9_lookAt_135 l0 (1 : Int32) h11
def fX9_lookAt_43 (l0 : Nat) (h : AH) : Option (AH) :=
  oL (sI h l0 14 (0 : Int32)) fun h2 => oL (sI h2 l0 15 (0 : Int32)) fun h3 => oL (sI h3 l0 16 (0 : Int32)) fun h4 => if (hI h4 l0 13) = (hI h4 l0 12) then some h4 else oG (inb (hI h4 l0 13) (SZ (PC l0 11))) (oL (hI h4 (PC l0 11) (ix (hI h4 l0 13))) fun v5 => ob (fX9_isSmall v5) fun v7 => if v7 = 0 then ob (fX9_isFigure v5) fun v9 => if v9 = 0 then if v5 = (59 : Int32) then fX9_lookAt_114 l0 l0 (3 : Int32) h4 else fX9_lookAt_114 l0 l0 (4 : Int32) h4 else fX9_lookAt_114 l0 l0 (2 : Int32) h4 else fX9_lookAt_114 l0 l0 (1 : Int32) h4)
def fX9_lookAt_5 : Nat → Nat → AH → Option (AH)
  | 0, _, _ => none
  | n + 1, l0, h => if (hI h l0 12) ≤ (hI h l0 13) then fX9_lookAt_43 l0 h else oG (inb (hI h l0 13) (SZ (PC l0 11))) (if (hI h (PC l0 11) (ix (hI h l0 13))) = (32 : Int32) then oL (sI h l0 13 ((hI h l0 13) + (1 : Int32))) fun h21 => fX9_lookAt_5 n l0 h21 else fX9_lookAt_43 l0 h)
def fX9_lookAt (th : Nat) (a1 : Int32) (h : AH) : Option (AH) :=
  oL (sI h th 13 a1) fun h1 => fX9_lookAt_5 FU th h1
def fX9_goBehind (th : Nat) (h : AH) : Option (AH) :=
  ob (fX9_lookAt th ((hI h th 13) + (hI h th 14)) h) fun h2 => some h2
def fX9_spells_111 (h : AH) (k26 : Nat → Int32 → Int32 → Int32 → Int32 → Int32 → Int32 → Int32 → Int32 → Int32 → Option (Int32)) (l0 : Nat) (l1 : Int32) (l2 : Int32) (l3 : Int32) (l4 : Int32) (l5 : Int32) (l6 : Int32) (l7 : Int32) (l9 : Int32) (s0 : Int32) : Option (Int32) :=
  oL (l9 + (1 : Int32)) fun v3 => k26 l0 l1 l2 l3 l4 l5 l6 l7 s0 v3
def fX9_spells_103 (h : AH) (k26 : Nat → Int32 → Int32 → Int32 → Int32 → Int32 → Int32 → Int32 → Int32 → Int32 → Option (Int32)) (l0 : Nat) (l1 : Int32) (l2 : Int32) (l3 : Int32) (l4 : Int32) (l5 : Int32) (l6 : Int32) (l7 : Int32) (l9 : Int32) (s0 : Int32) (s1 : Int32) : Option (Int32) :=
  if s0 = s1 then fX9_spells_111 h k26 l0 l1 l2 l3 l4 l5 l6 l7 l9 (1 : Int32) else fX9_spells_111 h k26 l0 l1 l2 l3 l4 l5 l6 l7 l9 (0 : Int32)
def fX9_spells_26 (h : AH) : Nat → Nat → Int32 → Int32 → Int32 → Int32 → Int32 → Int32 → Int32 → Int32 → Int32 → Option (Int32)
  | 0, _, _, _, _, _, _, _, _, _, _ => none
  | n + 1, l0, l1, l2, l3, l4, l5, l6, l7, l8, l9 => if l1 ≤ l9 then oG (isB l8) (some l8) else if l8 = 0 then oG (isB l8) (some l8) else oG (inb ((hI h l0 13) + l9) (SZ (PC l0 11))) (if l9 = 0 then fX9_spells_103 h (fX9_spells_26 h n) l0 l1 l2 l3 l4 l5 l6 l7 l9 (hI h (PC l0 11) (ix ((hI h l0 13) + l9))) l2 else if l9 = (1 : Int32) then fX9_spells_103 h (fX9_spells_26 h n) l0 l1 l2 l3 l4 l5 l6 l7 l9 (hI h (PC l0 11) (ix ((hI h l0 13) + l9))) l3 else if l9 = (2 : Int32) then fX9_spells_103 h (fX9_spells_26 h n) l0 l1 l2 l3 l4 l5 l6 l7 l9 (hI h (PC l0 11) (ix ((hI h l0 13) + l9))) l4 else if l9 = (3 : Int32) then fX9_spells_103 h (fX9_spells_26 h n) l0 l1 l2 l3 l4 l5 l6 l7 l9 (hI h (PC l0 11) (ix ((hI h l0 13) + l9))) l5 else if l9 = (4 : Int32) then fX9_spells_103 h (fX9_spells_26 h n) l0 l1 l2 l3 l4 l5 l6 l7 l9 (hI h (PC l0 11) (ix ((hI h l0 13) + l9))) l6 else fX9_spells_103 h (fX9_spells_26 h n) l0 l1 l2 l3 l4 l5 l6 l7 l9 (hI h (PC l0 11) (ix ((hI h l0 13) + l9))) l7)
def fX9_spells_21 (h : AH) (l0 : Nat) (l1 : Int32) (l2 : Int32) (l3 : Int32) (l4 : Int32) (l5 : Int32) (l6 : Int32) (l7 : Int32) (s0 : Int32) : Option (Int32) :=
  fX9_spells_26 h FU l0 l1 l2 l3 l4 l5 l6 l7 s0 (0 : Int32)
def fX9_spells_20 (h : AH) (l0 : Nat) (l1 : Int32) (l2 : Int32) (l3 : Int32) (l4 : Int32) (l5 : Int32) (l6 : Int32) (l7 : Int32) : Option (Int32) :=
  fX9_spells_21 h l0 l1 l2 l3 l4 l5 l6 l7 (0 : Int32)
def fX9_spells (th : Nat) (a1 : Int32) (a2 : Int32) (a3 : Int32) (a4 : Int32) (a5 : Int32) (a6 : Int32) (a7 : Int32) (h : AH) : Option (Int32) :=
  if (hI h th 15) = (1 : Int32) then if (hI h th 14) = a1 then fX9_spells_21 h th a1 a2 a3 a4 a5 a6 a7 (1 : Int32) else fX9_spells_20 h th a1 a2 a3 a4 a5 a6 a7 else fX9_spells_20 h th a1 a2 a3 a4 a5 a6 a7
def fX9_takes (th : Nat) (a1 : Int32) (a2 : Int32) (a3 : Int32) (h : AH) : Option (Int32 × AH) :=
  if (hI h th 15) = (2 : Int32) then ob (fX9_in ((hI h th 16).toInt64) a2.toInt64 a3.toInt64) fun v2 => if v2 = 0 then some ((0 : Int32), h) else oG (inb a1 (SZ (PC th 18))) (oL (sI h (PC th 18) (ix a1) (hI h th 16)) fun h3 => ob (fX9_goBehind th h3) fun h5 => some ((1 : Int32), h5)) else some ((0 : Int32), h)
def fX9_takesShow (th : Nat) (h : AH) : Option (Int32 × AH) :=
  oG (inb (0 : Int32) (SZ (PC th 17))) (if (hI h (PC th 17) (ix (0 : Int32))) = (5 : Int32) then some ((0 : Int32), h) else ob (fX9_goBehind th h) fun h2 => ob2 (fX9_takes th (0 : Int32) (0 : Int32) (5 : Int32) h2) fun v5 h4 => if v5 = 0 then some ((0 : Int32), h4) else ob2 (fX9_takes th (1 : Int32) (0 : Int32) (29 : Int32) h4) fun v8 h7 => if v8 = 0 then some ((0 : Int32), h7) else ob2 (fX9_takes th (2 : Int32) (1 : Int32) (9 : Int32) h7) fun v11 h10 => if v11 = 0 then some ((0 : Int32), h10) else oG (inb (0 : Int32) (SZ (PC th 18))) (oG (inb (1 : Int32) (SZ (PC th 18))) (oG (inb (2 : Int32) (SZ (PC th 18))) (ob (fX9_layShow (PC th 17) (hI h10 (PC th 18) (ix (0 : Int32))) (hI h10 (PC th 18) (ix (1 : Int32))) (hI h10 (PC th 18) (ix (2 : Int32))) h10) fun h13 => some ((1 : Int32), h13)))))
def fX9_takesOff (th : Nat) (h : AH) : Option (Int32 × AH) :=
  ob (fX9_goBehind th h) fun h2 => oG (inb (0 : Int32) (SZ (PC th 17))) (ob2 (fX9_takes th (0 : Int32) (0 : Int32) ((hI h2 (PC th 17) (ix (0 : Int32))) - (1 : Int32)) h2) fun v5 h4 => if v5 = 0 then some ((0 : Int32), h4) else oG (inb (0 : Int32) (SZ (PC th 18))) (oG (inb ((25 : Int32) + (hI h4 (PC th 18) (ix (0 : Int32)))) (SZ (PC th 17))) (oL (sI h4 (PC th 17) (ix ((25 : Int32) + (hI h4 (PC th 18) (ix (0 : Int32))))) (0 : Int32)) fun h6 => some ((1 : Int32), h6))))
def fX9_takesWatcher (th : Nat) (h : AH) : Option (Int32 × AH) :=
  oG (inb (1 : Int32) (SZ (PC th 17))) (if (hI h (PC th 17) (ix (1 : Int32))) = (6 : Int32) then some ((0 : Int32), h) else ob (fX9_goBehind th h) fun h2 => ob2 (fX9_takes th (0 : Int32) (0 : Int32) (5 : Int32) h2) fun v5 h4 => if v5 = 0 then some ((0 : Int32), h4) else ob2 (fX9_takes th (1 : Int32) (0 : Int32) (29 : Int32) h4) fun v8 h7 => if v8 = 0 then some ((0 : Int32), h7) else oG (inb (0 : Int32) (SZ (PC th 18))) (oG (inb (1 : Int32) (SZ (PC th 18))) (ob (fX9_layWatcher (PC th 17) (hI h7 (PC th 18) (ix (0 : Int32))) (hI h7 (PC th 18) (ix (1 : Int32))) h7) fun h10 => some ((1 : Int32), h10))))
def fX9_takesDo (th : Nat) (h : AH) : Option (Int32 × AH) :=
  ob (fX9_goBehind th h) fun h2 => ob2 (fX9_takes th (0 : Int32) (0 : Int32) (29 : Int32) h2) fun v5 h4 => if v5 = 0 then some ((0 : Int32), h4) else oG (inb (0 : Int32) (SZ (PC th 18))) (ob2 (fX9_goDoing (PC th 17) (hI h4 (PC th 18) (ix (0 : Int32))) h4) fun v8 h7 => if v8 < 0 then some ((0 : Int32), h7) else some ((1 : Int32), h7))
def fX9_takesRest (th : Nat) (h : AH) : Option (Int32 × AH) :=
  ob (fX9_goBehind th h) fun h2 => ob2 (fX9_takes th (0 : Int32) (1 : Int32) (99 : Int32) h2) fun v5 h4 => if v5 = 0 then some ((0 : Int32), h4) else oG (inb (0 : Int32) (SZ (PC th 18))) (ob (fX9_goRest (PC th 17) (hI h4 (PC th 18) (ix (0 : Int32))) h4) fun h7 => some ((1 : Int32), h7))
def fX9_isWatcherWord_73 (l0 : Nat) (l1 : Int32) (l2 : Int32) (s0 : Nat) (s1 : Int32) (h : AH) : Option (Int32 × AH) :=
  oL (sI h s0 14 s1) fun h4 => if l1 = 0 then some ((0 : Int32), h4) else if l2 = 0 then some ((0 : Int32), h4) else oG (inb ((hI h4 l0 13) + (6 : Int32)) (SZ (PC l0 11))) (if (hI h4 (PC l0 11) (ix ((hI h4 l0 13) + (6 : Int32)))) = (114 : Int32) then some ((1 : Int32), h4) else some ((0 : Int32), h4))
def fX9_isWatcherWord_37 (l0 : Nat) (l1 : Int32) (s0 : Nat) (s1 : Int32) (h : AH) : Option (Int32 × AH) :=
  oL (sI h s0 14 s1) fun h1 => ob (fX9_spells l0 (6 : Int32) (119 : Int32) (97 : Int32) (116 : Int32) (99 : Int32) (104 : Int32) (101 : Int32) h1) fun v3 => if l1 = 0 then fX9_isWatcherWord_73 l0 l1 v3 l0 (hI h1 l0 14) h1 else fX9_isWatcherWord_73 l0 l1 v3 l0 (7 : Int32) h1
def fX9_isWatcherWord_22 (l0 : Nat) (s0 : Int32) (h : AH) : Option (Int32 × AH) :=
  if s0 = 0 then fX9_isWatcherWord_37 l0 s0 l0 (hI h l0 14) h else fX9_isWatcherWord_37 l0 s0 l0 (6 : Int32) h
def fX9_isWatcherWord_21 (l0 : Nat) (h : AH) : Option (Int32 × AH) :=
  fX9_isWatcherWord_22 l0 (0 : Int32) h
def fX9_isWatcherWord (th : Nat) (h : AH) : Option (Int32 × AH) :=
  if (hI h th 15) = (1 : Int32) then if (hI h th 14) = (7 : Int32) then fX9_isWatcherWord_22 th (1 : Int32) h else fX9_isWatcherWord_21 th h else fX9_isWatcherWord_21 th h
def fX9_takesItem (th : Nat) (h : AH) : Option (Int32 × AH) :=
  ob (fX9_spells th (4 : Int32) (115 : Int32) (104 : Int32) (111 : Int32) (119 : Int32) (0 : Int32) (0 : Int32) h) fun v2 => if v2 = 0 then ob (fX9_spells th (3 : Int32) (111 : Int32) (102 : Int32) (102 : Int32) (0 : Int32) (0 : Int32) (0 : Int32) h) fun v4 => if v4 = 0 then ob (fX9_spells th (2 : Int32) (100 : Int32) (111 : Int32) (0 : Int32) (0 : Int32) (0 : Int32) (0 : Int32) h) fun v6 => if v6 = 0 then ob (fX9_spells th (4 : Int32) (114 : Int32) (101 : Int32) (115 : Int32) (116 : Int32) (0 : Int32) (0 : Int32) h) fun v8 => if v8 = 0 then ob2 (fX9_isWatcherWord th h) fun v11 h10 => if v11 = 0 then some ((0 : Int32), h10) else ob2 (fX9_takesWatcher th h10) fun v14 h13 => if v14 = 0 then some ((0 : Int32), h13) else some ((1 : Int32), h13) else ob2 (fX9_takesRest th h) fun v17 h16 => oG (isB v17) (some (v17, h16)) else ob2 (fX9_takesDo th h) fun v21 h20 => oG (isB v21) (some (v21, h20)) else ob2 (fX9_takesOff th h) fun v25 h24 => oG (isB v25) (some (v25, h24)) else ob2 (fX9_takesShow th h) fun v29 h28 => oG (isB v29) (some (v29, h28))
def fX9_read_106 : Nat → Nat → Int32 → Int32 → AH → Option (Int32 × AH)
  | 0, _, _, _, _ => none
  | n + 1, l0, l1, l2, h => if (112 : Int32) ≤ l2 then some (l1, h) else oG (inb l2 (SZ (PC l0 17))) (oG (inb l2 (SZ (PC l0 0))) (oL (sI h (PC l0 0) (ix l2) (hI h (PC l0 17) (ix l2))) fun h11 => oL (l2 + (1 : Int32)) fun v12 => fX9_read_106 n l0 l1 v12 h11))
def fX9_read_104 (l0 : Nat) (l1 : Int32) (h : AH) : Option (Int32 × AH) :=
  fX9_read_106 FU l0 l1 (0 : Int32) h
def fX9_read_86 (l0 : Nat) (h : AH) : Option (Int32 × AH) :=
  some (((-10 : Int32) - (hI h l0 13)), h)
def fX9_read_64 : Nat → Nat → Int32 → AH → Option (Int32 × AH)
  | 0, _, _, _ => none
  | n + 1, l0, l1, h => if (hI h l0 15) = 0 then fX9_read_104 l0 l1 h else ob2 (fX9_takesItem l0 h) fun v15 h14 => if v15 = 0 then fX9_read_86 l0 h14 else if (hI h14 l0 15) = (3 : Int32) then ob (fX9_goBehind l0 h14) fun h17 => oL (l1 + (1 : Int32)) fun v18 => fX9_read_64 n l0 v18 h17 else fX9_read_86 l0 h14
def fX9_read (th : Nat) (h : AH) : Option (Int32 × AH) :=
  ob (fX9_lookAt th (0 : Int32) h) fun h2 => ob (fX9_spells th (4 : Int32) (108 : Int32) (97 : Int32) (110 : Int32) (100 : Int32) (0 : Int32) (0 : Int32) h2) fun v4 => if v4 = 0 then some (((-10 : Int32) - (hI h2 th 13)), h2) else ob (fX9_goBehind th h2) fun h6 => if (hI h6 th 15) = (3 : Int32) then ob (fX9_goBehind th h6) fun h8 => ob (fX9_begin (PC th 17) h8) fun h10 => fX9_read_64 FU th (1 : Int32) h10 else some (((-10 : Int32) - (hI h6 th 13)), h6)
def fX9_part (th : Nat) (a1 : Int32) (h : AH) : Option (Int64 × AH) :=
  if a1 = 0 then some ((hJ h th 4), h) else if a1 = (1 : Int32) then some ((hJ h th 5), h) else ob2 (fX9_bad th (-2 : Int32) h) fun v3 h2 => some (v3.toInt64, h2)
def fX9_image_50 (l0 : Nat) (l1 : Int32) (h : AH) : Option (Int32 × AH) :=
  oG (inb l1 (SZ (PC l0 2))) (oG (isB (1 : Int32)) (oL (sI h (PC l0 2) (ix l1) (1 : Int32)) fun h3 => some ((1 : Int32), h3)))
def fX9_image_19 : Nat → Nat → Int32 → Int32 → AH → Option (Int32 × AH)
  | 0, _, _, _, _ => none
  | n + 1, l0, l1, l2, h => if (304 : Int32) ≤ l2 then fX9_image_50 l0 l1 h else oG (inb l2 (SZ (PC l0 0))) (oG (inb (((304 : Int32) * l1) + l2) (SZ (PC l0 1))) (oL (sI h (PC l0 1) (ix (((304 : Int32) * l1) + l2)) (hI h (PC l0 0) (ix l2))) fun h4 => oL (l2 + (1 : Int32)) fun v5 => fX9_image_19 n l0 l1 v5 h4))
def fX9_image (th : Nat) (a1 : Int32) (h : AH) : Option (Int32 × AH) :=
  ob (fX9_in a1.toInt64 (0 : Int64) (1 : Int64)) fun v2 => if v2 = 0 then ob2 (fX9_bad th (-2 : Int32) h) fun v8 h7 => some (v8, h7) else fX9_image_19 FU th a1 (0 : Int32) h
def fX9_from_33 : Nat → Nat → Int32 → Int32 → AH → Option (Int32 × AH)
  | 0, _, _, _, _ => none
  | n + 1, l0, l1, l2, h => if (304 : Int32) ≤ l2 then some ((1 : Int32), h) else oG (inb (((304 : Int32) * l1) + l2) (SZ (PC l0 1))) (oG (inb l2 (SZ (PC l0 0))) (oL (sI h (PC l0 0) (ix l2) (hI h (PC l0 1) (ix (((304 : Int32) * l1) + l2)))) fun h3 => oL (l2 + (1 : Int32)) fun v4 => fX9_from_33 n l0 l1 v4 h3))
def fX9_from (th : Nat) (a1 : Int32) (h : AH) : Option (Int32 × AH) :=
  ob (fX9_in a1.toInt64 (0 : Int64) (1 : Int64)) fun v2 => if v2 = 0 then ob2 (fX9_bad th (-2 : Int32) h) fun v10 h9 => some (v10, h9) else oG (inb a1 (SZ (PC th 2))) (if (hI h (PC th 2) (ix a1)) = 0 then ob2 (fX9_no th h) fun v7 h6 => some (v7, h6) else fX9_from_33 FU th a1 (0 : Int32) h)
def fX9_status (th : Nat) (a1 : Int32) (h : AH) : Option (Int32 × AH) :=
  ob (fX9_in a1.toInt64 (0 : Int64) (2 : Int64)) fun v2 => if v2 = 0 then ob2 (fX9_bad th (-1 : Int32) h) fun v5 h4 => some (v5, h4) else oG (inb a1 (SZ (PC th 3))) (some ((hI h (PC th 3) (ix a1)), h))
def fX9_allKnow_4 (h : AH) : Nat → Nat → Int32 → Int32 → Option (Int32)
  | 0, _, _, _ => none
  | n + 1, l0, l1, l2 => ob (fX9_manyWatchers l0 h) fun v2 => if v2 ≤ l2 then some l1 else oG (inb ((6 : Int32) + l2) (SZ (PC l0 0))) (oL (l1 + (hI h (PC l0 0) (ix ((6 : Int32) + l2)))) fun v3 => oL (l2 + (1 : Int32)) fun v4 => fX9_allKnow_4 h n l0 v3 v4)
def fX9_allKnow (th : Nat) (h : AH) : Option (Int32) :=
  fX9_allKnow_4 h FU th (0 : Int32) (0 : Int32)
def fX9_counted (th : Nat) (a1 : Int32) (h : AH) : Option (Int32) :=
  if a1 = (0 : Int32) then ob (fX9_many th h) fun v2 => some v2 else if a1 = (1 : Int32) then ob (fX9_manyWatchers th h) fun v5 => some v5 else if a1 = (2 : Int32) then oG (inb (13 : Int32) (SZ (PC th 0))) (some (hI h (PC th 0) (ix (13 : Int32)))) else if a1 = (3 : Int32) then oG (inb (12 : Int32) (SZ (PC th 0))) (some (hI h (PC th 0) (ix (12 : Int32)))) else if a1 = (4 : Int32) then ob (fX9_isOn (PC th 0) h) fun v10 => ob (fX9_bits v10) fun v12 => some v12 else if a1 = (5 : Int32) then ob (fX9_allKnow th h) fun v15 => some v15 else if a1 = (6 : Int32) then oG (inb (((2 : Int32) + a1) - (6 : Int32)) (SZ (PC th 0))) (some (hI h (PC th 0) (ix (((2 : Int32) + a1) - (6 : Int32))))) else if a1 = (7 : Int32) then oG (inb (((2 : Int32) + a1) - (6 : Int32)) (SZ (PC th 0))) (some (hI h (PC th 0) (ix (((2 : Int32) + a1) - (6 : Int32))))) else if a1 = (8 : Int32) then oG (inb (((2 : Int32) + a1) - (6 : Int32)) (SZ (PC th 0))) (some (hI h (PC th 0) (ix (((2 : Int32) + a1) - (6 : Int32))))) else if a1 = (9 : Int32) then oG (inb (5 : Int32) (SZ (PC th 0))) (some (hI h (PC th 0) (ix (5 : Int32)))) else if a1 = (10 : Int32) then some (hI h th 12) else oG (inb (((2 : Int32) + a1) - (6 : Int32)) (SZ (PC th 0))) (some (hI h (PC th 0) (ix (((2 : Int32) + a1) - (6 : Int32)))))
def fX9_count (th : Nat) (a1 : Int32) (h : AH) : Option (Int32 × AH) :=
  ob (fX9_in a1.toInt64 (0 : Int64) (10 : Int64)) fun v2 => if v2 = 0 then ob2 (fX9_bad th (-2 : Int32) h) fun v5 h4 => some (v5, h4) else ob (fX9_counted th a1 h) fun v7 => some (v7, h)
def fX9_sums_6 (h : AH) : Nat → Nat → Int32 → Int32 → Int64 → Int32 → Option (Int64)
  | 0, _, _, _, _, _ => none
  | n + 1, l0, l3, l4, l5, l7 => if l4 ≤ l7 then some l5 else oG (inb (l3 + l7) (SZ (PC l0 0))) (oL (((31 : Int64) * l5) + ((hI h (PC l0 0) (ix (l3 + l7))).toInt64)) fun v1 => oL (l7 + (1 : Int32)) fun v2 => fX9_sums_6 h n l0 l3 l4 v1 v2)
def fX9_sums (th : Nat) (a1 : Int64) (a2 : Int32) (a3 : Int32) (h : AH) : Option (Int64) :=
  fX9_sums_6 h FU th a2 a3 a1 (0 : Int32)
def fX9_digest_174 (h : AH) (l0 : Nat) (l1 : Int64) : Option (Int64) :=
  oG (inb (2 : Int32) (SZ (PC l0 0))) (ob (fX9_sums l0 l1 (46 : Int32) ((2 : Int32) * (hI h (PC l0 0) (ix (2 : Int32)))) h) fun v6 => oG (inb (3 : Int32) (SZ (PC l0 0))) (ob (fX9_sums l0 v6 (58 : Int32) ((5 : Int32) * (hI h (PC l0 0) (ix (3 : Int32)))) h) fun v8 => oG (inb (4 : Int32) (SZ (PC l0 0))) (ob (fX9_sums l0 v8 (88 : Int32) ((4 : Int32) * (hI h (PC l0 0) (ix (4 : Int32)))) h) fun v10 => some (((31 : Int64) * (((31 : Int64) * v10) + (hJ h l0 4))) + (hJ h l0 5)))))
def fX9_digest_113 (h : AH) : Nat → Nat → Int64 → Int32 → Option (Int64)
  | 0, _, _, _ => none
  | n + 1, l0, l1, l3 => ob (fX9_manyWatchers l0 h) fun v4 => if v4 ≤ l3 then fX9_digest_174 h l0 l1 else oG (inb ((40 : Int32) + l3) (SZ (PC l0 0))) (oG (inb ((19 : Int32) + l3) (SZ (PC l0 0))) (oG (inb ((6 : Int32) + l3) (SZ (PC l0 0))) (oL (((31 : Int64) * (((31 : Int64) * (((31 : Int64) * l1) + ((hI h (PC l0 0) (ix ((40 : Int32) + l3))).toInt64))) + ((hI h (PC l0 0) (ix ((19 : Int32) + l3))).toInt64))) + ((hI h (PC l0 0) (ix ((6 : Int32) + l3))).toInt64)) fun v11 => oL (l3 + (1 : Int32)) fun v12 => fX9_digest_113 h n l0 v11 v12)))
def fX9_digest_111 (h : AH) (l0 : Nat) (l1 : Int64) : Option (Int64) :=
  fX9_digest_113 h FU l0 l1 (0 : Int32)
def fX9_digest_33 (h : AH) : Nat → Nat → Int64 → Int32 → Option (Int64)
  | 0, _, _, _ => none
  | n + 1, l0, l1, l3 => ob (fX9_many l0 h) fun v2 => if v2 ≤ l3 then fX9_digest_111 h l0 l1 else oG (inb ((30 : Int32) + l3) (SZ (PC l0 0))) (oG (inb ((14 : Int32) + l3) (SZ (PC l0 0))) (oL (((31 : Int64) * (((31 : Int64) * l1) + ((hI h (PC l0 0) (ix ((30 : Int32) + l3))).toInt64))) + ((hI h (PC l0 0) (ix ((14 : Int32) + l3))).toInt64)) fun v13 => oG (inb ((35 : Int32) + l3) (SZ (PC l0 0))) (oG (inb ((25 : Int32) + l3) (SZ (PC l0 0))) (oL (((31 : Int64) * (((31 : Int64) * v13) + ((hI h (PC l0 0) (ix ((35 : Int32) + l3))).toInt64))) + ((hI h (PC l0 0) (ix ((25 : Int32) + l3))).toInt64)) fun v14 => oL (l3 + (1 : Int32)) fun v15 => fX9_digest_33 h n l0 v14 v15))))
def fX9_digest_31 (h : AH) (l0 : Nat) (l1 : Int64) : Option (Int64) :=
  fX9_digest_33 h FU l0 l1 (0 : Int32)
def fX9_digest_6 (h : AH) : Nat → Nat → Int64 → Int32 → Option (Int64)
  | 0, _, _, _ => none
  | n + 1, l0, l1, l3 => if (11 : Int32) ≤ l3 then fX9_digest_31 h l0 l1 else ob (fX9_counted l0 l3 h) fun v17 => oL (((31 : Int64) * l1) + v17.toInt64) fun v18 => oL (l3 + (1 : Int32)) fun v19 => fX9_digest_6 h n l0 v18 v19
def fX9_digest (th : Nat) (h : AH) : Option (Int64) :=
  fX9_digest_6 h FU th (1487 : Int64) (0 : Int32)
