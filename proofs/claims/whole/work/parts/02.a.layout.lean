/-! the objects that the two constructors make, in their order: kind (0 .. 8 classes, 9 int[], 10 boolean[], 11 County[], 12 Land[]) and size; what their reference fields hold -/
def LAYL : List (Nat × Nat) := [(7, 13), (0, 5), (1, 11), (9, 5), (9, 5), (9, 5), (9, 5), (9, 6), (9, 6), (9, 6), (2, 2), (12, 8), (1, 11), (9, 5), (9, 5), (9, 5), (9, 5), (9, 6), (9, 6), (9, 6), (1, 11), (9, 5), (9, 5), (9, 5), (9, 5), (9, 6), (9, 6), (9, 6), (1, 11), (9, 5), (9, 5), (9, 5), (9, 5), (9, 6), (9, 6), (9, 6), (1, 11), (9, 5), (9, 5), (9, 5), (9, 5), (9, 6), (9, 6), (9, 6), (1, 11), (9, 5), (9, 5), (9, 5), (9, 5), (9, 6), (9, 6), (9, 6), (1, 11), (9, 5), (9, 5), (9, 5), (9, 5), (9, 6), (9, 6), (9, 6), (1, 11), (9, 5), (9, 5), (9, 5), (9, 5), (9, 6), (9, 6), (9, 6), (1, 11), (9, 5), (9, 5), (9, 5), (9, 5), (9, 6), (9, 6), (9, 6), (5, 2), (9, 30), (5, 2), (9, 30), (5, 2), (9, 30), (11, 2), (10, 2), (1, 11), (9, 5), (9, 5), (9, 5), (9, 5), (9, 6), (9, 6), (9, 6), (6, 1), (9, 6), (4, 8), (9, 150), (9, 3), (3, 2), (9, 4), (9, 6), (0, 5), (1, 11), (9, 5), (9, 5), (9, 5), (9, 5), (9, 6), (9, 6), (9, 6), (2, 2), (12, 8), (1, 11), (9, 5), (9, 5), (9, 5), (9, 5), (9, 6), (9, 6), (9, 6), (1, 11), (9, 5), (9, 5), (9, 5), (9, 5), (9, 6), (9, 6), (9, 6), (1, 11), (9, 5), (9, 5), (9, 5), (9, 5), (9, 6), (9, 6), (9, 6), (1, 11), (9, 5), (9, 5), (9, 5), (9, 5), (9, 6), (9, 6), (9, 6), (1, 11), (9, 5), (9, 5), (9, 5), (9, 5), (9, 6), (9, 6), (9, 6), (1, 11), (9, 5), (9, 5), (9, 5), (9, 5), (9, 6), (9, 6), (9, 6), (1, 11), (9, 5), (9, 5), (9, 5), (9, 5), (9, 6), (9, 6), (9, 6), (1, 11), (9, 5), (9, 5), (9, 5), (9, 5), (9, 6), (9, 6), (9, 6), (5, 2), (9, 30), (5, 2), (9, 30), (5, 2), (9, 30), (0, 5), (1, 11), (9, 5), (9, 5), (9, 5), (9, 5), (9, 6), (9, 6), (9, 6), (2, 2), (12, 8), (1, 11), (9, 5), (9, 5), (9, 5), (9, 5), (9, 6), (9, 6), (9, 6), (1, 11), (9, 5), (9, 5), (9, 5), (9, 5), (9, 6), (9, 6), (9, 6), (1, 11), (9, 5), (9, 5), (9, 5), (9, 5), (9, 6), (9, 6), (9, 6), (1, 11), (9, 5), (9, 5), (9, 5), (9, 5), (9, 6), (9, 6), (9, 6), (1, 11), (9, 5), (9, 5), (9, 5), (9, 5), (9, 6), (9, 6), (9, 6), (1, 11), (9, 5), (9, 5), (9, 5), (9, 5), (9, 6), (9, 6), (9, 6), (1, 11), (9, 5), (9, 5), (9, 5), (9, 5), (9, 6), (9, 6), (9, 6), (1, 11), (9, 5), (9, 5), (9, 5), (9, 5), (9, 6), (9, 6), (9, 6), (5, 2), (9, 30), (5, 2), (9, 30), (5, 2), (9, 30), (8, 19), (9, 304), (9, 608), (10, 2), (9, 3), (9, 46), (9, 4), (10, 96), (9, 4), (9, 4), (9, 150), (9, 112), (9, 3)]
def NN : Nat := 275
def KD (o : Nat) : Nat := (LAYL.getD o (99, 0)).1
def SZ (o : Nat) : Nat := (LAYL.getD o (99, 0)).2
def PCL : List (List Nat) := [[1, 82, 83, 84, 92, 94, 97, 99, 0, 0, 0, 0, 0], [2, 10, 76, 78, 80], [0, 0, 0, 0, 3, 4, 5, 6, 7, 8, 9], [], [], [], [], [], [], [], [11, 0], [], [0, 0, 0, 0, 13, 14, 15, 16, 17, 18, 19], [], [], [], [], [], [], [], [0, 0, 0, 0, 21, 22, 23, 24, 25, 26, 27], [], [], [], [], [], [], [], [0, 0, 0, 0, 29, 30, 31, 32, 33, 34, 35], [], [], [], [], [], [], [], [0, 0, 0, 0, 37, 38, 39, 40, 41, 42, 43], [], [], [], [], [], [], [], [0, 0, 0, 0, 45, 46, 47, 48, 49, 50, 51], [], [], [], [], [], [], [], [0, 0, 0, 0, 53, 54, 55, 56, 57, 58, 59], [], [], [], [], [], [], [], [0, 0, 0, 0, 61, 62, 63, 64, 65, 66, 67], [], [], [], [], [], [], [], [0, 0, 0, 0, 69, 70, 71, 72, 73, 74, 75], [], [], [], [], [], [], [], [77, 0], [], [79, 0], [], [81, 0], [], [], [], [0, 0, 0, 0, 85, 86, 87, 88, 89, 90, 91], [], [], [], [], [], [], [], [93], [], [95, 0, 96, 0, 0, 0, 0, 0], [], [], [98, 0], [], [], [101, 109, 175, 177, 179], [0, 0, 0, 0, 102, 103, 104, 105, 106, 107, 108], [], [], [], [], [], [], [], [110, 0], [], [0, 0, 0, 0, 112, 113, 114, 115, 116, 117, 118], [], [], [], [], [], [], [], [0, 0, 0, 0, 120, 121, 122, 123, 124, 125, 126], [], [], [], [], [], [], [], [0, 0, 0, 0, 128, 129, 130, 131, 132, 133, 134], [], [], [], [], [], [], [], [0, 0, 0, 0, 136, 137, 138, 139, 140, 141, 142], [], [], [], [], [], [], [], [0, 0, 0, 0, 144, 145, 146, 147, 148, 149, 150], [], [], [], [], [], [], [], [0, 0, 0, 0, 152, 153, 154, 155, 156, 157, 158], [], [], [], [], [], [], [], [0, 0, 0, 0, 160, 161, 162, 163, 164, 165, 166], [], [], [], [], [], [], [], [0, 0, 0, 0, 168, 169, 170, 171, 172, 173, 174], [], [], [], [], [], [], [], [176, 0], [], [178, 0], [], [180, 0], [], [182, 190, 256, 258, 260], [0, 0, 0, 0, 183, 184, 185, 186, 187, 188, 189], [], [], [], [], [], [], [], [191, 0], [], [0, 0, 0, 0, 193, 194, 195, 196, 197, 198, 199], [], [], [], [], [], [], [], [0, 0, 0, 0, 201, 202, 203, 204, 205, 206, 207], [], [], [], [], [], [], [], [0, 0, 0, 0, 209, 210, 211, 212, 213, 214, 215], [], [], [], [], [], [], [], [0, 0, 0, 0, 217, 218, 219, 220, 221, 222, 223], [], [], [], [], [], [], [], [0, 0, 0, 0, 225, 226, 227, 228, 229, 230, 231], [], [], [], [], [], [], [], [0, 0, 0, 0, 233, 234, 235, 236, 237, 238, 239], [], [], [], [], [], [], [], [0, 0, 0, 0, 241, 242, 243, 244, 245, 246, 247], [], [], [], [], [], [], [], [0, 0, 0, 0, 249, 250, 251, 252, 253, 254, 255], [], [], [], [], [], [], [], [257, 0], [], [259, 0], [], [261, 0], [], [263, 264, 265, 266, 0, 0, 267, 268, 269, 270, 271, 272, 0, 0, 0, 0, 0, 273, 274], [], [], [], [], [], [], [], [], [], [], [], []]
def PC (o k : Nat) : Nat := (PCL.getD o []).getD k 0
theorem KD_lt {o : Nat} (h : KD o ≠ 99) : o < NN := by
  rcases Nat.lt_or_ge o NN with q | q
  · exact q
  · exfalso; apply h; unfold KD
    rw [List.getD_eq_getElem?_getD, List.getElem?_eq_none (by rw [show LAYL.length = NN by decide +kernel]; exact q)]; rfl
theorem KD_lt' {o k : Nat} (h : KD o = k) (hk : k ≠ 99) : o < NN := KD_lt (by rw [h]; exact hk)
theorem ty_X0_0 {o : Nat} (h : KD o = 0) : KD (PC o 0) = 1 := (by decide +kernel : ∀ o, o < NN → KD o = 0 → KD (PC o 0) = 1) o (KD_lt' h (by decide)) h
theorem sz_X0_0 {o : Nat} (h : KD o = 0) : SZ (PC o 0) = 11 := (by decide +kernel : ∀ o, o < NN → KD o = 0 → SZ (PC o 0) = 11) o (KD_lt' h (by decide)) h
theorem pc_X0_0 {o : Nat} (h : KD o = 0) : PC o 0 = o + 1 := (by decide +kernel : ∀ o, o < NN → KD o = 0 → PC o 0 = o + 1) o (KD_lt' h (by decide)) h
theorem ty_X0_1 {o : Nat} (h : KD o = 0) : KD (PC o 1) = 2 := (by decide +kernel : ∀ o, o < NN → KD o = 0 → KD (PC o 1) = 2) o (KD_lt' h (by decide)) h
theorem sz_X0_1 {o : Nat} (h : KD o = 0) : SZ (PC o 1) = 2 := (by decide +kernel : ∀ o, o < NN → KD o = 0 → SZ (PC o 1) = 2) o (KD_lt' h (by decide)) h
theorem pc_X0_1 {o : Nat} (h : KD o = 0) : PC o 1 = o + 9 := (by decide +kernel : ∀ o, o < NN → KD o = 0 → PC o 1 = o + 9) o (KD_lt' h (by decide)) h
theorem ty_X0_2 {o : Nat} (h : KD o = 0) : KD (PC o 2) = 5 := (by decide +kernel : ∀ o, o < NN → KD o = 0 → KD (PC o 2) = 5) o (KD_lt' h (by decide)) h
theorem sz_X0_2 {o : Nat} (h : KD o = 0) : SZ (PC o 2) = 2 := (by decide +kernel : ∀ o, o < NN → KD o = 0 → SZ (PC o 2) = 2) o (KD_lt' h (by decide)) h
theorem pc_X0_2 {o : Nat} (h : KD o = 0) : PC o 2 = o + 75 := (by decide +kernel : ∀ o, o < NN → KD o = 0 → PC o 2 = o + 75) o (KD_lt' h (by decide)) h
theorem ty_X0_3 {o : Nat} (h : KD o = 0) : KD (PC o 3) = 5 := (by decide +kernel : ∀ o, o < NN → KD o = 0 → KD (PC o 3) = 5) o (KD_lt' h (by decide)) h
theorem sz_X0_3 {o : Nat} (h : KD o = 0) : SZ (PC o 3) = 2 := (by decide +kernel : ∀ o, o < NN → KD o = 0 → SZ (PC o 3) = 2) o (KD_lt' h (by decide)) h
theorem pc_X0_3 {o : Nat} (h : KD o = 0) : PC o 3 = o + 77 := (by decide +kernel : ∀ o, o < NN → KD o = 0 → PC o 3 = o + 77) o (KD_lt' h (by decide)) h
theorem ty_X0_4 {o : Nat} (h : KD o = 0) : KD (PC o 4) = 5 := (by decide +kernel : ∀ o, o < NN → KD o = 0 → KD (PC o 4) = 5) o (KD_lt' h (by decide)) h
theorem sz_X0_4 {o : Nat} (h : KD o = 0) : SZ (PC o 4) = 2 := (by decide +kernel : ∀ o, o < NN → KD o = 0 → SZ (PC o 4) = 2) o (KD_lt' h (by decide)) h
theorem pc_X0_4 {o : Nat} (h : KD o = 0) : PC o 4 = o + 79 := (by decide +kernel : ∀ o, o < NN → KD o = 0 → PC o 4 = o + 79) o (KD_lt' h (by decide)) h
theorem ty_X2_4 {o : Nat} (h : KD o = 1) : KD (PC o 4) = 9 := (by decide +kernel : ∀ o, o < NN → KD o = 1 → KD (PC o 4) = 9) o (KD_lt' h (by decide)) h
theorem sz_X2_4 {o : Nat} (h : KD o = 1) : SZ (PC o 4) = 5 := (by decide +kernel : ∀ o, o < NN → KD o = 1 → SZ (PC o 4) = 5) o (KD_lt' h (by decide)) h
theorem pc_X2_4 {o : Nat} (h : KD o = 1) : PC o 4 = o + 1 := (by decide +kernel : ∀ o, o < NN → KD o = 1 → PC o 4 = o + 1) o (KD_lt' h (by decide)) h
theorem ty_X2_5 {o : Nat} (h : KD o = 1) : KD (PC o 5) = 9 := (by decide +kernel : ∀ o, o < NN → KD o = 1 → KD (PC o 5) = 9) o (KD_lt' h (by decide)) h
theorem sz_X2_5 {o : Nat} (h : KD o = 1) : SZ (PC o 5) = 5 := (by decide +kernel : ∀ o, o < NN → KD o = 1 → SZ (PC o 5) = 5) o (KD_lt' h (by decide)) h
theorem pc_X2_5 {o : Nat} (h : KD o = 1) : PC o 5 = o + 2 := (by decide +kernel : ∀ o, o < NN → KD o = 1 → PC o 5 = o + 2) o (KD_lt' h (by decide)) h
theorem ty_X2_6 {o : Nat} (h : KD o = 1) : KD (PC o 6) = 9 := (by decide +kernel : ∀ o, o < NN → KD o = 1 → KD (PC o 6) = 9) o (KD_lt' h (by decide)) h
theorem sz_X2_6 {o : Nat} (h : KD o = 1) : SZ (PC o 6) = 5 := (by decide +kernel : ∀ o, o < NN → KD o = 1 → SZ (PC o 6) = 5) o (KD_lt' h (by decide)) h
theorem pc_X2_6 {o : Nat} (h : KD o = 1) : PC o 6 = o + 3 := (by decide +kernel : ∀ o, o < NN → KD o = 1 → PC o 6 = o + 3) o (KD_lt' h (by decide)) h
theorem ty_X2_7 {o : Nat} (h : KD o = 1) : KD (PC o 7) = 9 := (by decide +kernel : ∀ o, o < NN → KD o = 1 → KD (PC o 7) = 9) o (KD_lt' h (by decide)) h
theorem sz_X2_7 {o : Nat} (h : KD o = 1) : SZ (PC o 7) = 5 := (by decide +kernel : ∀ o, o < NN → KD o = 1 → SZ (PC o 7) = 5) o (KD_lt' h (by decide)) h
theorem pc_X2_7 {o : Nat} (h : KD o = 1) : PC o 7 = o + 4 := (by decide +kernel : ∀ o, o < NN → KD o = 1 → PC o 7 = o + 4) o (KD_lt' h (by decide)) h
theorem ty_X2_8 {o : Nat} (h : KD o = 1) : KD (PC o 8) = 9 := (by decide +kernel : ∀ o, o < NN → KD o = 1 → KD (PC o 8) = 9) o (KD_lt' h (by decide)) h
theorem sz_X2_8 {o : Nat} (h : KD o = 1) : SZ (PC o 8) = 6 := (by decide +kernel : ∀ o, o < NN → KD o = 1 → SZ (PC o 8) = 6) o (KD_lt' h (by decide)) h
theorem pc_X2_8 {o : Nat} (h : KD o = 1) : PC o 8 = o + 5 := (by decide +kernel : ∀ o, o < NN → KD o = 1 → PC o 8 = o + 5) o (KD_lt' h (by decide)) h
theorem ty_X2_9 {o : Nat} (h : KD o = 1) : KD (PC o 9) = 9 := (by decide +kernel : ∀ o, o < NN → KD o = 1 → KD (PC o 9) = 9) o (KD_lt' h (by decide)) h
theorem sz_X2_9 {o : Nat} (h : KD o = 1) : SZ (PC o 9) = 6 := (by decide +kernel : ∀ o, o < NN → KD o = 1 → SZ (PC o 9) = 6) o (KD_lt' h (by decide)) h
theorem pc_X2_9 {o : Nat} (h : KD o = 1) : PC o 9 = o + 6 := (by decide +kernel : ∀ o, o < NN → KD o = 1 → PC o 9 = o + 6) o (KD_lt' h (by decide)) h
theorem ty_X2_10 {o : Nat} (h : KD o = 1) : KD (PC o 10) = 9 := (by decide +kernel : ∀ o, o < NN → KD o = 1 → KD (PC o 10) = 9) o (KD_lt' h (by decide)) h
theorem sz_X2_10 {o : Nat} (h : KD o = 1) : SZ (PC o 10) = 6 := (by decide +kernel : ∀ o, o < NN → KD o = 1 → SZ (PC o 10) = 6) o (KD_lt' h (by decide)) h
theorem pc_X2_10 {o : Nat} (h : KD o = 1) : PC o 10 = o + 7 := (by decide +kernel : ∀ o, o < NN → KD o = 1 → PC o 10 = o + 7) o (KD_lt' h (by decide)) h
theorem ty_X3_0 {o : Nat} (h : KD o = 2) : KD (PC o 0) = 12 := (by decide +kernel : ∀ o, o < NN → KD o = 2 → KD (PC o 0) = 12) o (KD_lt' h (by decide)) h
theorem sz_X3_0 {o : Nat} (h : KD o = 2) : SZ (PC o 0) = 8 := (by decide +kernel : ∀ o, o < NN → KD o = 2 → SZ (PC o 0) = 8) o (KD_lt' h (by decide)) h
theorem pc_X3_0 {o : Nat} (h : KD o = 2) : PC o 0 = o + 1 := (by decide +kernel : ∀ o, o < NN → KD o = 2 → PC o 0 = o + 1) o (KD_lt' h (by decide)) h
theorem ty_X4_0 {o : Nat} (h : KD o = 3) : KD (PC o 0) = 9 := (by decide +kernel : ∀ o, o < NN → KD o = 3 → KD (PC o 0) = 9) o (KD_lt' h (by decide)) h
theorem sz_X4_0 {o : Nat} (h : KD o = 3) : SZ (PC o 0) = 4 := (by decide +kernel : ∀ o, o < NN → KD o = 3 → SZ (PC o 0) = 4) o (KD_lt' h (by decide)) h
theorem pc_X4_0 {o : Nat} (h : KD o = 3) : PC o 0 = o + 1 := (by decide +kernel : ∀ o, o < NN → KD o = 3 → PC o 0 = o + 1) o (KD_lt' h (by decide)) h
theorem ty_X5_0 {o : Nat} (h : KD o = 4) : KD (PC o 0) = 9 := (by decide +kernel : ∀ o, o < NN → KD o = 4 → KD (PC o 0) = 9) o (KD_lt' h (by decide)) h
theorem sz_X5_0 {o : Nat} (h : KD o = 4) : SZ (PC o 0) = 150 := (by decide +kernel : ∀ o, o < NN → KD o = 4 → SZ (PC o 0) = 150) o (KD_lt' h (by decide)) h
theorem pc_X5_0 {o : Nat} (h : KD o = 4) : PC o 0 = o + 1 := (by decide +kernel : ∀ o, o < NN → KD o = 4 → PC o 0 = o + 1) o (KD_lt' h (by decide)) h
theorem ty_X5_2 {o : Nat} (h : KD o = 4) : KD (PC o 2) = 9 := (by decide +kernel : ∀ o, o < NN → KD o = 4 → KD (PC o 2) = 9) o (KD_lt' h (by decide)) h
theorem sz_X5_2 {o : Nat} (h : KD o = 4) : SZ (PC o 2) = 3 := (by decide +kernel : ∀ o, o < NN → KD o = 4 → SZ (PC o 2) = 3) o (KD_lt' h (by decide)) h
theorem pc_X5_2 {o : Nat} (h : KD o = 4) : PC o 2 = o + 2 := (by decide +kernel : ∀ o, o < NN → KD o = 4 → PC o 2 = o + 2) o (KD_lt' h (by decide)) h
theorem ty_X6_0 {o : Nat} (h : KD o = 5) : KD (PC o 0) = 9 := (by decide +kernel : ∀ o, o < NN → KD o = 5 → KD (PC o 0) = 9) o (KD_lt' h (by decide)) h
theorem sz_X6_0 {o : Nat} (h : KD o = 5) : SZ (PC o 0) = 30 := (by decide +kernel : ∀ o, o < NN → KD o = 5 → SZ (PC o 0) = 30) o (KD_lt' h (by decide)) h
theorem pc_X6_0 {o : Nat} (h : KD o = 5) : PC o 0 = o + 1 := (by decide +kernel : ∀ o, o < NN → KD o = 5 → PC o 0 = o + 1) o (KD_lt' h (by decide)) h
theorem ty_X7_0 {o : Nat} (h : KD o = 6) : KD (PC o 0) = 9 := (by decide +kernel : ∀ o, o < NN → KD o = 6 → KD (PC o 0) = 9) o (KD_lt' h (by decide)) h
theorem sz_X7_0 {o : Nat} (h : KD o = 6) : SZ (PC o 0) = 6 := (by decide +kernel : ∀ o, o < NN → KD o = 6 → SZ (PC o 0) = 6) o (KD_lt' h (by decide)) h
theorem pc_X7_0 {o : Nat} (h : KD o = 6) : PC o 0 = o + 1 := (by decide +kernel : ∀ o, o < NN → KD o = 6 → PC o 0 = o + 1) o (KD_lt' h (by decide)) h
theorem ty_X8_0 {o : Nat} (h : KD o = 7) : KD (PC o 0) = 0 := (by decide +kernel : ∀ o, o < NN → KD o = 7 → KD (PC o 0) = 0) o (KD_lt' h (by decide)) h
theorem sz_X8_0 {o : Nat} (h : KD o = 7) : SZ (PC o 0) = 5 := (by decide +kernel : ∀ o, o < NN → KD o = 7 → SZ (PC o 0) = 5) o (KD_lt' h (by decide)) h
theorem pc_X8_0 {o : Nat} (h : KD o = 7) : PC o 0 = o + 1 := (by decide +kernel : ∀ o, o < NN → KD o = 7 → PC o 0 = o + 1) o (KD_lt' h (by decide)) h
theorem ty_X8_1 {o : Nat} (h : KD o = 7) : KD (PC o 1) = 11 := (by decide +kernel : ∀ o, o < NN → KD o = 7 → KD (PC o 1) = 11) o (KD_lt' h (by decide)) h
theorem sz_X8_1 {o : Nat} (h : KD o = 7) : SZ (PC o 1) = 2 := (by decide +kernel : ∀ o, o < NN → KD o = 7 → SZ (PC o 1) = 2) o (KD_lt' h (by decide)) h
theorem pc_X8_1 {o : Nat} (h : KD o = 7) : PC o 1 = o + 82 := (by decide +kernel : ∀ o, o < NN → KD o = 7 → PC o 1 = o + 82) o (KD_lt' h (by decide)) h
theorem ty_X8_2 {o : Nat} (h : KD o = 7) : KD (PC o 2) = 10 := (by decide +kernel : ∀ o, o < NN → KD o = 7 → KD (PC o 2) = 10) o (KD_lt' h (by decide)) h
theorem sz_X8_2 {o : Nat} (h : KD o = 7) : SZ (PC o 2) = 2 := (by decide +kernel : ∀ o, o < NN → KD o = 7 → SZ (PC o 2) = 2) o (KD_lt' h (by decide)) h
theorem pc_X8_2 {o : Nat} (h : KD o = 7) : PC o 2 = o + 83 := (by decide +kernel : ∀ o, o < NN → KD o = 7 → PC o 2 = o + 83) o (KD_lt' h (by decide)) h
theorem ty_X8_3 {o : Nat} (h : KD o = 7) : KD (PC o 3) = 1 := (by decide +kernel : ∀ o, o < NN → KD o = 7 → KD (PC o 3) = 1) o (KD_lt' h (by decide)) h
theorem sz_X8_3 {o : Nat} (h : KD o = 7) : SZ (PC o 3) = 11 := (by decide +kernel : ∀ o, o < NN → KD o = 7 → SZ (PC o 3) = 11) o (KD_lt' h (by decide)) h
theorem pc_X8_3 {o : Nat} (h : KD o = 7) : PC o 3 = o + 84 := (by decide +kernel : ∀ o, o < NN → KD o = 7 → PC o 3 = o + 84) o (KD_lt' h (by decide)) h
theorem ty_X8_4 {o : Nat} (h : KD o = 7) : KD (PC o 4) = 6 := (by decide +kernel : ∀ o, o < NN → KD o = 7 → KD (PC o 4) = 6) o (KD_lt' h (by decide)) h
theorem sz_X8_4 {o : Nat} (h : KD o = 7) : SZ (PC o 4) = 1 := (by decide +kernel : ∀ o, o < NN → KD o = 7 → SZ (PC o 4) = 1) o (KD_lt' h (by decide)) h
theorem pc_X8_4 {o : Nat} (h : KD o = 7) : PC o 4 = o + 92 := (by decide +kernel : ∀ o, o < NN → KD o = 7 → PC o 4 = o + 92) o (KD_lt' h (by decide)) h
theorem ty_X8_5 {o : Nat} (h : KD o = 7) : KD (PC o 5) = 4 := (by decide +kernel : ∀ o, o < NN → KD o = 7 → KD (PC o 5) = 4) o (KD_lt' h (by decide)) h
theorem sz_X8_5 {o : Nat} (h : KD o = 7) : SZ (PC o 5) = 8 := (by decide +kernel : ∀ o, o < NN → KD o = 7 → SZ (PC o 5) = 8) o (KD_lt' h (by decide)) h
theorem pc_X8_5 {o : Nat} (h : KD o = 7) : PC o 5 = o + 94 := (by decide +kernel : ∀ o, o < NN → KD o = 7 → PC o 5 = o + 94) o (KD_lt' h (by decide)) h
theorem ty_X8_6 {o : Nat} (h : KD o = 7) : KD (PC o 6) = 3 := (by decide +kernel : ∀ o, o < NN → KD o = 7 → KD (PC o 6) = 3) o (KD_lt' h (by decide)) h
theorem sz_X8_6 {o : Nat} (h : KD o = 7) : SZ (PC o 6) = 2 := (by decide +kernel : ∀ o, o < NN → KD o = 7 → SZ (PC o 6) = 2) o (KD_lt' h (by decide)) h
theorem pc_X8_6 {o : Nat} (h : KD o = 7) : PC o 6 = o + 97 := (by decide +kernel : ∀ o, o < NN → KD o = 7 → PC o 6 = o + 97) o (KD_lt' h (by decide)) h
theorem ty_X8_7 {o : Nat} (h : KD o = 7) : KD (PC o 7) = 9 := (by decide +kernel : ∀ o, o < NN → KD o = 7 → KD (PC o 7) = 9) o (KD_lt' h (by decide)) h
theorem sz_X8_7 {o : Nat} (h : KD o = 7) : SZ (PC o 7) = 6 := (by decide +kernel : ∀ o, o < NN → KD o = 7 → SZ (PC o 7) = 6) o (KD_lt' h (by decide)) h
theorem pc_X8_7 {o : Nat} (h : KD o = 7) : PC o 7 = o + 99 := (by decide +kernel : ∀ o, o < NN → KD o = 7 → PC o 7 = o + 99) o (KD_lt' h (by decide)) h
theorem ty_X9_0 {o : Nat} (h : KD o = 8) : KD (PC o 0) = 9 := (by decide +kernel : ∀ o, o < NN → KD o = 8 → KD (PC o 0) = 9) o (KD_lt' h (by decide)) h
theorem sz_X9_0 {o : Nat} (h : KD o = 8) : SZ (PC o 0) = 304 := (by decide +kernel : ∀ o, o < NN → KD o = 8 → SZ (PC o 0) = 304) o (KD_lt' h (by decide)) h
theorem pc_X9_0 {o : Nat} (h : KD o = 8) : PC o 0 = o + 1 := (by decide +kernel : ∀ o, o < NN → KD o = 8 → PC o 0 = o + 1) o (KD_lt' h (by decide)) h
theorem ty_X9_1 {o : Nat} (h : KD o = 8) : KD (PC o 1) = 9 := (by decide +kernel : ∀ o, o < NN → KD o = 8 → KD (PC o 1) = 9) o (KD_lt' h (by decide)) h
theorem sz_X9_1 {o : Nat} (h : KD o = 8) : SZ (PC o 1) = 608 := (by decide +kernel : ∀ o, o < NN → KD o = 8 → SZ (PC o 1) = 608) o (KD_lt' h (by decide)) h
theorem pc_X9_1 {o : Nat} (h : KD o = 8) : PC o 1 = o + 2 := (by decide +kernel : ∀ o, o < NN → KD o = 8 → PC o 1 = o + 2) o (KD_lt' h (by decide)) h
theorem ty_X9_2 {o : Nat} (h : KD o = 8) : KD (PC o 2) = 10 := (by decide +kernel : ∀ o, o < NN → KD o = 8 → KD (PC o 2) = 10) o (KD_lt' h (by decide)) h
theorem sz_X9_2 {o : Nat} (h : KD o = 8) : SZ (PC o 2) = 2 := (by decide +kernel : ∀ o, o < NN → KD o = 8 → SZ (PC o 2) = 2) o (KD_lt' h (by decide)) h
theorem pc_X9_2 {o : Nat} (h : KD o = 8) : PC o 2 = o + 3 := (by decide +kernel : ∀ o, o < NN → KD o = 8 → PC o 2 = o + 3) o (KD_lt' h (by decide)) h
theorem ty_X9_3 {o : Nat} (h : KD o = 8) : KD (PC o 3) = 9 := (by decide +kernel : ∀ o, o < NN → KD o = 8 → KD (PC o 3) = 9) o (KD_lt' h (by decide)) h
theorem sz_X9_3 {o : Nat} (h : KD o = 8) : SZ (PC o 3) = 3 := (by decide +kernel : ∀ o, o < NN → KD o = 8 → SZ (PC o 3) = 3) o (KD_lt' h (by decide)) h
theorem pc_X9_3 {o : Nat} (h : KD o = 8) : PC o 3 = o + 4 := (by decide +kernel : ∀ o, o < NN → KD o = 8 → PC o 3 = o + 4) o (KD_lt' h (by decide)) h
theorem ty_X9_6 {o : Nat} (h : KD o = 8) : KD (PC o 6) = 9 := (by decide +kernel : ∀ o, o < NN → KD o = 8 → KD (PC o 6) = 9) o (KD_lt' h (by decide)) h
theorem sz_X9_6 {o : Nat} (h : KD o = 8) : SZ (PC o 6) = 46 := (by decide +kernel : ∀ o, o < NN → KD o = 8 → SZ (PC o 6) = 46) o (KD_lt' h (by decide)) h
theorem pc_X9_6 {o : Nat} (h : KD o = 8) : PC o 6 = o + 5 := (by decide +kernel : ∀ o, o < NN → KD o = 8 → PC o 6 = o + 5) o (KD_lt' h (by decide)) h
theorem ty_X9_7 {o : Nat} (h : KD o = 8) : KD (PC o 7) = 9 := (by decide +kernel : ∀ o, o < NN → KD o = 8 → KD (PC o 7) = 9) o (KD_lt' h (by decide)) h
theorem sz_X9_7 {o : Nat} (h : KD o = 8) : SZ (PC o 7) = 4 := (by decide +kernel : ∀ o, o < NN → KD o = 8 → SZ (PC o 7) = 4) o (KD_lt' h (by decide)) h
theorem pc_X9_7 {o : Nat} (h : KD o = 8) : PC o 7 = o + 6 := (by decide +kernel : ∀ o, o < NN → KD o = 8 → PC o 7 = o + 6) o (KD_lt' h (by decide)) h
theorem ty_X9_8 {o : Nat} (h : KD o = 8) : KD (PC o 8) = 10 := (by decide +kernel : ∀ o, o < NN → KD o = 8 → KD (PC o 8) = 10) o (KD_lt' h (by decide)) h
theorem sz_X9_8 {o : Nat} (h : KD o = 8) : SZ (PC o 8) = 96 := (by decide +kernel : ∀ o, o < NN → KD o = 8 → SZ (PC o 8) = 96) o (KD_lt' h (by decide)) h
theorem pc_X9_8 {o : Nat} (h : KD o = 8) : PC o 8 = o + 7 := (by decide +kernel : ∀ o, o < NN → KD o = 8 → PC o 8 = o + 7) o (KD_lt' h (by decide)) h
theorem ty_X9_9 {o : Nat} (h : KD o = 8) : KD (PC o 9) = 9 := (by decide +kernel : ∀ o, o < NN → KD o = 8 → KD (PC o 9) = 9) o (KD_lt' h (by decide)) h
theorem sz_X9_9 {o : Nat} (h : KD o = 8) : SZ (PC o 9) = 4 := (by decide +kernel : ∀ o, o < NN → KD o = 8 → SZ (PC o 9) = 4) o (KD_lt' h (by decide)) h
theorem pc_X9_9 {o : Nat} (h : KD o = 8) : PC o 9 = o + 8 := (by decide +kernel : ∀ o, o < NN → KD o = 8 → PC o 9 = o + 8) o (KD_lt' h (by decide)) h
theorem ty_X9_10 {o : Nat} (h : KD o = 8) : KD (PC o 10) = 9 := (by decide +kernel : ∀ o, o < NN → KD o = 8 → KD (PC o 10) = 9) o (KD_lt' h (by decide)) h
theorem sz_X9_10 {o : Nat} (h : KD o = 8) : SZ (PC o 10) = 4 := (by decide +kernel : ∀ o, o < NN → KD o = 8 → SZ (PC o 10) = 4) o (KD_lt' h (by decide)) h
theorem pc_X9_10 {o : Nat} (h : KD o = 8) : PC o 10 = o + 9 := (by decide +kernel : ∀ o, o < NN → KD o = 8 → PC o 10 = o + 9) o (KD_lt' h (by decide)) h
theorem ty_X9_11 {o : Nat} (h : KD o = 8) : KD (PC o 11) = 9 := (by decide +kernel : ∀ o, o < NN → KD o = 8 → KD (PC o 11) = 9) o (KD_lt' h (by decide)) h
theorem sz_X9_11 {o : Nat} (h : KD o = 8) : SZ (PC o 11) = 150 := (by decide +kernel : ∀ o, o < NN → KD o = 8 → SZ (PC o 11) = 150) o (KD_lt' h (by decide)) h
theorem pc_X9_11 {o : Nat} (h : KD o = 8) : PC o 11 = o + 10 := (by decide +kernel : ∀ o, o < NN → KD o = 8 → PC o 11 = o + 10) o (KD_lt' h (by decide)) h
theorem ty_X9_17 {o : Nat} (h : KD o = 8) : KD (PC o 17) = 9 := (by decide +kernel : ∀ o, o < NN → KD o = 8 → KD (PC o 17) = 9) o (KD_lt' h (by decide)) h
theorem sz_X9_17 {o : Nat} (h : KD o = 8) : SZ (PC o 17) = 112 := (by decide +kernel : ∀ o, o < NN → KD o = 8 → SZ (PC o 17) = 112) o (KD_lt' h (by decide)) h
theorem pc_X9_17 {o : Nat} (h : KD o = 8) : PC o 17 = o + 11 := (by decide +kernel : ∀ o, o < NN → KD o = 8 → PC o 17 = o + 11) o (KD_lt' h (by decide)) h
theorem ty_X9_18 {o : Nat} (h : KD o = 8) : KD (PC o 18) = 9 := (by decide +kernel : ∀ o, o < NN → KD o = 8 → KD (PC o 18) = 9) o (KD_lt' h (by decide)) h
theorem sz_X9_18 {o : Nat} (h : KD o = 8) : SZ (PC o 18) = 3 := (by decide +kernel : ∀ o, o < NN → KD o = 8 → SZ (PC o 18) = 3) o (KD_lt' h (by decide)) h
theorem pc_X9_18 {o : Nat} (h : KD o = 8) : PC o 18 = o + 12 := (by decide +kernel : ∀ o, o < NN → KD o = 8 → PC o 18 = o + 12) o (KD_lt' h (by decide)) h
