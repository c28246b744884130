/-! PURE: the machine's count of bits -/
theorem us_cnt : ∀ s, s < 32 → ((nI s).toUInt32 &&& Int32.toUInt32 31) = UInt32.ofNat s ∧ (UInt32.ofNat s).toBitVec % 32 = BitVec.ofNat 32 s := by decide +kernel
theorem p_ushr {a s : Nat} (ha : a < 2147483648) (hs : s < 32) : jushr (nI a) (nI s) = nI (a / 2 ^ s) := by
  unfold jushr
  rw [(us_cnt s hs).1]
  apply Int32.toBitVec_inj.mp
  rw [UInt32.toBitVec_toInt32, UInt32.toBitVec_shiftRight, (us_cnt s hs).2, Int32.toBitVec_toUInt32, nI_bv, nI_bv]
  have h3 : (BitVec.ofNat 32 s).toNat = s := by simp; omega
  have h4 : a / 2 ^ s ≤ a := Nat.div_le_self _ _
  apply BitVec.eq_of_toNat_eq
  rw [BitVec.ushiftRight_eq', BitVec.toNat_ushiftRight, h3, BitVec.toNat_ofNat, BitVec.toNat_ofNat, Nat.mod_eq_of_lt (by omega), Nat.mod_eq_of_lt (by omega), Nat.shiftRight_eq_div_pow]
theorem pc_mod {n m : Nat} : pc n (m % 2 ^ n) = pc n m := by
  rw [pc_cb, pc_cb]
  have h1 : ∀ k, k ≤ n → cb (m % 2 ^ n) k = cb m k := by
    intro k
    induction k with
    | zero => intro _; rfl
    | succ k ih =>
      intro hk
      unfold cb
      rw [ih (by omega), Nat.testBit_mod_two_pow, decide_eq_true (by omega), Bool.true_and]
  exact h1 n (Nat.le_refl _)
theorem pc_3 {x : Nat} (hx : x < 16777216) : pc 24 x = pc 8 (x % 256) + (pc 8 (x / 256 % 256) + pc 8 (x / 65536)) := by
  have h1 : pc 24 x = pc 8 x + pc 16 (x / 2 ^ 8) := pc_add 8 16 x
  have h2 : pc 16 (x / 2 ^ 8) = pc 8 (x / 2 ^ 8) + pc 8 (x / 2 ^ 8 / 2 ^ 8) := pc_add 8 8 _
  have h3 : pc 8 (x % 2 ^ 8) = pc 8 x := pc_mod
  have h4 : pc 8 (x / 2 ^ 8 % 2 ^ 8) = pc 8 (x / 2 ^ 8) := pc_mod
  rw [h1, h2, ← h3, ← h4, Nat.div_div_eq_div_mul]
theorem bc_fin : ∀ A B C w, A ≤ 8 → B ≤ 8 → C ≤ 8 → w = 2 ^ 8 * (2 ^ 8 * C + B) + A → (w + w / 2 ^ 8 + (w + w / 2 ^ 8) / 2 ^ 16) % 2 ^ 6 = A + (B + C) := by
  intro A B C w h1 h2 h3 e
  have e1 : w / 2 ^ 8 = 256 * C + B := by omega
  have e2 : w + w / 2 ^ 8 = 65536 * C + (256 * (B + C) + (A + B)) := by omega
  have e3 : (w + w / 2 ^ 8) / 2 ^ 16 = C := by rw [e2]; omega
  rw [e3, e2]
  omega
theorem c_bc {x : Nat} (hx : x < 16777216) : fJ6_bitCount_0f7a4 (nI x) = some (nI (pc 24 x)) := by
  rw [pc_3 hx]
  obtain ⟨a, b, c, ha, hb, hc, e1, e2, e3, ex⟩ : ∃ a b c, a < 256 ∧ b < 256 ∧ c < 256 ∧ x % 256 = a ∧ x / 256 % 256 = b ∧ x / 65536 = c ∧ x = 2 ^ 8 * (2 ^ 8 * c + b) + a := ⟨x % 256, x / 256 % 256, x / 65536, by omega, by omega, by omega, rfl, rfl, rfl, by omega⟩
  rw [e1, e2, e3]
  clear e1 e2 e3
  obtain ⟨a1, a2, a3, -, a4⟩ := by_3 a ha
  obtain ⟨b1, b2, b3, -, b4⟩ := by_3 b hb
  obtain ⟨c1, c2, c3, -, c4⟩ := by_3 c hc
  have hA := by_1 a ha (b % 2) (Nat.mod_lt _ (by decide))
  have hB := by_1 b hb (c % 2) (Nat.mod_lt _ (by decide))
  have hC := by_1 c hc 0 (by decide)
  have k85 : ∀ y, y &&& 85 ≤ 85 := fun y => Nat.and_le_right
  have k51 : ∀ y, y &&& 51 ≤ 51 := fun y => Nat.and_le_right
  -- the first step
  have s1 : (x / 2 ^ 1) &&& 1431655765 = 2 ^ 8 * (2 ^ 8 * ((c / 2) &&& 85) + ((b / 2) &&& 85)) + ((a / 2) &&& 85) := by
    have q1 : x / 2 ^ 1 = 2 ^ 8 * (2 ^ 8 * (c / 2) + (128 * (c % 2) + b / 2)) + (128 * (b % 2) + a / 2) := by omega
    have q2 : 1431655765 = 2 ^ 8 * (2 ^ 8 * 21845 + 85) + 85 := by decide
    have q3 : (21845 : Nat) = 2 ^ 8 * 85 + 85 := by decide
    have q4 : (c / 2) &&& 21845 = (c / 2) &&& 85 := by
      have : (2 ^ 8 * 0 + c / 2) &&& (2 ^ 8 * 85 + 85) = 2 ^ 8 * (0 &&& 85) + ((c / 2) &&& 85) := and_split (by omega) (by omega)
      rw [Nat.mul_zero, Nat.zero_add, Nat.zero_and, Nat.mul_zero, Nat.zero_add] at this
      rw [q3]; exact this
    rw [q1, q2, and_split (by omega) (by omega), and_split (by omega) (by omega), q4, hA.1, hB.1]
  have v1 : x - ((x / 2 ^ 1) &&& 1431655765) = 2 ^ 8 * (2 ^ 8 * v1b c + v1b b) + v1b a := by
    rw [s1]
    have := hA.2; have := hB.2; have := hC.2
    unfold v1b
    omega
  have l1 : (x / 2 ^ 1) &&& 1431655765 ≤ x := by
    rw [s1]
    have := hA.2; have := hB.2; have := hC.2
    omega
  generalize hy : x - ((x / 2 ^ 1) &&& 1431655765) = y at v1
  have hyl : y < 16777216 := by omega
  have m51 : 858993459 = 2 ^ 8 * (2 ^ 8 * 13107 + 51) + 51 := by decide
  have n51 : ∀ z, z < 256 → z &&& 13107 = z &&& 51 := by
    intro z hz
    have : (2 ^ 8 * 0 + z) &&& (2 ^ 8 * 51 + 51) = 2 ^ 8 * (0 &&& 51) + (z &&& 51) := and_split (by omega) (by omega)
    rw [Nat.mul_zero, Nat.zero_add, Nat.zero_and, Nat.mul_zero, Nat.zero_add] at this
    exact this
  have s2 : y &&& 858993459 = 2 ^ 8 * (2 ^ 8 * (v1b c &&& 51) + (v1b b &&& 51)) + (v1b a &&& 51) := by
    rw [v1, m51, and_split (by omega) (by omega), and_split (by omega) (by omega), n51 _ c1]
  have s3 : (y / 2 ^ 2) &&& 858993459 = 2 ^ 8 * (2 ^ 8 * ((v1b c / 4) &&& 51) + ((v1b b / 4) &&& 51)) + ((v1b a / 4) &&& 51) := by
    have q1 : y / 2 ^ 2 = 2 ^ 8 * (2 ^ 8 * (v1b c / 4) + (64 * (v1b c % 4) + v1b b / 4)) + (64 * (v1b b % 4) + v1b a / 4) := by omega
    rw [q1, m51, and_split (by omega) (by omega), and_split (by omega) (by omega), n51 _ (by omega), by_2 _ a1 _ (Nat.mod_lt _ (by decide)), by_2 _ b1 _ (Nat.mod_lt _ (by decide))]
  have v2 : (y &&& 858993459) + ((y / 2 ^ 2) &&& 858993459) = 2 ^ 8 * (2 ^ 8 * v2b c + v2b b) + v2b a := by
    rw [s2, s3]
    unfold v2b
    omega
  generalize hz : (y &&& 858993459) + ((y / 2 ^ 2) &&& 858993459) = z at v2
  have g1 : v2b a < 256 := by omega
  have g2 : v2b b < 256 := by omega
  have g3 : v2b c < 256 := by omega
  have hzl : z < 16777216 := by omega
  have r1 := by_4 a ha (v2b b % 16) (by omega)
  have r2 := by_4 b hb (v2b c % 16) (by omega)
  have r3 := by_4 c hc 0 (by omega)
  have s4 : (z + z / 2 ^ 4) &&& 252645135 = 2 ^ 8 * (2 ^ 8 * pc 8 c + pc 8 b) + pc 8 a := by
    have q1 : z + z / 2 ^ 4 = 2 ^ 8 * (2 ^ 8 * (v2b c + v2b c / 16 + 16 * 0) + (v2b b + v2b b / 16 + 16 * (v2b c % 16))) + (v2b a + v2b a / 16 + 16 * (v2b b % 16)) := by omega
    have q2 : 252645135 = 2 ^ 8 * (2 ^ 8 * 3855 + 15) + 15 := by decide
    have q4 : ∀ z, z < 256 → z &&& 3855 = z &&& 15 := by
      intro z hz
      have : (2 ^ 8 * 0 + z) &&& (2 ^ 8 * 15 + 15) = 2 ^ 8 * (0 &&& 15) + (z &&& 15) := and_split (by omega) (by omega)
      rw [Nat.mul_zero, Nat.zero_add, Nat.zero_and, Nat.mul_zero, Nat.zero_add] at this
      exact this
    rw [q1, q2, and_split r1.1 (by omega), and_split r2.1 (by omega), q4 _ r3.1, r1.2, r2.2, r3.2]
  have zl : z + z / 2 ^ 4 < 2147483648 := by omega
  generalize hw : (z + z / 2 ^ 4) &&& 252645135 = w at s4
  have hwl : w < 2147483648 := by omega
  have e5 : 1431655765 < 2147483648 := by decide
  have t1 : (1431655765 : Int32) = nI 1431655765 := by decide
  have t2 : (858993459 : Int32) = nI 858993459 := by decide
  have t3 : (252645135 : Int32) = nI 252645135 := by decide
  have t4 : (16 : Int32) = nI 16 := by decide
  have t5 : (63 : Int32) = nI 63 := by decide
  unfold fJ6_bitCount_0f7a4
  rw [p1, p2, p4, p8, t1, t2, t3, t4, t5, p_ushr (by omega) (by omega), p_and, p_sub l1, hy, oL_d, p_and, p_ushr (by omega) (by omega), p_and, nI_add, hz, oL_d, p_ushr (by omega) (by omega), nI_add, p_and, hw, oL_d, p_ushr hwl (by omega), nI_add, oL_d, p_ushr (by omega) (by omega), nI_add, oL_d, p_and, show 63 = 2 ^ 6 - 1 by decide, Nat.and_two_pow_sub_one_eq_mod]
  rw [bc_fin _ _ _ _ a4 b4 c4 s4]
