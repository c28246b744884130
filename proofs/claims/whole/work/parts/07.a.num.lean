/-! PURE: numbers. nI n of small n; what the extraction's words come to -/
theorem oG_t {α : Type} {t : Option α} : oG true t = t := rfl
theorem oG_f {α : Type} {t : Option α} : oG false t = none := rfl
theorem oG_of {α : Type} {b : Bool} {t : Option α} (h : b = true) : oG b t = t := by rw [h]; rfl
theorem ob_s {α β : Type} {a : α} {f : α → Option β} : ob (some a) f = f a := rfl
theorem ob_n {α β : Type} {f : α → Option β} : ob none f = none := rfl
theorem ob2_s {α γ β : Type} {a : α} {c : γ} {f : α → γ → Option β} : ob2 (some (a, c)) f = f a c := rfl
theorem oL_d {α β : Type} {a : α} {f : α → β} : oL a f = f a := rfl
theorem p0 : (0 : Int32) = nI 0 := by decide
theorem p1 : (1 : Int32) = nI 1 := by decide
theorem p2 : (2 : Int32) = nI 2 := by decide
theorem p3 : (3 : Int32) = nI 3 := by decide
theorem p4 : (4 : Int32) = nI 4 := by decide
theorem p5 : (5 : Int32) = nI 5 := by decide
theorem p6 : (6 : Int32) = nI 6 := by decide
theorem p7 : (7 : Int32) = nI 7 := by decide
theorem p8 : (8 : Int32) = nI 8 := by decide
theorem p9 : (9 : Int32) = nI 9 := by decide
theorem p10 : (10 : Int32) = nI 10 := by decide
theorem p11 : (11 : Int32) = nI 11 := by decide
theorem p12 : (12 : Int32) = nI 12 := by decide
theorem p14 : (14 : Int32) = nI 14 := by decide
theorem p19 : (19 : Int32) = nI 19 := by decide
theorem p23 : (23 : Int32) = nI 23 := by decide
theorem p24 : (24 : Int32) = nI 24 := by decide
theorem p25 : (25 : Int32) = nI 25 := by decide
theorem p29 : (29 : Int32) = nI 29 := by decide
theorem p30 : (30 : Int32) = nI 30 := by decide
theorem p31 : (31 : Int32) = nI 31 := by decide
theorem p35 : (35 : Int32) = nI 35 := by decide
theorem p40 : (40 : Int32) = nI 40 := by decide
theorem p46 : (46 : Int32) = nI 46 := by decide
theorem p58 : (58 : Int32) = nI 58 := by decide
theorem p60 : (60 : Int32) = nI 60 := by decide
theorem p88 : (88 : Int32) = nI 88 := by decide
theorem p99 : (99 : Int32) = nI 99 := by decide
theorem p100 : (100 : Int32) = nI 100 := by decide
theorem p112 : (112 : Int32) = nI 112 := by decide
theorem p150 : (150 : Int32) = nI 150 := by decide
theorem p9999 : (9999 : Int32) = nI 9999 := by decide
theorem nI_bv (n : Nat) : (nI n).toBitVec = BitVec.ofNat 32 n := rfl
theorem nI_mul (a b : Nat) : nI a * nI b = nI (a * b) := by
  apply Int32.toBitVec_inj.mp
  rw [Int32.toBitVec_mul, nI_bv, nI_bv, nI_bv, BitVec.ofNat_mul]
theorem ix_nI {n : Nat} (h : n < 2147483648) : ix (nI n) = n := nI_clamp h
theorem p_sub {a b : Nat} (h : b ≤ a) : nI a - nI b = nI (a - b) := by
  have h1 : nI a = nI (a - b) + nI b := by rw [nI_add]; congr 1; omega
  rw [h1]
  apply Int32.toBitVec_inj.mp
  simp [Int32.toBitVec_sub, Int32.toBitVec_add]
theorem p_le {a b : Nat} (ha : a < 2147483648) (hb : b < 2147483648) : (nI a ≤ nI b) = (a ≤ b) := propext (nI_leI ha hb)
theorem p_lt {a b : Nat} (ha : a < 2147483648) (hb : b < 2147483648) : (nI a < nI b) = (a < b) := propext (nI_ltI ha hb)
theorem p_eq {a b : Nat} (ha : a < 2147483648) (hb : b < 2147483648) : (nI a = nI b) = (a = b) := propext (nI_eq ha hb)
theorem p_div {a b : Nat} (ha : a < 2147483648) (hb : b < 2147483648) : nI a / nI b = nI (a / b) := by
  apply Int32.toInt_inj.mp
  have hq : a / b < 2147483648 := Nat.lt_of_le_of_lt (Nat.div_le_self a b) ha
  rw [nI_toInt hq, Int32.toInt_div, nI_toInt ha, nI_toInt hb, ← Int.ofNat_tdiv]
  generalize a / b = q at hq ⊢
  rw [Int.bmod_eq_of_le (by omega) (by omega)]
theorem p_rem {a b : Nat} (ha : a < 2147483648) (hb : b < 2147483648) : jrem (nI a) (nI b) = nI (a % b) := by
  unfold jrem
  have hm : a / b * b ≤ a := Nat.div_mul_le_self a b
  rw [p_div ha hb, nI_mul, p_sub hm]
  congr 1
  have := Nat.div_add_mod a b
  rw [Nat.mul_comm] at this
  omega
theorem p_and (a b : Nat) : nI a &&& nI b = nI (a &&& b) := by
  apply Int32.toBitVec_inj.mp
  rw [Int32.toBitVec_and, nI_bv, nI_bv, nI_bv]
  apply BitVec.eq_of_toNat_eq
  simp [BitVec.toNat_and, Nat.and_mod_two_pow]
theorem p_or (a b : Nat) : nI a ||| nI b = nI (a ||| b) := by
  apply Int32.toBitVec_inj.mp
  rw [Int32.toBitVec_or, nI_bv, nI_bv, nI_bv]
  apply BitVec.eq_of_toNat_eq
  simp [BitVec.toNat_or, Nat.or_mod_two_pow]
theorem p_cnt : ∀ s, s < 32 → (nI s &&& 31) = nI s := by decide +kernel
theorem p_shl {a s : Nat} (hs : s < 32) : jshl (nI a) (nI s) = nI (a * 2 ^ s) := by
  unfold jshl
  rw [p_cnt s hs]
  apply Int32.toBitVec_inj.mp
  rw [Int32.toBitVec_shiftLeft, nI_bv, nI_bv, nI_bv]
  have h2 : (BitVec.ofNat 32 s).smod 32 = BitVec.ofNat 32 s := (by decide +kernel : ∀ s, s < 32 → (BitVec.ofNat 32 s).smod 32 = BitVec.ofNat 32 s) s hs
  rw [h2]
  apply BitVec.eq_of_toNat_eq
  have h3 : (BitVec.ofNat 32 s).toNat = s := by simp; omega
  simp [BitVec.toNat_shiftLeft, h3, Nat.shiftLeft_eq, Nat.mod_mul_mod]
theorem p_shr {a s : Nat} (ha : a < 2147483648) (hs : s < 32) : jshr (nI a) (nI s) = nI (a >>> s) := by
  unfold jshr
  rw [p_cnt s hs]
  apply Int32.toBitVec_inj.mp
  rw [Int32.toBitVec_shiftRight, nI_bv, nI_bv, nI_bv]
  have h2 : (BitVec.ofNat 32 s).smod 32 = BitVec.ofNat 32 s := (by decide +kernel : ∀ s, s < 32 → (BitVec.ofNat 32 s).smod 32 = BitVec.ofNat 32 s) s hs
  rw [h2]
  have h3 : (BitVec.ofNat 32 s).toNat = s := by simp; omega
  have hm : (BitVec.ofNat 32 a).msb = false := by
    rw [BitVec.msb_eq_decide]
    simp
    omega
  apply BitVec.eq_of_toNat_eq
  show ((BitVec.ofNat 32 a).sshiftRight (BitVec.ofNat 32 s).toNat).toNat = _
  rw [BitVec.sshiftRight_eq_of_msb_false hm]
  have hle : a >>> s ≤ a := Nat.shiftRight_le a s
  simp [BitVec.toNat_ushiftRight, h3]
  rw [Nat.mod_eq_of_lt (by omega), Nat.mod_eq_of_lt (by omega)]
theorem inb_nI {i n : Nat} (hi : i < 2147483648) : inb (nI i) n = decide (i < n) := by
  unfold inb
  have h1 := nI_pos (n := i) hi
  rw [nI_clamp hi]
  by_cases h : i < n
  · rw [decide_eq_true h]
    exact decide_eq_true (fun q => q.elim h1 (fun q => by omega))
  · rw [decide_eq_false h]
    exact decide_eq_false (fun q => q (Or.inr (by omega)))
/-- a loop that counts: from the state st 0 to st N -/
theorem run_loop {σ α : Type} (F : Nat → σ → Option α) (st : Nat → σ) (N : Nat) (res : Option α) (hs : ∀ n i, i < N → F (n + 1) (st i) = F n (st (i + 1))) (he : ∀ n, F (n + 1) (st N) = res) : ∀ n, N < n → F n (st 0) = res := by
  have key : ∀ (d i n : Nat), i + d = N → d < n → F n (st i) = res := by
    intro d
    induction d with
    | zero =>
      intro i n hi hn
      obtain ⟨n, rfl⟩ : ∃ m, n = m + 1 := ⟨n - 1, by omega⟩
      rw [show i = N by omega]
      exact he n
    | succ d ih =>
      intro i n hi hn
      obtain ⟨n, rfl⟩ : ∃ m, n = m + 1 := ⟨n - 1, by omega⟩
      rw [hs n i (by omega)]
      exact ih (i + 1) n (by omega) (by omega)
  intro n hn
  exact key N 0 n (by omega) hn
theorem FU_lt {N : Nat} (h : N < 1000000) : N < FU := h
