/-! PURE: the calls that only ask (3) -/
theorem run_rel {σ α : Type} (F : Nat → σ → Option α) (I : Nat → σ → Prop) (N : Nat) (P : Option α → Prop) (hs : ∀ n i s, i < N → I i s → ∃ s', F (n + 1) s = F n s' ∧ I (i + 1) s') (he : ∀ n s, I N s → P (F (n + 1) s)) : ∀ s, I 0 s → ∀ n, N < n → P (F n s) := by
  have key : ∀ k i, i + k = N → ∀ s, I i s → ∀ n, k < n → P (F n s) := by
    intro k
    induction k with
    | zero =>
      intro i hi s hI n hn
      obtain ⟨n, rfl⟩ : ∃ m, n = m + 1 := ⟨n - 1, by omega⟩
      rw [Nat.add_zero] at hi
      subst hi
      exact he n s hI
    | succ k ih =>
      intro i hi s hI n hn
      obtain ⟨n, rfl⟩ : ∃ m, n = m + 1 := ⟨n - 1, by omega⟩
      obtain ⟨s', e, hI'⟩ := hs n i s (by omega) hI
      rw [e]
      exact ih (i + 1) (by omega) s' hI' n (by omega)
  exact fun s h0 n hn => key N 0 (by omega) s h0 n hn
theorem pc_le : ∀ n x, pc n x ≤ n := by
  intro n
  induction n with
  | zero => intro x; exact Nat.le_refl _
  | succ n ih =>
    intro x
    have := ih (x / 2)
    have : x % 2 < 2 := Nat.mod_lt _ (by decide)
    show x % 2 + pc n (x / 2) ≤ n + 1
    omega
theorem pc_add : ∀ i n x, pc (i + n) x = pc i x + pc n (x / 2 ^ i) := by
  intro i
  induction i with
  | zero => intro n x; simp [pc]
  | succ i ih =>
    intro n x
    rw [show i + 1 + n = (i + n) + 1 by omega]
    show x % 2 + pc (i + n) (x / 2) = x % 2 + pc i (x / 2) + _
    rw [ih, Nat.div_div_eq_div_mul, Nat.pow_succ, Nat.mul_comm 2]
    omega
theorem pc_0 : ∀ n, pc n 0 = 0 := by
  intro n
  induction n with
  | zero => rfl
  | succ n ih => show 0 % 2 + pc n (0 / 2) = 0; rw [Nat.zero_div, ih]
theorem m_bits {x : Nat} (hx : x < 2147483648) : fX9_bits (nI x) = some (nI (pc 31 x)) := by
  have hz : ∀ i, x / 2 ^ i = 0 → pc 31 x = pc i x ∨ 31 < i := by
    intro i hi
    by_cases h : 31 < i
    · exact Or.inr h
    · left
      obtain ⟨d, hd⟩ : ∃ d, 31 = i + d := ⟨31 - i, by omega⟩
      rw [hd, pc_add, hi, pc_0, Nat.add_zero]
  have h31 : x / 2 ^ 31 = 0 := Nat.div_eq_of_lt hx
  have hleast : ∃ k, k ≤ 31 ∧ x / 2 ^ k = 0 ∧ ∀ j, j < k → x / 2 ^ j ≠ 0 := by
    have : ∀ k, x / 2 ^ k = 0 → ∃ k', k' ≤ k ∧ x / 2 ^ k' = 0 ∧ ∀ j, j < k' → x / 2 ^ j ≠ 0 := by
      intro k
      induction k with
      | zero => intro h; exact ⟨0, Nat.le_refl _, h, fun j hj => by omega⟩
      | succ k ih =>
        intro h
        by_cases h2 : x / 2 ^ k = 0
        · obtain ⟨k', a, b, c⟩ := ih h2
          exact ⟨k', by omega, b, c⟩
        · refine ⟨k + 1, Nat.le_refl _, h, fun j hj h3 => h2 ?_⟩
          have h4 : x < 2 ^ j := (Nat.div_eq_zero_iff_lt (Nat.two_pow_pos j)).mp h3
          have h5 : 2 ^ j ≤ 2 ^ k := Nat.pow_le_pow_right (by decide) (by omega)
          exact Nat.div_eq_of_lt (by omega)
    exact this 31 h31
  obtain ⟨k, hk, hk0, hkj⟩ := hleast
  have hpc : pc 31 x = pc k x := (hz k hk0).resolve_right (by omega)
  have hdiv : ∀ i, x / 2 ^ i < 2147483648 := fun i => Nat.lt_of_le_of_lt (Nat.div_le_self _ _) hx
  have hp0 : nI x = nI (x / 2 ^ 0) := by rw [Nat.pow_zero, Nat.div_one]
  unfold fX9_bits
  rw [hp0, p0]
  refine run_loop (fun n (s : Int32 × Int32) => fX9_bits_4 n s.1 s.2) (fun i => (nI (pc i x), nI (x / 2 ^ i))) k _ ?_ ?_ FU (FU_lt (by omega))
  · intro n i hi
    show fX9_bits_4 (n + 1) (nI (pc i x)) (nI (x / 2 ^ i)) = fX9_bits_4 n (nI (pc (i + 1) x)) (nI (x / 2 ^ (i + 1)))
    have h1 := hkj i hi
    have h2 := hdiv i
    have h3 : x / 2 ^ (i + 1) = x / 2 ^ i / 2 := by rw [Nat.div_div_eq_div_mul, Nat.pow_succ]
    have h4 : pc (i + 1) x = pc i x + x / 2 ^ i % 2 := by
      rw [pc_add]
      rfl
    rw [fX9_bits_4, h3, h4]
    clear h3 h4
    generalize x / 2 ^ i = q at h1 h2 ⊢
    simp (disch := omega) only [p0, p1, p2, p3, p4, p5, p6, p7, p8, p9, p10, p11, p12, p14, p19, p23, p24, p25, p29, p30, p31, p35, p40, p46, p58, p60, p88, p99, p100, p112, p150, p9999, nI_add, nI_mul, ix_nI, p_sub, p_div, p_rem, p_shl, p_shr, p_and, p_or, inb_nI, p_le, oL_d]
    rw [if_neg (by omega), show q &&& 1 = q % 2 from Nat.and_one_is_mod _, Nat.shiftRight_eq_div_pow, Nat.pow_one]
  · intro n
    show fX9_bits_4 (n + 1) (nI (pc k x)) (nI (x / 2 ^ k)) = _
    rw [fX9_bits_4, hk0, hpc, if_pos (show nI 0 ≤ 0 by decide)]
theorem pc6 {x : Nat} (hx : x < 64) : pc 31 x = pc 6 x := by
  rw [show 31 = 6 + 25 from rfl, pc_add, Nat.div_eq_of_lt (show x < 2 ^ 6 by omega), pc_0, Nat.add_zero]
theorem m_bits6 {x : Nat} (hx : x < 64) : fX9_bits (nI x) = some (nI (pc 6 x)) := by rw [m_bits (by omega), pc6 hx]
theorem gz_LaR {h : AH} {T T' : Nat → Int32} {set t la : Nat} (hR : LaR la T' h) (hla : la + 7 < 93) : LaR la T' (gz h T set t) := hR.eqs (gz_eqs (Or.inr hla))
theorem op_sees : OP_sees RR := by
  rintro a1 a2 h ⟨S, hW, hC, hM⟩
  have hLa : LaR 2 (sT S) h := hC.1.1
  have hT := hW.1
  have n1 := (wf_cnt hT).2.1.2
  have hbad : GO S (fX8_sees_26 0 h) (fun h1 => fX9_sees_25 262 h1) := GO.bad hW hC hM (fun h1 q => by unfold fX8_sees_26; exact rf8 q) (fun h1 => rfl)
  have ht : tn (sT S) 13 % 12 < 12 := Nat.mod_lt _ (by omega)
  have hon := onT_lt hT (by omega)
  have hgo : (a1 = -1 ∨ hs (tn (sT S) 1) a1 = true) → GO S (fX8_sees_19 0 a1 a2 h) (fun h1 => ob (fX9_isCell a2) fun v9 => if v9 = 0 then fX9_sees_25 262 h1 else ob (fX9_isOn (PC 262 0) h1) fun v11 => ob (fX9_stepNow 262 h1) fun v13 => ob (fX9_whoSees (PC 262 0) a2 v11 v13 h1) fun v15 => if a1 = (-1 : Int32) then some (v15, h1) else some (((jshr v15 a1) &&& (1 : Int32)), h1)) := by
    intro ha
    unfold fX8_sees_19
    simp only [z00, z10, z04]
    refine GO.chk c_isCell (fun h1 hM1 => m_isCell) (fun _ => hbad) (fun b2 => ?_)
    obtain ⟨c, rfl, -, hc⟩ := wi_nI (a := a2) (lo := 0) (hi := 29) (by omega) (by omega) b2
    refine GO.ask hW hC hM (if a1 = -1 then nI (who (sT S) c (onT (sT S)) (tn (sT S) 13 % 12)) else (jshr (nI (who (sT S) c (onT (sT S)) (tn (sT S) 13 % 12))) a1) &&& (1 : Int32)) ⟨gz h (sT S) (onT (sT S)) (tn (sT S) 13 % 12), ?_, gz_eqq⟩ (fun h1 hM1 => ⟨h1, ?_, hM1, Eqs.rf⟩)
    · rw [show (0 : Int32) = nI 0 by decide, c_dayStep hT (by omega) hLa (by omega), ob_s, Nat.add_zero, c_who hT (show 46 ≤ 304 by omega) hLa (by omega) ht (by omega), ob2_s]
      split <;> rfl
    · show ob (fX9_isOn (PC 262 0) h1) _ = _
      rw [q20, m_on hT (show 46 ≤ 304 by omega) hM1.1 (by omega), ob_s, m_stepNow hM1 hW, ob_s, m_who hT (show 46 ≤ 304 by omega) hM1.1 (by omega) (by omega) ht (by omega), ob_s]
      split <;> rfl
  refine GO.out (S := S) (f9 := fun h1 => fX9_sees 262 a1 a2 h1) ?_
  unfold fX8_sees
  have e9 : ∀ h1, MR S h1 → fX9_sees 262 a1 a2 h1 = if wi a1 (-1) (nI (tn (sT S) 1) - 1) = true then (ob (fX9_isCell a2) fun v9 => if v9 = 0 then fX9_sees_25 262 h1 else ob (fX9_isOn (PC 262 0) h1) fun v11 => ob (fX9_stepNow 262 h1) fun v13 => ob (fX9_whoSees (PC 262 0) a2 v11 v13 h1) fun v15 => if a1 = (-1 : Int32) then some (v15, h1) else some (((jshr v15 a1) &&& (1 : Int32)), h1)) else fX9_sees_25 262 h1 := by
    intro h1 hM1
    unfold fX9_sees
    rw [m_manyW hM1 hW, ob_s, show fX9_in a1.toInt64 (-1 : Int64) ((nI (tn (sT S) 1) - 1).toInt64) = some (bI (wi a1 (-1) (nI (tn (sT S) 1) - 1))) from m_in (lo := -1), ob_s, chk]
    cases wi a1 (-1) (nI (tn (sT S) 1) - 1) <;> rfl
  have hw : wi a1 (-1) (nI (tn (sT S) 1) - 1) = true ↔ (a1 = -1 ∨ hs (tn (sT S) 1) a1 = true) := by
    unfold wi hs
    simp only [Bool.and_eq_true, decide_eq_true_eq, Int32.le_iff_toInt_le, Int32.lt_iff_toInt_lt, pm1 _ (show tn (sT S) 1 < 100 by omega), nI_toInt (show tn (sT S) 1 < 2147483648 by omega), ← Int32.toInt_inj, show (-1 : Int32).toInt = -1 from rfl, show (0 : Int32).toInt = 0 from rfl]
    omega
  by_cases e1 : a1 = -1
  · rw [if_pos e1]
    exact (hgo (Or.inl e1)).cng rfl (fun h1 hM1 => by show fX9_sees 262 a1 a2 h1 = _; rw [e9 h1 hM1, if_pos (hw.mpr (Or.inl e1))])
  · rw [if_neg e1]
    cases b1 : hs (tn (sT S) 1) a1 with
    | false =>
      refine hbad.cng ?_ (fun h1 hM1 => ?_)
      · rw [z00, z10, c_hasWatcher hT (show 46 ≤ 304 by omega) hLa, b1]; rfl
      · show fX9_sees 262 a1 a2 h1 = _
        rw [e9 h1 hM1, if_neg (fun q => by rcases hw.mp q with q | q; exact e1 q; rw [b1] at q; exact absurd q (by decide))]
    | true =>
      refine (hgo (Or.inr b1)).cng ?_ (fun h1 hM1 => ?_)
      · rw [z00, z10, c_hasWatcher hT (show 46 ≤ 304 by omega) hLa, b1]; rfl
      · show fX9_sees 262 a1 a2 h1 = _
        rw [e9 h1 hM1, if_pos (hw.mpr (Or.inr b1))]
