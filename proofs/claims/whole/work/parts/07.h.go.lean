/-! PURE: both sides of a call at once -/
def GO {α : Type} (S : ST) (f8 : Option (α × AH)) (f9 : AH → Option (α × AH)) : Prop := ∃ (v : α) (h1 h2 : AH), f8 = some (v, h1) ∧ MR S h1 ∧ f9 h1 = some (v, h2) ∧ RR h2
section GOS
variable {α : Type} {S : ST} {h : AH} {f8 g8 : Option (α × AH)} {f9 g9 : AH → Option (α × AH)}
theorem GO.out (g : GO S f8 f9) : ∃ (v : α) (h1 h2 : AH), f8 = some (v, h1) ∧ f9 h1 = some (v, h2) ∧ RR h2 := by
  obtain ⟨v, h1, h2, r1, -, r2, r3⟩ := g
  exact ⟨v, h1, h2, r1, r2, r3⟩
theorem GO.cng (g : GO S g8 g9) (e8 : f8 = g8) (e9 : ∀ h1, MR S h1 → f9 h1 = g9 h1) : GO S f8 f9 := by
  obtain ⟨v, h1, h2, r1, m1, r2, r3⟩ := g
  exact ⟨v, h1, h2, e8.trans r1, m1, (e9 h1 m1).trans r2, r3⟩
theorem GO.chk {b : Bool} {c8 : Option Int32} {c9 : AH → Option Int32} {A8 B8 : Option (α × AH)} {A9 B9 : AH → Option (α × AH)} (h8 : c8 = some (bI b)) (h9 : ∀ h1, MR S h1 → c9 h1 = some (bI b)) (hf : b = false → GO S B8 B9) (ht : b = true → GO S A8 A9) : GO S (ob c8 fun v => if v = 0 then B8 else A8) (fun h1 => ob (c9 h1) fun v => if v = 0 then B9 h1 else A9 h1) := by
  cases b with
  | false => exact (hf rfl).cng (by rw [h8]; rfl) (fun h1 m1 => by show ob (c9 h1) _ = _; rw [h9 h1 m1]; rfl)
  | true => exact (ht rfl).cng (by rw [h8]; rfl) (fun h1 m1 => by show ob (c9 h1) _ = _; rw [h9 h1 m1]; rfl)
theorem GO.bad {v : α} (hW : WfS S) (hC : CR S h) (hM : MR S h) (e8 : ∀ h1, fX8_refuse 0 (-2) h = some (-2, h1) → f8 = some (v, h1)) (e9 : ∀ h1, f9 h1 = some (v, sI h1 266 0 (hI h1 266 0 + 1))) : GO S f8 f9 := by
  obtain ⟨h1, r1, hC1, he1⟩ := c_refuse hW hC (v := -2) (i := 0) (Or.inl ⟨rfl, rfl⟩)
  have hM1 := hM.eqs (he1.sub (by omega) (by omega))
  obtain ⟨hM2, he2⟩ := m_ref hM1 0 (by omega)
  exact ⟨v, h1, _, e8 h1 r1, hM1, e9 h1, RR.go (hW.bump 0) hC1 hM2 he2⟩
theorem GO.no {v : α} (hW : WfS S) (hC : CR S h) (hM : MR S h) (e8 : ∀ h1, fX8_refuse 0 (-3) h = some (-3, h1) → f8 = some (v, h1)) (e9 : ∀ h1, f9 h1 = some (v, sI h1 266 1 (hI h1 266 1 + 1))) : GO S f8 f9 := by
  obtain ⟨h1, r1, hC1, he1⟩ := c_refuse hW hC (v := -3) (i := 1) (Or.inr (Or.inl ⟨rfl, rfl⟩))
  have hM1 := hM.eqs (he1.sub (by omega) (by omega))
  obtain ⟨hM2, he2⟩ := m_ref hM1 1 (by omega)
  exact ⟨v, h1, _, e8 h1 r1, hM1, e9 h1, RR.go (hW.bump 1) hC1 hM2 he2⟩
theorem GO.full {v : α} (hW : WfS S) (hC : CR S h) (hM : MR S h) (e8 : ∀ h1, fX8_refuse 0 (-4) h = some (-4, h1) → f8 = some (v, h1)) (e9 : ∀ h1, f9 h1 = some (v, sI h1 266 2 (hI h1 266 2 + 1))) : GO S f8 f9 := by
  obtain ⟨h1, r1, hC1, he1⟩ := c_refuse hW hC (v := -4) (i := 2) (Or.inr (Or.inr ⟨rfl, rfl⟩))
  have hM1 := hM.eqs (he1.sub (by omega) (by omega))
  obtain ⟨hM2, he2⟩ := m_ref hM1 2 (by omega)
  exact ⟨v, h1, _, e8 h1 r1, hM1, e9 h1, RR.go (hW.bump 2) hC1 hM2 he2⟩
theorem GO.ask (hW : WfS S) (hC : CR S h) (hM : MR S h) (v : α) (e8 : ∃ h1, f8 = some (v, h1) ∧ EqQ h h1) (e9 : ∀ h1, MR S h1 → ∃ h2, f9 h1 = some (v, h2) ∧ MR S h2 ∧ Eqs 0 261 h1 h2) : GO S f8 f9 := by
  obtain ⟨h1, r1, q1⟩ := e8
  have hM1 := hM.eqs (q1.eqs (by omega))
  obtain ⟨h2, r2, hM2, q2⟩ := e9 h1 hM1
  exact ⟨v, h1, h2, r1, hM1, r2, RR.go hW (hC.eqq hW q1) hM2 q2⟩
theorem GO.act {S' : ST} (hM : MR S h) (hW' : WfS S') (v : α) (e8 : ∃ h1, f8 = some (v, h1) ∧ CR S' h1 ∧ Eqs 262 274 h h1) (e9 : ∀ h1, MR S h1 → ∃ h2, f9 h1 = some (v, h2) ∧ MR S' h2 ∧ Eqs 0 261 h1 h2) : GO S f8 f9 := by
  obtain ⟨h1, r1, hC1, q1⟩ := e8
  have hM1 := hM.eqs (q1.sub (by omega) (by omega))
  obtain ⟨h2, r2, hM2, q2⟩ := e9 h1 hM1
  exact ⟨v, h1, h2, r1, hM1, r2, RR.go hW' hC1 hM2 q2⟩
end GOS
theorem rf8 {h h1 : AH} (q : fX8_refuse 0 (-2) h = some (-2, h1)) : (ob2 (fX8_refuse 0 (-2) h) fun v5 h4 => some (v5, h4)) = some (-2, h1) := by rw [q]; rfl
/-! the strongest -/
theorem onS_bit {T : Nat → Int32} {m : Nat} (hT : WfU T m) (hm : 46 ≤ m) : ∀ n, n ≤ 5 → ∀ s, s < n → (onS T n).testBit s = decide (tn T (25 + s) = 1) := by
  intro n
  induction n with
  | zero => intro _ s hs; omega
  | succ n ih =>
    intro hn s hs
    obtain ⟨-, ⟨-, b2⟩, -⟩ := wf_s hT hm (show n < 5 by omega)
    show (onS T n ||| tn T (25 + n) * 2 ^ n).testBit s = _
    rw [Nat.testBit_or]
    by_cases hsn : s = n
    · subst hsn
      rw [Nat.testBit_lt_two_pow (onS_lt hT hm s (by omega)), Bool.false_or]
      rcases (show tn T (25 + s) = 0 ∨ tn T (25 + s) = 1 by omega) with e | e
      · rw [e, Nat.zero_mul, Nat.zero_testBit]; rfl
      · rw [e, Nat.one_mul, Nat.testBit_two_pow_self]; rfl
    · rw [ih (by omega) s (by omega)]
      rcases (show tn T (25 + n) = 0 ∨ tn T (25 + n) = 1 by omega) with e | e
      · rw [e, Nat.zero_mul, Nat.zero_testBit, Bool.or_false]
      · rw [e, Nat.one_mul, Nat.testBit_two_pow_of_ne (by omega), Bool.or_false]
theorem onT_bit {T : Nat → Int32} {m : Nat} (hT : WfU T m) (hm : 46 ≤ m) {s : Nat} (hs : s < tn T 0) : (onT T).testBit s = decide (tn T (25 + s) = 1) := onS_bit hT hm _ (wf_0 hT hm).2 s hs
def cp (T : Nat → Int32) (set c t s : Nat) : Nat := if set.testBit s = true then pl (tn T (30 + s)) (tn T (35 + s)) (dist (tn T (14 + s)) c) t else 0
def bst (T : Nat → Int32) (set c t : Nat) : Nat → Int32
  | 0 => -1
  | s + 1 => if cp T set c t s ≤ gp T set c t s then bst T set c t s else nI s
theorem bst_is (T : Nat → Int32) (set c t : Nat) : ∀ n, (gp T set c t n = 0 ∧ bst T set c t n = -1) ∨ ∃ k, k < n ∧ bst T set c t n = nI k ∧ cp T set c t k = gp T set c t n ∧ 0 < gp T set c t n ∧ ∀ j, j < k → cp T set c t j < gp T set c t n := by
  intro n
  induction n with
  | zero => exact Or.inl ⟨rfl, rfl⟩
  | succ n ih =>
    have hg : gp T set c t (n + 1) = max (gp T set c t n) (cp T set c t n) := rfl
    by_cases hq : cp T set c t n ≤ gp T set c t n
    · have e1 : gp T set c t (n + 1) = gp T set c t n := by omega
      have e2 : bst T set c t (n + 1) = bst T set c t n := if_pos hq
      rw [e1, e2]
      rcases ih with h1 | ⟨k, h1, h2, h3, h4, h5⟩
      · exact Or.inl h1
      · exact Or.inr ⟨k, by omega, h2, h3, h4, h5⟩
    · have e1 : gp T set c t (n + 1) = cp T set c t n := by omega
      have e2 : bst T set c t (n + 1) = nI n := if_neg hq
      rw [e1, e2]
      refine Or.inr ⟨n, by omega, rfl, rfl, by omega, fun j hj => ?_⟩
      have hj2 : ∀ n, j < n → cp T set c t j ≤ gp T set c t n := by
        intro n
        induction n with
        | zero => intro q; omega
        | succ n ih2 =>
          intro q
          have hg2 : gp T set c t (n + 1) = max (gp T set c t n) (cp T set c t n) := rfl
          by_cases hjn : j = n
          · subst hjn; omega
          · have := ih2 (by omega); omega
      have := hj2 n hj
      omega
theorem c_strong {la : Nat} {T : Nat → Int32} {h : AH} {m set c t : Nat} (hT : WfU T m) (hm : 46 ≤ m) (hR : LaR la T h) (hset : set < 2147483648) (hc : c < 30) (ht : t < 12) : fX2_strongest la (nI set) (nI c) (nI t) h = some (bst T set c t (tn T 0)) := by
  obtain ⟨hk, -, -, h2, -, hs, -⟩ := hR
  obtain ⟨w0, w0'⟩ := wf_0 hT hm
  unfold fX2_strongest
  refine run_loop (fun n (s : Int32 × Int32 × Int32) => fX2_strongest_9 h n la (nI set) (nI c) (nI t) s.1 s.2.1 s.2.2) (fun i => (bst T set c t i, nI (gp T set c t i), nI i)) (tn T 0) _ ?_ ?_ FU (FU_lt (by omega))
  · intro n i hi
    show fX2_strongest_9 h (n + 1) la (nI set) (nI c) (nI t) (bst T set c t i) (nI (gp T set c t i)) (nI i) = fX2_strongest_9 h n la (nI set) (nI c) (nI t) (bst T set c t (i + 1)) (nI (gp T set c t (i + 1))) (nI (i + 1))
    obtain ⟨e1, e2, e3, -⟩ := hs i hi
    obtain ⟨⟨a1, b1⟩, -, ⟨a3, b3⟩, ⟨a4, b4⟩⟩ := wf_s hT hm (show i < 5 by omega)
    have g1 := gp_le hT hm hc ht (set := set) i (by omega)
    have hd := dist_le _ b1 _ hc
    have g2 := pl_le _ b3 _ b4 _ hd _ ht
    have hsz5 := sz_X2_5 hk
    have hsz4 := sz_X2_4 hk
    have hsz6 := sz_X2_6 hk
    have hcp : cp T set c t i ≤ 30 := by unfold cp; split <;> omega
    have hle : fX2_strongest_40 h (fX2_strongest_9 h n) la (nI set) (nI c) (nI t) (bst T set c t i) (nI (gp T set c t i)) (nI i) (nI (cp T set c t i)) = fX2_strongest_9 h n la (nI set) (nI c) (nI t) (bst T set c t (i + 1)) (nI (gp T set c t (i + 1))) (nI (i + 1)) := by
      have hg : gp T set c t (i + 1) = max (gp T set c t i) (cp T set c t i) := rfl
      unfold fX2_strongest_40
      simp (disch := omega) only [p0, p1, p2, p3, p4, p5, p6, p7, p8, p9, p10, p11, p12, p14, p19, p23, p24, p25, p29, p30, p31, p35, p40, p46, p58, p60, p88, p99, p100, p112, p150, p9999, nI_add, nI_mul, ix_nI, p_sub, p_div, p_rem, p_shl, p_shr, p_and, p_or, inb_nI, p_le, oL_d]
      by_cases hq : cp T set c t i ≤ gp T set c t i
      · rw [if_pos hq, hg, Nat.max_eq_left hq, show bst T set c t (i + 1) = bst T set c t i from if_pos hq]
      · rw [if_neg hq, hg, Nat.max_eq_right (by omega), show bst T set c t (i + 1) = nI i from if_neg hq]
    rw [← hle, fX2_strongest_9, h2, w0]
    simp (disch := omega) only [p_le, if_neg, p1, p_bit hset]
    by_cases hb : set.testBit i = true
    · rw [if_pos hb]
      unfold fX2_pullAt
      simp (disch := omega) only [hsz5, hsz4, hsz6, inb_nI, decide_eq_true, oG_t, ix_nI, e1, e2, e3, a1, a3, a4, c_far _ b1 _ hc, ob_s, c_pull _ b3 _ b4 _ hd _ ht, cp, if_pos hb]
    · rw [if_neg hb, show cp T set c t i = 0 from if_neg hb]
      rfl
  · intro n
    show fX2_strongest_9 h (n + 1) la (nI set) (nI c) (nI t) (bst T set c t (tn T 0)) (nI (gp T set c t (tn T 0))) (nI (tn T 0)) = _
    rw [fX2_strongest_9, h2, w0]
    simp (disch := omega) only [p_le, if_pos]
theorem hs_t {n k : Nat} (h : k < n) (hn : n < 2147483648) : hs n (nI k) = true := by
  unfold hs
  simp (disch := omega) only [p0, p_le, p_lt, Nat.zero_le, decide_true, Bool.true_and, decide_eq_true_eq]
  exact h
theorem m_pullop {S : ST} {h : AH} (hM : MR S h) (hW : WfS S) {s w : Nat} (hs1 : s < tn (sT S) 0) (hw1 : w < tn (sT S) 1) : fX9_pull 262 (nI s) (nI w) h = some (nI (pl (tn (sT S) (30 + s)) (tn (sT S) (35 + s)) (dist (tn (sT S) (14 + s)) (tn (sT S) (19 + w))) (tn (sT S) 13 % 12)), h) := by
  have hT := hW.1
  have h5 := (wf_cnt hT).1.2
  have h6 := (wf_cnt hT).2.1.2
  obtain ⟨⟨c1, d1⟩, -⟩ := wf_w hT (by omega) (show w < 6 by omega)
  have ht : tn (sT S) 13 % 12 < 12 := Nat.mod_lt _ (by omega)
  have hr := hM.1.2.2
  have e1 := hs_t hs1 (by omega)
  have e2 := hs_t hw1 (by omega)
  unfold fX9_pull
  rw [m_isShow hM hW, e1, ob_s, if_neg (by decide), m_isWatcher hM hW, e2, ob_s, if_neg (by decide)]
  simp (disch := omega) only [p0, p1, p2, p3, p4, p5, p6, p7, p8, p9, p10, p11, p12, p14, p19, p23, p24, p25, p29, p30, p31, p35, p40, p46, p58, p60, p88, p99, p100, p112, p150, p9999, nI_add, nI_mul, ix_nI, p_sub, p_div, p_rem, p_shl, p_shr, p_and, p_or, inb_nI, q20, q20s, decide_eq_true, oG_t, hr, c1, m_stepNow hM hW, ob_s, m_pullAt hT (show 46 ≤ 304 by omega) hM.1 (show 46 ≤ 304 by omega) (show s < 5 by omega) d1 ht]
