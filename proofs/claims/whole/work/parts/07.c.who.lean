/-! PURE: what a land is (T: the numbers of the reference's row), who sees what -/
/-- the greatest number that may stand in a place of the row (10000: any) -/
def HB (k : Nat) : Nat :=
  if k = 0 then 5 else if k < 5 then 6 else if k = 5 then 8 else if k < 13 then 10000 else if k = 13 then 9999 else if k < 25 then 29 else if k < 30 then 1 else if k < 35 then 5 else if k < 40 then 9 else if k < 46 then 5
  else if k < 58 then (if k % 2 = 0 then 11 else 63)
  else if k < 88 then (if k % 5 = 3 then 4 else if k % 5 = 4 then 9 else if k % 5 = 0 then 9 else if k % 5 = 1 then 11 else 40)
  else if k < 112 then (if k % 4 = 0 then 5 else if k % 4 = 1 then 9 else if k % 4 = 2 then 40 else 1)
  else if (k - 112) % 24 < 7 then 10000 else if (k - 112) % 24 = 7 then 9999 else if (k - 112) % 24 < 19 then 29 else 1
/-- a number of the row -/
def tn (T : Nat → Int32) (k : Nat) : Nat := ix (T k)
def WfU (T : Nat → Int32) (m : Nat) : Prop := ∀ k, k < m → HB k < 10000 → T k = nI (tn T k) ∧ tn T k ≤ HB k
theorem WfU.le {T : Nat → Int32} {m m' : Nat} (h : WfU T m) (hm : m' ≤ m) : WfU T m' := fun k hk => h k (by omega)
theorem hb_stands : ∀ s, s < 5 → HB (14 + s) = 29 ∧ HB (25 + s) = 1 ∧ HB (30 + s) = 5 ∧ HB (35 + s) = 9 := by decide +kernel
theorem hb_at : ∀ w, w < 6 → HB (19 + w) = 29 ∧ HB (40 + w) = 5 := by decide +kernel
section WF
variable {T : Nat → Int32} {m : Nat}
theorem wf_s (h : WfU T m) (hm : 46 ≤ m) {s : Nat} (hs : s < 5) : (T (14 + s) = nI (tn T (14 + s)) ∧ tn T (14 + s) < 30) ∧ (T (25 + s) = nI (tn T (25 + s)) ∧ tn T (25 + s) < 2) ∧ (T (30 + s) = nI (tn T (30 + s)) ∧ tn T (30 + s) < 6) ∧ (T (35 + s) = nI (tn T (35 + s)) ∧ tn T (35 + s) < 10) := by
  obtain ⟨h1, h2, h3, h4⟩ := hb_stands s hs
  obtain ⟨a1, b1⟩ := h (14 + s) (by omega) (by omega)
  obtain ⟨a2, b2⟩ := h (25 + s) (by omega) (by omega)
  obtain ⟨a3, b3⟩ := h (30 + s) (by omega) (by omega)
  obtain ⟨a4, b4⟩ := h (35 + s) (by omega) (by omega)
  exact ⟨⟨a1, by omega⟩, ⟨a2, by omega⟩, ⟨a3, by omega⟩, ⟨a4, by omega⟩⟩
theorem wf_w (h : WfU T m) (hm : 46 ≤ m) {w : Nat} (hw : w < 6) : (T (19 + w) = nI (tn T (19 + w)) ∧ tn T (19 + w) < 30) ∧ (T (40 + w) = nI (tn T (40 + w)) ∧ tn T (40 + w) < 6) := by
  obtain ⟨h1, h2⟩ := hb_at w hw
  obtain ⟨a1, b1⟩ := h (19 + w) (by omega) (by omega)
  obtain ⟨a2, b2⟩ := h (40 + w) (by omega) (by omega)
  exact ⟨⟨a1, by omega⟩, ⟨a2, by omega⟩⟩
theorem wf_0 (h : WfU T m) (hm : 46 ≤ m) : T 0 = nI (tn T 0) ∧ tn T 0 ≤ 5 := h 0 (by omega) (by decide)
theorem wf_1 (h : WfU T m) (hm : 46 ≤ m) : T 1 = nI (tn T 1) ∧ tn T 1 ≤ 6 := h 1 (by omega) (by decide)
theorem wf_13 (h : WfU T m) (hm : 46 ≤ m) : T 13 = nI (tn T 13) ∧ tn T 13 ≤ 9999 := h 13 (by omega) (by decide)
end WF
/-- a land of the class, at the object la -/
def LaR (la : Nat) (T : Nat → Int32) (h : AH) : Prop := KD la = 1 ∧ hI h la 0 = T 13 ∧ hI h la 1 = T 12 ∧ hI h la 2 = T 0 ∧ hI h la 3 = T 1 ∧
  (∀ s, s < tn T 0 → hI h (PC la 4) s = T (30 + s) ∧ hI h (PC la 5) s = T (14 + s) ∧ hI h (PC la 6) s = T (35 + s) ∧ hI h (PC la 7) s = T (25 + s)) ∧
  (∀ w, w < tn T 1 → hI h (PC la 8) w = T (40 + w) ∧ hI h (PC la 9) w = T (19 + w) ∧ hI h (PC la 10) w = T (6 + w))
/-- a row of the reference -/
def ArR (o n : Nat) (T : Nat → Int32) (h : AH) : Prop := KD o = 9 ∧ SZ o = n ∧ ∀ k, k < n → hI h o k = T k
def gp (T : Nat → Int32) (set c t : Nat) : Nat → Nat
  | 0 => 0
  | s + 1 => max (gp T set c t s) (if set.testBit s = true then pl (tn T (30 + s)) (tn T (35 + s)) (dist (tn T (14 + s)) c) t else 0)
def gpl (T : Nat → Int32) (set c t : Nat) : Nat := gp T set c t (tn T 0)
theorem gp_le {T : Nat → Int32} {m : Nat} (hT : WfU T m) (hm : 46 ≤ m) {set c t : Nat} (hc : c < 30) (ht : t < 12) : ∀ s, s ≤ 5 → gp T set c t s ≤ 30 := by
  intro s
  induction s with
  | zero => intro _; exact Nat.zero_le _
  | succ s ih =>
    intro hs
    have h1 := ih (by omega)
    obtain ⟨⟨_, b1⟩, _, ⟨_, b3⟩, ⟨_, b4⟩⟩ := wf_s hT hm (show s < 5 by omega)
    have h2 := pl_le _ b3 _ b4 _ (dist_le _ b1 _ hc) _ ht
    show max (gp T set c t s) _ ≤ 30
    split <;> omega
theorem gpl_le {T : Nat → Int32} {m : Nat} (hT : WfU T m) (hm : 46 ≤ m) {set c t : Nat} (hc : c < 30) (ht : t < 12) : gpl T set c t ≤ 30 := gp_le hT hm hc ht _ (wf_0 hT hm).2
theorem p_bit {a s : Nat} (ha : a < 2147483648) (hs : s < 32) : ((jshr (nI a) (nI s)) &&& nI 1 = nI 1) = (a.testBit s = true) := by
  have hle : a >>> s ≤ a := Nat.shiftRight_le a s
  have h1 : (a >>> s) &&& 1 = (a >>> s) % 2 := Nat.and_two_pow_sub_one_eq_mod (a >>> s) 1
  have h2 : (a >>> s) % 2 < 2 := Nat.mod_lt _ (by decide)
  rw [p_shr ha hs, p_and, h1, p_eq (by omega) (by decide)]
  rw [Nat.testBit, Nat.one_and_eq_mod_two]
  simp only [bne_iff_ne, ne_eq, eq_iff_iff]
  omega
theorem c_max (a b : Nat) (ha : a < 2147483648) (hb : b < 2147483648) : jmax (nI a) (nI b) = nI (max a b) := by
  unfold jmax
  simp only [p_lt ha hb]
  by_cases h : a < b
  · rw [if_pos h]; congr 1; omega
  · rw [if_neg h]; congr 1; omega
theorem c_gpl {la : Nat} {T : Nat → Int32} {h : AH} {m set c t : Nat} (hT : WfU T m) (hm : 46 ≤ m) (hR : LaR la T h) (hset : set < 2147483648) (hc : c < 30) (ht : t < 12) : fX2_greatestPull la (nI set) (nI c) (nI t) h = some (nI (gpl T set c t)) := by
  obtain ⟨hk, -, -, h2, -, hs, -⟩ := hR
  obtain ⟨w0, w0'⟩ := wf_0 hT hm
  unfold fX2_greatestPull
  refine run_loop (fun n (s : Int32 × Int32) => fX2_greatestPull_6 h n la (nI set) (nI c) (nI t) s.1 s.2) (fun i => (nI (gp T set c t i), nI i)) (tn T 0) _ ?_ ?_ FU (FU_lt (by omega))
  · intro n i hi
    show fX2_greatestPull_6 h (n + 1) la (nI set) (nI c) (nI t) (nI (gp T set c t i)) (nI i) = fX2_greatestPull_6 h n la (nI set) (nI c) (nI t) (nI (gp T set c t (i + 1))) (nI (i + 1))
    obtain ⟨e1, e2, e3, -⟩ := hs i hi
    obtain ⟨⟨a1, b1⟩, -, ⟨a3, b3⟩, ⟨a4, b4⟩⟩ := wf_s hT hm (show i < 5 by omega)
    have g1 := gp_le hT hm hc ht (set := set) i (by omega)
    have hd := dist_le _ b1 _ hc
    have g2 := pl_le _ b3 _ b4 _ hd _ ht
    rw [fX2_greatestPull_6, h2, w0]
    simp (disch := omega) only [p_le, if_neg, p1, p_bit hset]
    have hsz5 := sz_X2_5 hk
    have hsz4 := sz_X2_4 hk
    have hsz6 := sz_X2_6 hk
    by_cases hb : set.testBit i = true
    · rw [if_pos hb]
      simp (disch := omega) only [hsz5, hsz4, hsz6, inb_nI, decide_eq_true, oG_t, ix_nI, e1, e2, e3, a1, a3, a4, c_far _ b1 _ hc, ob_s, c_pull _ b3 _ b4 _ hd _ ht, c_max, oL_d, nI_add, gp, hb, if_true]
    · rw [if_neg hb]
      simp only [oL_d, nI_add, gp, if_neg hb, Nat.max_zero]
  · intro n
    show fX2_greatestPull_6 h (n + 1) la (nI set) (nI c) (nI t) (nI (gp T set c t (tn T 0))) (nI (tn T 0)) = _
    rw [fX2_greatestPull_6, h2, w0, if_pos (by rw [p_le (by omega) (by omega)]; exact Nat.le_refl _)]
    rfl
theorem m_has {a s : Nat} (ha : a < 2147483648) (hs : s < 32) : fX9_has (nI a) (nI s) = some (bI (a.testBit s)) := by
  unfold fX9_has
  simp only [p1, p_bit ha hs]
  cases a.testBit s <;> rfl
theorem bI_0 (b : Bool) : (bI b = 0) = (b = false) := by cases b <;> simp [bI]
theorem bI_B (b : Bool) : isB (bI b) = true := by cases b <;> decide
theorem m_pullAt {o n : Nat} {T : Nat → Int32} {h : AH} {m s c t : Nat} (hT : WfU T m) (hm : 46 ≤ m) (hR : ArR o n T h) (hn : 46 ≤ n) (hs : s < 5) (hc : c < 30) (ht : t < 12) : fX9_pullAt o (nI s) (nI c) (nI t) h = some (nI (pl (tn T (30 + s)) (tn T (35 + s)) (dist (tn T (14 + s)) c) t)) := by
  obtain ⟨hk, hsz, hr⟩ := hR
  obtain ⟨⟨a1, b1⟩, -, ⟨a3, b3⟩, ⟨a4, b4⟩⟩ := wf_s hT hm hs
  have hd := dist_le _ b1 _ hc
  unfold fX9_pullAt
  simp (disch := omega) only [p0, p1, p2, p3, p4, p5, p6, p7, p8, p9, p10, p11, p12, p14, p19, p23, p24, p25, p29, p30, p31, p35, p40, p46, p58, p60, p88, p99, p100, p112, p150, p9999, nI_add, nI_mul, ix_nI, p_sub, p_div, p_rem, p_shl, p_shr, p_and, p_or, inb_nI, hsz, decide_eq_true, oG_t, hr, a1, a3, a4, m_far _ b1 _ hc, ob_s, m_pull _ b3 _ b4 _ hd _ ht]
theorem m_gpl {o n : Nat} {T : Nat → Int32} {h : AH} {m set c t : Nat} (hT : WfU T m) (hm : 46 ≤ m) (hR : ArR o n T h) (hn : 46 ≤ n) (hset : set < 2147483648) (hc : c < 30) (ht : t < 12) : fX9_greatest o (nI set) (nI c) (nI t) h = some (nI (gpl T set c t)) := by
  have hR' := hR
  obtain ⟨hk, hsz, hr⟩ := hR
  obtain ⟨w0, w0'⟩ := wf_0 hT hm
  have r0 := hr 0 (by omega)
  unfold fX9_greatest
  refine run_loop (fun n (s : Int32 × Int32) => fX9_greatest_6 h n o (nI set) (nI c) (nI t) s.1 s.2) (fun i => (nI (gp T set c t i), nI i)) (tn T 0) _ ?_ ?_ FU (FU_lt (by omega))
  · intro k i hi
    show fX9_greatest_6 h (k + 1) o (nI set) (nI c) (nI t) (nI (gp T set c t i)) (nI i) = fX9_greatest_6 h k o (nI set) (nI c) (nI t) (nI (gp T set c t (i + 1))) (nI (i + 1))
    obtain ⟨⟨a1, b1⟩, -, ⟨a3, b3⟩, ⟨a4, b4⟩⟩ := wf_s hT hm (show i < 5 by omega)
    have g1 := gp_le hT hm hc ht (set := set) i (by omega)
    have g2 := pl_le _ b3 _ b4 _ (dist_le _ b1 _ hc) _ ht
    have hle : ∀ x, x ≤ 30 → fX9_greatest_35 h (fX9_greatest_6 h k) o (nI set) (nI c) (nI t) (nI (gp T set c t i)) (nI i) (nI x) = fX9_greatest_6 h k o (nI set) (nI c) (nI t) (nI (max (gp T set c t i) x)) (nI (i + 1)) := by
      intro x hx
      unfold fX9_greatest_35 fX9_greatest_51
      simp (disch := omega) only [p0, p1, p2, p3, p4, p5, p6, p7, p8, p9, p10, p11, p12, p14, p19, p23, p24, p25, p29, p30, p31, p35, p40, p46, p58, p60, p88, p99, p100, p112, p150, p9999, nI_add, nI_mul, ix_nI, p_sub, p_div, p_rem, p_shl, p_shr, p_and, p_or, inb_nI, p_le, oL_d]
      by_cases hq : x ≤ gp T set c t i
      · rw [if_pos hq, Nat.max_eq_left hq]
      · rw [if_neg hq, Nat.max_eq_right (by omega)]
    rw [fX9_greatest_6]
    simp (disch := omega) only [p0, p1, p2, p3, p4, p5, p6, p7, p8, p9, p10, p11, p12, p14, p19, p23, p24, p25, p29, p30, p31, p35, p40, p46, p58, p60, p88, p99, p100, p112, p150, p9999, nI_add, nI_mul, ix_nI, p_sub, p_div, p_rem, p_shl, p_shr, p_and, p_or, inb_nI, hsz, decide_eq_true, oG_t, r0, w0, p_le, if_neg, m_has, ob_s]
    cases hb : set.testBit i with
    | false =>
      rw [if_pos (show bI false = nI 0 by decide), hle 0 (by omega)]
      simp only [gp, hb, Bool.false_eq_true, if_false]
    | true =>
      rw [if_neg (show ¬ bI true = nI 0 by decide), m_pullAt hT hm hR' hn (by omega) hc ht, ob_s, hle _ g2]
      simp only [gp, hb, if_true]
  · intro k
    show fX9_greatest_6 h (k + 1) o (nI set) (nI c) (nI t) (nI (gp T set c t (tn T 0))) (nI (tn T 0)) = _
    rw [fX9_greatest_6]
    simp (disch := omega) only [p0, p1, p2, p3, p4, p5, p6, p7, p8, p9, p10, p11, p12, p14, p19, p23, p24, p25, p29, p30, p31, p35, p40, p46, p58, p60, p88, p99, p100, p112, p150, p9999, nI_add, nI_mul, ix_nI, p_sub, p_div, p_rem, p_shl, p_shr, p_and, p_or, inb_nI, hsz, decide_eq_true, oG_t, r0, w0, p_le, if_pos, gpl]
