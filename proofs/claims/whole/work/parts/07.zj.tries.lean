/-! PURE: the first least of many -/
def fs (val : Nat → Nat) (W F0 : Nat) : Nat → Int32 × Nat
  | 0 => (-1, F0)
  | c + 1 => if c % 100 < W ∧ val c < (fs val W F0 c).2 then (nI c, val c) else fs val W F0 c
section FS
variable {val : Nat → Nat} {W F0 : Nat}
theorem fs_skip (hW : W ≤ 100) (t : Nat) : ∀ d, W + d ≤ 100 → fs val W F0 (100 * t + W + d) = fs val W F0 (100 * t + W) := by
  intro d
  induction d with
  | zero => intro _; rfl
  | succ d ih =>
    intro hd
    show fs val W F0 (100 * t + W + d + 1) = _
    rw [fs, if_neg (fun q => by omega), ih (by omega)]
theorem fs_next (hW : W ≤ 100) (t : Nat) : fs val W F0 (100 * t + W) = fs val W F0 (100 * (t + 1)) := by
  have h := fs_skip (val := val) (F0 := F0) hW t (100 - W) (by omega)
  rw [show 100 * t + W + (100 - W) = 100 * (t + 1) by omega] at h
  exact h.symm
theorem fs_le (hv : ∀ c, c % 100 < W → val c ≤ 6) : ∀ n, (fs val W F0 n).2 ≤ max F0 6 := by
  intro n
  induction n with
  | zero => show F0 ≤ _; omega
  | succ n ih =>
    unfold fs
    by_cases q : n % 100 < W ∧ val n < (fs val W F0 n).2
    · rw [if_pos q]
      have := hv n q.1
      show val n ≤ _
      omega
    · rw [if_neg q]; exact ih
theorem fs_same (hW : 0 < W) (hv : ∀ c, c % 100 < W → val c ≤ 6) : ∀ n, fs val W 7 (n + 1) = fs val W 1000000 (n + 1) := by
  intro n
  induction n with
  | zero =>
    have h6 := hv 0 (by omega)
    have e : ∀ F, 6 < F → fs val W F (0 + 1) = (nI 0, val 0) := fun F hF => if_pos ⟨by omega, by show val 0 < F; omega⟩
    rw [e 7 (by omega), e 1000000 (by omega)]
  | succ n ih =>
    rw [fs, ih, ← fs]
end FS
/-! tries -/
def gpK (K f p : Nat) : Nat → Nat
  | 0 => 0
  | k + 1 => if K.testBit k = true ∧ se k f p = true then gpK K f p k + 1 else gpK K f p k
def gpV (K f p : Nat) : Nat := max (gpK K f p 6) (pc 6 K - gpK K f p 6)
theorem gpK_le {K f p : Nat} : ∀ n, gpK K f p n ≤ n := by
  intro n
  induction n with
  | zero => exact Nat.le_refl _
  | succ n ih => unfold gpK; split <;> omega
theorem gpK_pc {K f p : Nat} : ∀ n, gpK K f p n ≤ pc n K := by
  have hb : ∀ n K, pc (n + 1) K = pc n K + K / 2 ^ n % 2 := by
    intro n K
    rw [pc_add]
    rfl
  intro n
  induction n with
  | zero => exact Nat.le_refl _
  | succ n ih =>
    rw [hb]
    unfold gpK
    by_cases q : K.testBit n = true ∧ se n f p = true
    · rw [if_pos q]
      have := q.1
      rw [Nat.testBit_eq_decide_div_mod_eq, decide_eq_true_eq] at this
      omega
    · rw [if_neg q]
      omega
theorem gpV_le {K f p : Nat} : gpV K f p ≤ 6 := by
  have h1 := gpK_le (K := K) (f := f) (p := p) 6
  have h2 := pc_le 6 K
  unfold gpV
  omega
theorem c_greater {K f p : Nat} (hK : K < 64) (hf : f < 10) (hp : p < 41) : fX8_greaterPart (nI K) (nI f) (nI p) = some (nI (gpV K f p)) := by
  unfold fX8_greaterPart
  rw [p0]
  obtain ⟨N, hN⟩ : ∃ N : Nat, N = 6 := ⟨6, rfl⟩
  refine run_loop (fun n (s : Int32 × Int32) => fX8_greaterPart_5 n (nI K) (nI f) (nI p) s.1 s.2) (fun i => (nI (gpK K f p i), nI i)) N _ (fun n i hi => ?_) (fun n => ?_) FU (FU_lt (by omega))
  · show fX8_greaterPart_5 (n + 1) (nI K) (nI f) (nI p) (nI (gpK K f p i)) (nI i) = fX8_greaterPart_5 n (nI K) (nI f) (nI p) (nI (gpK K f p (i + 1))) (nI (i + 1))
    rw [fX8_greaterPart_5, if_neg (by rw [p6, p_le (by omega) (by omega)]; omega), gpK]
    by_cases hb : K.testBit i = true
    · rw [if_pos (by rw [p1, p_bit (by omega) (by omega)]; exact hb), c_sees i (by omega) f hf p hp, ob_s]
      cases hs1 : se i f p with
      | true => rw [if_neg (by decide), if_pos ⟨hb, rfl⟩, oL_d, oL_d, p1, nI_add, nI_add]
      | false => rw [if_pos (by decide), if_neg (fun q => by simp at q), oL_d, p1, nI_add]
    · rw [if_neg (by rw [p1, p_bit (by omega) (by omega)]; exact hb), if_neg (fun q => hb q.1), oL_d, p1, nI_add]
  · show fX8_greaterPart_5 (n + 1) (nI K) (nI f) (nI p) (nI (gpK K f p N)) (nI N) = _
    have h1 := gpK_le (K := K) (f := f) (p := p) 6
    have h2 := gpK_pc (K := K) (f := f) (p := p) 6
    have h3 := pc_le 6 K
    rw [fX8_greaterPart_5, hN, if_pos (by decide)]
    unfold fX8_greaterPart_41
    rw [c_bits K hK, ob_s, p_sub h2, c_max _ _ (by omega) (by omega)]
    rfl
def trV (K c : Nat) : Nat := gpV K (c / 100) (c % 100)
theorem trV_le {K : Nat} : ∀ c, c % 100 < 41 → trV K c ≤ 6 := fun c _ => gpV_le
theorem c_triesI {K f : Nat} {h : AH} (hK : K < 64) (hf : f < 10) (k93 : Int32 → Int32 → Int32 → Int32 → AH → Option (Int32 × AH)) : fX8_tries_50 k93 FU (nI K) (fs (trV K) 41 7 (100 * f)).1 (nI (fs (trV K) 41 7 (100 * f)).2) (nI f) (nI 0) h = k93 (nI K) (fs (trV K) 41 7 (100 * (f + 1))).1 (nI (fs (trV K) 41 7 (100 * (f + 1))).2) (nI f) h := by
  obtain ⟨N, hN⟩ : ∃ N : Nat, N = 41 := ⟨41, rfl⟩
  rw [← fs_next (by omega) f]
  refine run_loop (fun n (s : Int32 × Int32 × Int32) => fX8_tries_50 k93 n (nI K) s.1 s.2.1 (nI f) s.2.2 h) (fun i => ((fs (trV K) 41 7 (100 * f + i)).1, nI (fs (trV K) 41 7 (100 * f + i)).2, nI i)) 41 _ (fun n i hi => ?_) (fun n => ?_) FU (FU_lt (by omega))
  · show fX8_tries_50 k93 (n + 1) (nI K) (fs (trV K) 41 7 (100 * f + i)).1 (nI (fs (trV K) 41 7 (100 * f + i)).2) (nI f) (nI i) h = fX8_tries_50 k93 n (nI K) (fs (trV K) 41 7 (100 * f + (i + 1))).1 (nI (fs (trV K) 41 7 (100 * f + (i + 1))).2) (nI f) (nI (i + 1)) h
    have hl := fs_le (F0 := 7) (trV_le (K := K)) (100 * f + i)
    have hv : trV K (100 * f + i) = gpV K f i := by
      unfold trV
      rw [show (100 * f + i) / 100 = f by omega, show (100 * f + i) % 100 = i by omega]
    have h6 := gpV_le (K := K) (f := f) (p := i)
    rw [fX8_tries_50, if_neg (by rw [p40, p_lt (by omega) (by omega)]; omega), c_greater hK hf hi, ob_s, show 100 * f + (i + 1) = 100 * f + i + 1 by omega, fs, hv]
    by_cases q : (fs (trV K) 41 7 (100 * f + i)).2 ≤ gpV K f i
    · rw [if_pos (by rw [p_le (by omega) (by omega)]; exact q), if_neg (fun r => by omega), oL_d, p1, nI_add]
    · rw [if_neg (by rw [p_le (by omega) (by omega)]; exact q), if_pos ⟨by omega, by omega⟩, oL_d, oL_d, p100, p1, nI_mul, nI_add, nI_add]
  · show fX8_tries_50 k93 (n + 1) (nI K) (fs (trV K) 41 7 (100 * f + 41)).1 (nI (fs (trV K) 41 7 (100 * f + 41)).2) (nI f) (nI 41) h = _
    rw [fX8_tries_50, if_pos (by decide)]
theorem c_tries {K : Nat} {h : AH} (hK : K < 64) : fX8_tries_36 FU (nI K) (-1) (nI 7) (nI 0) h = some (if K = 0 then -1 else (fs (trV K) 41 7 1000).1, h) := by
  by_cases h0 : K = 0
  · rw [if_pos h0]
    refine run_loop (fun n (s : Int32) => fX8_tries_36 n (nI K) (-1) (nI 7) s h) (fun i => nI i) 0 _ (fun n i hi => by omega) (fun n => ?_) FU (FU_lt (by omega))
    show fX8_tries_36 (n + 1) (nI K) (-1) (nI 7) (nI 0) h = _
    rw [fX8_tries_36, if_pos (by rw [h0]; decide)]
  · obtain ⟨N, hN⟩ : ∃ N : Nat, N = 10 := ⟨10, rfl⟩
    rw [if_neg h0, show fs (trV K) 41 7 1000 = fs (trV K) 41 7 (100 * N) by rw [hN]]
    refine run_loop (fun n (s : Int32 × Int32 × Int32) => fX8_tries_36 n (nI K) s.1 s.2.1 s.2.2 h) (fun f => ((fs (trV K) 41 7 (100 * f)).1, nI (fs (trV K) 41 7 (100 * f)).2, nI f)) N _ (fun n f hf => ?_) (fun n => ?_) FU (FU_lt (by omega))
    · show fX8_tries_36 (n + 1) (nI K) (fs (trV K) 41 7 (100 * f)).1 (nI (fs (trV K) 41 7 (100 * f)).2) (nI f) h = fX8_tries_36 n (nI K) (fs (trV K) 41 7 (100 * (f + 1))).1 (nI (fs (trV K) 41 7 (100 * (f + 1))).2) (nI (f + 1)) h
      rw [fX8_tries_36, if_neg (by rw [p0, p_eq (by omega) (by omega)]; exact h0), if_neg (by rw [p9, p_lt (by omega) (by omega)]; omega), p0, c_triesI hK (by omega), oL_d, p1, nI_add]
    · show fX8_tries_36 (n + 1) (nI K) (fs (trV K) 41 7 (100 * N)).1 (nI (fs (trV K) 41 7 (100 * N)).2) (nI N) h = _
      rw [fX8_tries_36, if_neg (by rw [p0, p_eq (by omega) (by omega)]; exact h0), if_pos (by rw [hN]; decide)]
theorem m_triesI {K c : Nat} {h : AH} {l3 l4 : Int32} (hK : K < 64) (hf : c / 100 < 10) (hp : c % 100 < 41) (hc : c < 2000) (k98 : Int32 → Int32 → Int32 → Int32 → Int32 → AH → Option (Int32 × AH)) : fX9_tries_48 k98 FU (nI K) l3 l4 (nI c) (nI 0) (nI 0) h = k98 (nI K) l3 l4 (nI c) (nI (gpK K (c / 100) (c % 100) 6)) h := by
  obtain ⟨N, hN⟩ : ∃ N : Nat, N = 6 := ⟨6, rfl⟩
  rw [← hN]
  refine run_loop (fun n (s : Int32 × Int32) => fX9_tries_48 k98 n (nI K) l3 l4 (nI c) s.1 s.2 h) (fun i => (nI (gpK K (c / 100) (c % 100) i), nI i)) N _ (fun n i hi => ?_) (fun n => ?_) FU (FU_lt (by omega))
  · show fX9_tries_48 k98 (n + 1) (nI K) l3 l4 (nI c) (nI (gpK K (c / 100) (c % 100) i)) (nI i) h = fX9_tries_48 k98 n (nI K) l3 l4 (nI c) (nI (gpK K (c / 100) (c % 100) (i + 1))) (nI (i + 1)) h
    rw [fX9_tries_48, if_neg (by rw [p6, p_le (by omega) (by omega)]; omega), m_has (by omega) (by omega), ob_s, p100, p_div (by omega) (by omega), p_rem (by omega) (by omega), m_sees i (by omega) _ hf _ hp, ob_s, gpK]
    unfold fX9_tries_88 fX9_tries_89
    cases hb : K.testBit i with
    | false => rw [if_pos (by decide), if_neg (fun q => by simp at q), oL_d, oL_d, p0, p1, nI_add, nI_add, Nat.add_zero]
    | true =>
      rw [if_neg (by decide)]
      cases hs1 : se i (c / 100) (c % 100) with
      | false => rw [if_pos (by decide), if_neg (fun q => by simp at q), oL_d, oL_d, p0, p1, nI_add, nI_add, Nat.add_zero]
      | true => rw [if_neg (by decide), if_pos ⟨rfl, rfl⟩, oL_d, oL_d, p1, nI_add, nI_add]
  · show fX9_tries_48 k98 (n + 1) (nI K) l3 l4 (nI c) (nI (gpK K (c / 100) (c % 100) N)) (nI N) h = _
    rw [fX9_tries_48, if_pos (by rw [hN]; decide)]
/-- by a code that tells no pull the count is of no use -/
theorem m_triesJ {K c : Nat} {h : AH} {l3 l4 : Int32} (hK : K < 64) (hc : c < 2000) (k98 : Int32 → Int32 → Int32 → Int32 → Int32 → AH → Option (Int32 × AH)) (v : Option (Int32 × AH)) (hv : ∀ x, k98 (nI K) l3 l4 (nI c) x h = v) (hs9 : ∀ i, i < 6 → ∃ b, fX9_seesAs (nI i) (nI (c / 100)) (nI (c % 100)) = some (bI b)) : fX9_tries_48 k98 FU (nI K) l3 l4 (nI c) (nI 0) (nI 0) h = v := by
  refine run_rel (fun n (s : Int32 × Int32) => fX9_tries_48 k98 n (nI K) l3 l4 (nI c) s.1 s.2 h) (fun i s => s.2 = nI i) 6 (fun r => r = v) ?_ ?_ (nI 0, nI 0) rfl FU (FU_lt (by omega))
  · rintro n i ⟨s1, s2⟩ hi i1
    simp only at i1
    subst i1
    obtain ⟨b, hb9⟩ := hs9 i hi
    show ∃ s' : Int32 × Int32, fX9_tries_48 k98 (n + 1) (nI K) l3 l4 (nI c) s1 (nI i) h = fX9_tries_48 k98 n (nI K) l3 l4 (nI c) s'.1 s'.2 h ∧ _
    rw [fX9_tries_48, if_neg (by rw [p6, p_le (by omega) (by omega)]; omega), m_has (by omega) (by omega), ob_s, p100, p_div (by omega) (by omega), p_rem (by omega) (by omega), hb9, ob_s]
    unfold fX9_tries_88 fX9_tries_89
    cases K.testBit i with
    | false => rw [if_pos (by decide), oL_d, oL_d, p1, nI_add]; exact ⟨(s1 + 0, nI (i + 1)), rfl, rfl⟩
    | true =>
      rw [if_neg (by decide)]
      cases b with
      | false => rw [if_pos (by decide), oL_d, oL_d, p1, nI_add]; exact ⟨(s1 + 0, nI (i + 1)), rfl, rfl⟩
      | true => rw [if_neg (by decide), oL_d, oL_d, p1, nI_add]; exact ⟨(s1 + nI 1, nI (i + 1)), rfl, rfl⟩
  · rintro n ⟨s1, s2⟩ i1
    simp only at i1
    subst i1
    show fX9_tries_48 k98 (n + 1) (nI K) l3 l4 (nI c) s1 (nI 6) h = v
    rw [fX9_tries_48, if_pos (by decide)]
    exact hv s1
theorem m_sees_any : ∀ k, k < 6 → ∀ f, f < 10 → ∀ p, p < 100 → fX9_seesAs (nI k) (nI f) (nI p) = some (bI (se k f p)) := by decide +kernel
theorem m_tries {K : Nat} {h : AH} (hK : K < 64) : fX9_tries_30 FU (nI K) (-1) (nI 1000000) (nI 0) h = some (if K = 0 then -1 else (fs (trV K) 41 1000000 1000).1, h) := by
  by_cases h0 : K = 0
  · rw [if_pos h0]
    refine run_loop (fun n (s : Int32) => fX9_tries_30 n (nI K) (-1) (nI 1000000) s h) (fun i => nI i) 0 _ (fun n i hi => by omega) (fun n => ?_) FU (FU_lt (by omega))
    show fX9_tries_30 (n + 1) (nI K) (-1) (nI 1000000) (nI 0) h = _
    rw [fX9_tries_30, if_neg (by decide), if_pos (by rw [h0]; decide)]
  · obtain ⟨N, hN⟩ : ∃ N : Nat, N = 941 := ⟨941, rfl⟩
    have eN : fs (trV K) 41 1000000 1000 = fs (trV K) 41 1000000 N := by
      rw [hN]
      exact (fs_next (by omega) 9).symm
    rw [if_neg h0, eN]
    have e941 : (941 : Int32) = nI 941 := by decide
    have eM : (1000000 : Int32) = nI 1000000 := by decide
    refine run_loop (fun n (s : Int32 × Int32 × Int32) => fX9_tries_30 n (nI K) s.1 s.2.1 s.2.2 h) (fun c => ((fs (trV K) 41 1000000 c).1, nI (fs (trV K) 41 1000000 c).2, nI c)) N _ (fun n c hc => ?_) (fun n => ?_) FU (FU_lt (by omega))
    · show fX9_tries_30 (n + 1) (nI K) (fs (trV K) 41 1000000 c).1 (nI (fs (trV K) 41 1000000 c).2) (nI c) h = fX9_tries_30 n (nI K) (fs (trV K) 41 1000000 (c + 1)).1 (nI (fs (trV K) 41 1000000 (c + 1)).2) (nI (c + 1)) h
      have hl := fs_le (F0 := 1000000) (trV_le (K := K)) c
      have fin : ∀ x, x ≤ 1000000 → fX9_tries_136 (fX9_tries_30 n) (nI K) (fs (trV K) 41 1000000 c).1 (nI (fs (trV K) 41 1000000 c).2) (nI c) (nI x) h = fX9_tries_30 n (nI K) (if x < (fs (trV K) 41 1000000 c).2 then nI c else (fs (trV K) 41 1000000 c).1) (nI (if x < (fs (trV K) 41 1000000 c).2 then x else (fs (trV K) 41 1000000 c).2)) (nI (c + 1)) h := by
        intro x hx
        unfold fX9_tries_136 fX9_tries_151 fX9_tries_166
        simp (disch := omega) only [p_le]
        by_cases q : (fs (trV K) 41 1000000 c).2 ≤ x
        · rw [if_pos q, if_pos q, if_neg (by omega), if_neg (by omega), oL_d, p1, nI_add]
        · rw [if_neg q, if_neg q, if_pos (by omega), if_pos (by omega), oL_d, p1, nI_add]
      rw [fX9_tries_30, e941, if_neg (by rw [p_le (by omega) (by omega)]; omega), if_neg (by rw [p0, p_le (by omega) (by omega)]; omega), p0]
      by_cases hp : c % 100 < 41
      · have h1 := gpK_le (K := K) (f := c / 100) (p := c % 100) 6
        have h2 := gpK_pc (K := K) (f := c / 100) (p := c % 100) 6
        have h3 := pc_le 6 K
        have h6 := gpV_le (K := K) (f := c / 100) (p := c % 100)
        have hgv : gpV K (c / 100) (c % 100) = max (gpK K (c / 100) (c % 100) 6) (pc 6 K - gpK K (c / 100) (c % 100) 6) := rfl
        rw [m_triesI hK (by omega) hp (by omega), m_bits6 hK, ob_s, oL_d, p100, p_rem (by omega) (by omega), if_pos (by rw [p40, p_le (by omega) (by omega)]; omega), p_sub h2, fs]
        have key : (if nI (gpK K (c / 100) (c % 100) 6) ≤ nI (pc 6 K - gpK K (c / 100) (c % 100) 6) then fX9_tries_136 (fX9_tries_30 n) (nI K) (fs (trV K) 41 1000000 c).1 (nI (fs (trV K) 41 1000000 c).2) (nI c) (nI (pc 6 K - gpK K (c / 100) (c % 100) 6)) h else fX9_tries_136 (fX9_tries_30 n) (nI K) (fs (trV K) 41 1000000 c).1 (nI (fs (trV K) 41 1000000 c).2) (nI c) (nI (gpK K (c / 100) (c % 100) 6)) h) = fX9_tries_136 (fX9_tries_30 n) (nI K) (fs (trV K) 41 1000000 c).1 (nI (fs (trV K) 41 1000000 c).2) (nI c) (nI (trV K c)) h := by
          by_cases q : gpK K (c / 100) (c % 100) 6 ≤ pc 6 K - gpK K (c / 100) (c % 100) 6
          · rw [if_pos (by rw [p_le (by omega) (by omega)]; exact q), show trV K c = pc 6 K - gpK K (c / 100) (c % 100) 6 by show gpV K (c / 100) (c % 100) = _; omega]
          · rw [if_neg (by rw [p_le (by omega) (by omega)]; exact q), show trV K c = gpK K (c / 100) (c % 100) 6 by show gpV K (c / 100) (c % 100) = _; omega]
        rw [key, fin _ (by have : trV K c ≤ 6 := h6; omega)]
        by_cases q : trV K c < (fs (trV K) 41 1000000 c).2
        · rw [if_pos q, if_pos q, if_pos ⟨hp, q⟩]
        · rw [if_neg q, if_neg q, if_neg (fun r => q r.2)]
      · have e1 : fs (trV K) 41 1000000 (c + 1) = fs (trV K) 41 1000000 c := by rw [fs, if_neg (fun r => hp r.1)]
        rw [e1]
        refine m_triesJ hK (by omega) _ _ (fun x => ?_) (fun i hi => ⟨_, m_sees_any i hi (c / 100) (by omega) (c % 100) (by omega)⟩)
        show (ob (fX9_bits (nI K)) _) = _
        rw [m_bits6 hK, ob_s, oL_d, p100, p_rem (by omega) (by omega), if_neg (by rw [p40, p_le (by omega) (by omega)]; omega), eM, fin _ (by omega), if_neg (by omega), if_neg (by omega)]
    · show fX9_tries_30 (n + 1) (nI K) (fs (trV K) 41 1000000 N).1 (nI (fs (trV K) 41 1000000 N).2) (nI N) h = _
      rw [fX9_tries_30, if_pos (by rw [hN]; decide)]
theorem op_tries : OP_tries RR := by
  rintro a1 h ⟨S, hW, hC, hM⟩
  have hT := hW.1
  have n0 := (wf_cnt hT).2.1.2
  refine GO.out (S := S) (f9 := fun h1 => fX9_tries 262 a1 h1) ?_
  unfold fX8_tries fX9_tries
  simp only [z00, z10]
  refine GO.chk (c_hasWatcher hT (show 46 ≤ 304 by omega) hC.1.1) (fun h1 hM1 => m_isWatcher hM1 hW) (fun _ => GO.bad hW hC hM (fun h1 q => rf8 q) (fun h1 => rfl)) (fun b1 => ?_)
  obtain ⟨s, rfl, hs1⟩ := hs_nI (by omega) b1
  have hK := (kL_is (ap := apM (sT S) s) (ok := okM (sT S)) (tn (sT S) 4)).1
  refine GO.ask hW hC hM _ ⟨h, by rw [c_marks hT (hC.1.shR 2 (by omega)) (show s < 6 by omega), ob_s, p7, p0, c_tries hK], EqQ.rf⟩ (fun h1 hM1 => ⟨h1, ?_, hM1, Eqs.rf⟩)
  show ob (fX9_kindsOfWatcher 262 (nI s) h1) _ = _
  have eM : (1000000 : Int32) = nI 1000000 := by decide
  rw [m_marks hM1 hW (show s < 6 by omega), ob_s, eM, p0, m_tries hK, show fs (trV (kL (apM (sT S) s) (okM (sT S)) (tn (sT S) 4))) 41 1000000 1000 = fs (trV (kL (apM (sT S) s) (okM (sT S)) (tn (sT S) 4))) 41 7 1000 from (fs_same (by omega) trV_le 999).symm]
