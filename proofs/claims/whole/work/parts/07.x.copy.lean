/-! PURE: what is changed, and where; a land copied -/
theorem oG_T {α : Type} {t : Option α} : oG true t = t := by unfold oG; rw [if_pos rfl]
theorem ob_S {α β : Type} {a : α} {f : α → Option β} : ob (some a) f = f a := by unfold ob; exact Eq.refl _
theorem oL_D {α β : Type} {a : α} {f : α → β} : oL a f = f a := by unfold oL; exact Eq.refl _
theorem ob2_S {α γ β : Type} {a : α} {c : γ} {f : α → γ → Option β} : ob2 (some (a, c)) f = f a c := by unfold ob2; exact Eq.refl _
theorem run_ex {σ β : Type} (F : Nat → σ → Option β) (I : Nat → σ → Prop) (N : Nat) (Q : β → Prop) (hs : ∀ n i s, i < N → I i s → ∃ s', F (n + 1) s = F n s' ∧ I (i + 1) s') (he : ∀ n s, I N s → ∃ b, F (n + 1) s = some b ∧ Q b) : ∀ s, I 0 s → ∀ n, N < n → ∃ b, F n s = some b ∧ Q b := run_rel F I N (fun r => ∃ b, r = some b ∧ Q b) hs he
theorem run_ex2 {σ β : Type} {α : Type} (F : Nat → σ → Option (α × β)) (I : Nat → σ → Prop) (N : Nat) (v : α) (Q : β → Prop) (hs : ∀ n i s, i < N → I i s → ∃ s', F (n + 1) s = F n s' ∧ I (i + 1) s') (he : ∀ n s, I N s → ∃ b, F (n + 1) s = some (v, b) ∧ Q b) : ∀ s, I 0 s → ∀ n, N < n → ∃ b, F n s = some (v, b) ∧ Q b := run_rel F I N (fun r => ∃ b, r = some (v, b) ∧ Q b) hs he
def EqO (lo hi x : Nat) (h h' : AH) : Prop := (∀ a b, (a < lo ∨ hi < a) → a ≠ x → hI h' a b = hI h a b) ∧ (∀ a b, hJ h' a b = hJ h a b) ∧ ∀ a b, hQ h' a b = hQ h a b
section EQO
variable {lo hi x : Nat} {h h' h'' : AH}
theorem EqO.rf : EqO lo hi x h h := ⟨fun _ _ _ _ => rfl, fun _ _ => rfl, fun _ _ => rfl⟩
theorem EqO.tr (a : EqO lo hi x h h') (b : EqO lo hi x h' h'') : EqO lo hi x h h'' := ⟨fun c d q r => (b.1 c d q r).trans (a.1 c d q r), fun c d => (b.2.1 c d).trans (a.2.1 c d), fun c d => (b.2.2 c d).trans (a.2.2 c d)⟩
theorem EqO.sI {o k : Nat} {v : Int32} (ho : (lo ≤ o ∧ o ≤ hi) ∨ o = x) : EqO lo hi x h (sI h o k v) := ⟨fun a b q r => sI_o (by omega), fun _ _ => rfl, fun _ _ => rfl⟩
theorem EqO.row {o n : Nat} {f : Nat → Int32} (ho : (lo ≤ o ∧ o ≤ hi) ∨ o = x) : EqO lo hi x h (rowS h o f n) := ⟨fun a b q r => rowS_n (by omega), fun _ _ => rfl, fun _ _ => rfl⟩
theorem EqO.wd {lo' hi' x' : Nat} (a : EqO lo hi x h h') (h1 : lo' ≤ lo) (h2 : hi ≤ hi') (h3 : x = x' ∨ (lo' ≤ x ∧ x ≤ hi')) : EqO lo' hi' x' h h' := ⟨fun c d q r => a.1 c d (by omega) (by omega), a.2.1, a.2.2⟩
theorem EqO.eqs (a : EqO lo hi x h h') {l r : Nat} (h1 : r < lo ∨ hi < l) (h2 : x < l ∨ r < x) : Eqs l r h h' := fun o q1 q2 k => ⟨a.1 o k (by omega) (by omega), a.2.1 o k, a.2.2 o k⟩
end EQO
theorem run_cnt {β : Type} (F : Nat → Int32 → AH → Option β) (I : Nat → AH → Prop) (N : Nat) (Q : β → Prop) (hs : ∀ n i h, i < N → I i h → ∃ h', F (n + 1) (nI i) h = F n (nI (i + 1)) h' ∧ I (i + 1) h') (he : ∀ n h, I N h → ∃ b, F (n + 1) (nI N) h = some b ∧ Q b) : ∀ h, I 0 h → ∀ n, N < n → ∃ b, F n (nI 0) h = some b ∧ Q b := by
  intro h h0 n hn
  refine run_ex (fun n (x : Int32 × AH) => F n x.1 x.2) (fun i x => x.1 = nI i ∧ I i x.2) N Q ?_ ?_ (nI 0, h) ⟨rfl, h0⟩ n hn
  · rintro n i ⟨s1, hh⟩ hi ⟨i1, i2⟩
    obtain ⟨h', r1, r2⟩ := hs n i hh hi i2
    refine ⟨(nI (i + 1), h'), ?_, rfl, r2⟩
    rw [← r1]
    exact congrArg (fun c => F (n + 1) c hh) i1
  · rintro n ⟨s1, hh⟩ ⟨i1, i2⟩
    obtain ⟨b, r1, r2⟩ := he n hh i2
    exact ⟨b, by rw [← r1]; exact congrArg (fun c => F (n + 1) c hh) i1, r2⟩
theorem run_cnt2 {α β : Type} (F : Nat → Int32 → AH → Option (α × β)) (I : Nat → AH → Prop) (N : Nat) (v : α) (Q : β → Prop) (hs : ∀ n i h, i < N → I i h → ∃ h', F (n + 1) (nI i) h = F n (nI (i + 1)) h' ∧ I (i + 1) h') (he : ∀ n h, I N h → ∃ b, F (n + 1) (nI N) h = some (v, b) ∧ Q b) : ∀ h, I 0 h → ∀ n, N < n → ∃ b, F n (nI 0) h = some (v, b) ∧ Q b := by
  intro h h0 n hn
  obtain ⟨b, r1, c, rfl, r2⟩ := run_cnt F I N (fun x => ∃ b, x = (v, b) ∧ Q b) hs (fun n h q => by
    obtain ⟨b, r1, r2⟩ := he n h q
    exact ⟨(v, b), r1, b, rfl, r2⟩) h h0 n hn
  exact ⟨c, r1, r2⟩
theorem c_copy98 {d s : Nat} {T : Nat → Int32} {h g : AH} (hd : KD d = 1) (hR : LaR s T h) (w1 : T 1 = nI (tn T 1) ∧ tn T 1 ≤ 6) (hds : d + 7 < s ∨ s + 7 < d) (h3 : hI g d 3 = T 1) (he : EqO d (d + 7) d h g) : ∃ g', fX2_copyOf_98 FU d s (nI 0) g = some g' ∧ EqO (d + 5) (d + 7) (d + 7) g g' ∧ ∀ w, w < tn T 1 → hI g' (d + 5) w = T (40 + w) ∧ hI g' (d + 6) w = T (19 + w) ∧ hI g' (d + 7) w = T (6 + w) := by
  obtain ⟨hk, -, -, -, -, -, hw⟩ := hR
  obtain ⟨-, -, -, -, u8, u9, u10⟩ := pcs hk
  obtain ⟨-, -, -, -, v8, v9, v10⟩ := pcs hd
  have zs8 : SZ (s + 5) = 6 := by rw [← u8]; exact sz_X2_8 hk
  have zs9 : SZ (s + 6) = 6 := by rw [← u9]; exact sz_X2_9 hk
  have zs10 : SZ (s + 7) = 6 := by rw [← u10]; exact sz_X2_10 hk
  have zd8 : SZ (d + 5) = 6 := by rw [← v8]; exact sz_X2_8 hd
  have zd9 : SZ (d + 6) = 6 := by rw [← v9]; exact sz_X2_9 hd
  have zd10 : SZ (d + 7) = 6 := by rw [← v10]; exact sz_X2_10 hd
  refine run_cnt (fun n (c0 : Int32) (x : AH) => fX2_copyOf_98 n d s c0 x) (fun i x => EqO (d + 5) (d + 7) (d + 7) g x ∧ ∀ w, w < i → hI x (d + 5) w = T (40 + w) ∧ hI x (d + 6) w = T (19 + w) ∧ hI x (d + 7) w = T (6 + w)) (tn T 1) _ ?_ ?_ g ⟨EqO.rf, fun w q => by omega⟩ FU (FU_lt (by omega))
  · rintro n i hh hi ⟨iE, iW⟩
    have e3 : hI hh d 3 = nI (tn T 1) := by rw [iE.1 d 3 (by omega) (by omega), h3, w1.1]
    obtain ⟨f1, f2, f3⟩ := hw i hi
    rw [u8] at f1; rw [u9] at f2; rw [u10] at f3
    have g1 : hI hh (s + 5) i = T (40 + i) := by rw [iE.1 _ _ (by omega) (by omega), he.1 _ _ (by omega) (by omega), f1]
    have g2 : hI hh (s + 6) i = T (19 + i) := by rw [iE.1 _ _ (by omega) (by omega), he.1 _ _ (by omega) (by omega), f2]
    have g3 : hI hh (s + 7) i = T (6 + i) := by rw [iE.1 _ _ (by omega) (by omega), he.1 _ _ (by omega) (by omega), f3]
    show ∃ s' : AH, fX2_copyOf_98 (n + 1) d s (nI i) hh = fX2_copyOf_98 n d s (nI (i + 1)) s' ∧ _
    rw [fX2_copyOf_98, e3, if_neg (by rw [p_le (by omega) (by omega)]; omega)]
    simp (disch := omega) only [u8, u9, u10, v8, v9, v10, zs8, zs9, zs10, zd8, zd9, zd10, p0, p1, p2, p3, p4, p5, p6, p7, p8, p9, p10, p11, p12, p14, p19, p23, p24, p25, p29, p30, p31, p35, p40, p46, p58, p60, p88, p99, p100, p112, p150, p9999, nI_add, nI_mul, ix_nI, p_sub, p_div, p_rem, p_shl, p_shr, p_and, p_or, inb_nI, decide_eq_true, oG_t, oL_d, sI_o, g1, g2, g3]
    refine ⟨_, rfl, iE.tr ((EqO.sI (by omega)).tr ((EqO.sI (by omega)).tr (EqO.sI (by omega)))), fun w q => ?_⟩
    by_cases e : w = i
    · subst e
      simp (disch := omega) only [sI_o, sI_e, and_self]
    · simp (disch := omega) only [sI_n]
      exact iW w (by omega)
  · rintro n hh ⟨iE, iW⟩
    have e3 : hI hh d 3 = nI (tn T 1) := by rw [iE.1 d 3 (by omega) (by omega), h3, w1.1]
    refine ⟨hh, ?_, iE, iW⟩
    show fX2_copyOf_98 (n + 1) d s (nI (tn T 1)) hh = _
    rw [fX2_copyOf_98, e3, if_pos (by rw [p_le (by omega) (by omega)]; exact Nat.le_refl _)]
theorem c_copy34 {d s : Nat} {T : Nat → Int32} {h g : AH} (hd : KD d = 1) (hR : LaR s T h) (w0 : T 0 = nI (tn T 0) ∧ tn T 0 ≤ 5) (w1 : T 1 = nI (tn T 1) ∧ tn T 1 ≤ 6) (hds : d + 7 < s ∨ s + 7 < d) (h0 : hI g d 0 = T 13) (h1 : hI g d 1 = T 12) (h2 : hI g d 2 = T 0) (h3 : hI g d 3 = T 1) (he : EqO d (d + 7) d h g) : ∃ g', fX2_copyOf_34 FU d s (nI 0) g = some g' ∧ LaR d T g' ∧ EqO d (d + 7) d h g' := by
  have hR0 := hR
  obtain ⟨hk, -, -, -, -, hsh, -⟩ := hR
  obtain ⟨u4, u5, u6, u7, -, -, -⟩ := pcs hk
  obtain ⟨v4, v5, v6, v7, v8, v9, v10⟩ := pcs hd
  have zs4 : SZ (s + 1) = 5 := by rw [← u4]; exact sz_X2_4 hk
  have zs5 : SZ (s + 2) = 5 := by rw [← u5]; exact sz_X2_5 hk
  have zs6 : SZ (s + 3) = 5 := by rw [← u6]; exact sz_X2_6 hk
  have zs7 : SZ (s + 4) = 5 := by rw [← u7]; exact sz_X2_7 hk
  have zd4 : SZ (d + 1) = 5 := by rw [← v4]; exact sz_X2_4 hd
  have zd5 : SZ (d + 2) = 5 := by rw [← v5]; exact sz_X2_5 hd
  have zd6 : SZ (d + 3) = 5 := by rw [← v6]; exact sz_X2_6 hd
  have zd7 : SZ (d + 4) = 5 := by rw [← v7]; exact sz_X2_7 hd
  refine run_cnt (fun n (c0 : Int32) (x : AH) => fX2_copyOf_34 n d s c0 x) (fun i x => EqO (d + 1) (d + 4) (d + 4) g x ∧ ∀ w, w < i → hI x (d + 1) w = T (30 + w) ∧ hI x (d + 2) w = T (14 + w) ∧ hI x (d + 3) w = T (35 + w) ∧ hI x (d + 4) w = T (25 + w)) (tn T 0) _ ?_ ?_ g ⟨EqO.rf, fun w q => by omega⟩ FU (FU_lt (by omega))
  · rintro n i hh hi ⟨iE, iW⟩
    have e3 : hI hh d 2 = nI (tn T 0) := by rw [iE.1 d 2 (by omega) (by omega), h2, w0.1]
    obtain ⟨f1, f2, f3, f4⟩ := hsh i hi
    rw [u4] at f1; rw [u5] at f2; rw [u6] at f3; rw [u7] at f4
    have g1 : hI hh (s + 1) i = T (30 + i) := by rw [iE.1 _ _ (by omega) (by omega), he.1 _ _ (by omega) (by omega), f1]
    have g2 : hI hh (s + 2) i = T (14 + i) := by rw [iE.1 _ _ (by omega) (by omega), he.1 _ _ (by omega) (by omega), f2]
    have g3 : hI hh (s + 3) i = T (35 + i) := by rw [iE.1 _ _ (by omega) (by omega), he.1 _ _ (by omega) (by omega), f3]
    have g4 : hI hh (s + 4) i = T (25 + i) := by rw [iE.1 _ _ (by omega) (by omega), he.1 _ _ (by omega) (by omega), f4]
    show ∃ s' : AH, fX2_copyOf_34 (n + 1) d s (nI i) hh = fX2_copyOf_34 n d s (nI (i + 1)) s' ∧ _
    rw [fX2_copyOf_34, e3, if_neg (by rw [p_le (by omega) (by omega)]; omega)]
    simp (disch := omega) only [u4, u5, u6, u7, v4, v5, v6, v7, zs4, zs5, zs6, zs7, zd4, zd5, zd6, zd7, p0, p1, p2, p3, p4, p5, p6, p7, p8, p9, p10, p11, p12, p14, p19, p23, p24, p25, p29, p30, p31, p35, p40, p46, p58, p60, p88, p99, p100, p112, p150, p9999, nI_add, nI_mul, ix_nI, p_sub, p_div, p_rem, p_shl, p_shr, p_and, p_or, inb_nI, decide_eq_true, oG_t, oL_d, sI_o, g1, g2, g3, g4]
    refine ⟨_, rfl, iE.tr ((EqO.sI (by omega)).tr ((EqO.sI (by omega)).tr ((EqO.sI (by omega)).tr (EqO.sI (by omega))))), fun w q => ?_⟩
    by_cases e : w = i
    · subst e
      simp (disch := omega) only [sI_o, sI_e, and_self]
    · simp (disch := omega) only [sI_n]
      exact iW w (by omega)
  · rintro n hh ⟨iE, iW⟩
    have e3 : hI hh d 2 = nI (tn T 0) := by rw [iE.1 d 2 (by omega) (by omega), h2, w0.1]
    have he2 : EqO d (d + 7) d h hh := he.tr (iE.wd (by omega) (by omega) (by omega))
    obtain ⟨g', r1, r2, r3⟩ := c_copy98 hd hR0 w1 hds (by rw [iE.1 d 3 (by omega) (by omega), h3]) he2
    refine ⟨g', ?_, ⟨hd, ?_, ?_, ?_, ?_, fun w q => ?_, fun w q => ?_⟩, he2.tr (r2.wd (by omega) (by omega) (by omega))⟩
    · show fX2_copyOf_34 (n + 1) d s (nI (tn T 0)) hh = _
      rw [fX2_copyOf_34, e3, if_pos (by rw [p_le (by omega) (by omega)]; exact Nat.le_refl _)]
      exact r1
    · rw [r2.1 _ _ (by omega) (by omega), iE.1 _ _ (by omega) (by omega)]; exact h0
    · rw [r2.1 _ _ (by omega) (by omega), iE.1 _ _ (by omega) (by omega)]; exact h1
    · rw [r2.1 _ _ (by omega) (by omega), iE.1 _ _ (by omega) (by omega)]; exact h2
    · rw [r2.1 _ _ (by omega) (by omega), iE.1 _ _ (by omega) (by omega)]; exact h3
    · rw [v4, v5, v6, v7, r2.1 _ _ (by omega) (by omega), r2.1 _ _ (by omega) (by omega), r2.1 _ _ (by omega) (by omega), r2.1 _ _ (by omega) (by omega)]
      exact iW w q
    · rw [v8, v9, v10]
      exact r3 w q
theorem c_copy {d s : Nat} {T : Nat → Int32} {h : AH} (hd : KD d = 1) (hR : LaR s T h) (w0 : T 0 = nI (tn T 0) ∧ tn T 0 ≤ 5) (w1 : T 1 = nI (tn T 1) ∧ tn T 1 ≤ 6) (hds : d + 7 < s ∨ s + 7 < d) : ∃ g', fX2_copyOf d s h = some g' ∧ LaR d T g' ∧ EqO d (d + 7) d h g' := by
  have hR0 := hR
  obtain ⟨hk, a0, a1, a2, a3, -, -⟩ := hR
  unfold fX2_copyOf
  simp (disch := omega) only [oL_d, sI_o, a0, a1, a2, a3, p0]
  refine c_copy34 hd hR0 w0 w1 hds ?_ ?_ ?_ ?_ ((EqO.sI (by omega)).tr ((EqO.sI (by omega)).tr ((EqO.sI (by omega)).tr (EqO.sI (by omega)))))
  · rw [sI_n (by omega), sI_n (by omega), sI_n (by omega), sI_e]
  · rw [sI_n (by omega), sI_n (by omega), sI_e]
  · rw [sI_n (by omega), sI_e]
  · rw [sI_e]
