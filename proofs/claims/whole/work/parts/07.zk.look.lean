/-! PURE: look -/
def lkA (K l f t a : Nat) : Nat → Nat
  | 0 => 0
  | b + 1 => if K.testBit a = true ∧ K.testBit b = true ∧ pl b l f t = pl a l f t then lkA K l f t a b + 1 else lkA K l f t a b
def lkM (K l f t : Nat) : Nat → Nat
  | 0 => 0
  | a + 1 => max (lkM K l f t a) (lkA K l f t a 6)
theorem lkA_le {K l f t a : Nat} : ∀ n, lkA K l f t a n ≤ n := by
  intro n
  induction n with
  | zero => exact Nat.le_refl _
  | succ n ih => unfold lkA; split <;> omega
theorem lkA_0 {K l f t a : Nat} (h : K.testBit a = false) : ∀ n, lkA K l f t a n = 0 := by
  intro n
  induction n with
  | zero => rfl
  | succ n ih => unfold lkA; rw [if_neg (fun q => by rw [h] at q; exact absurd q.1 (by decide)), ih]
theorem lkM_le {K l f t : Nat} : ∀ n, lkM K l f t n ≤ 6 := by
  intro n
  induction n with
  | zero => exact Nat.zero_le _
  | succ n ih =>
    have := lkA_le (K := K) (l := l) (f := f) (t := t) (a := n) 6
    unfold lkM
    omega
def lkV (K l c : Nat) : Nat := lkM K l (c % 100) (c / 100) 6
theorem lkV_le {K l : Nat} : ∀ c, c % 100 < 10 → lkV K l c ≤ 6 := fun c _ => lkM_le 6
theorem lk_bits : ∀ K, K < 64 → ∀ a, a < 6 → ∀ b, b < 6 → ((((jshr (nI K) (nI a)) &&& (jshr (nI K) (nI b))) &&& nI 1 = nI 1) ↔ (K.testBit a = true ∧ K.testBit b = true)) := by decide +kernel
theorem z07 : PC 0 7 = 99 := rfl
theorem z99s : SZ 99 = 6 := rfl
theorem c_alike {K l f t a : Nat} {m : Int32} {h : AH} (hK : K < 64) (hl : l < 10) (hf : f < 10) (ht : t < 12) (ha : a < 6) (hp : ∀ k, k < 6 → hI h 99 k = nI (pl k l f t)) (k99 : Nat → Int32 → Int32 → Int32 → Int32 → AH → Option (Int32 × AH)) : fX8_mostAlike_51 k99 FU 0 (nI K) m (nI a) (nI 0) (nI 0) h = k99 0 (nI K) m (nI a) (nI (lkA K l f t a 6)) h := by
  obtain ⟨N, hN⟩ : ∃ N : Nat, N = 6 := ⟨6, rfl⟩
  rw [← hN]
  refine run_loop (fun n (s : Int32 × Int32) => fX8_mostAlike_51 k99 n 0 (nI K) m (nI a) s.1 s.2 h) (fun i => (nI (lkA K l f t a i), nI i)) N _ (fun n b hb => ?_) (fun n => ?_) FU (FU_lt (by omega))
  · show fX8_mostAlike_51 k99 (n + 1) 0 (nI K) m (nI a) (nI (lkA K l f t a b)) (nI b) h = fX8_mostAlike_51 k99 n 0 (nI K) m (nI a) (nI (lkA K l f t a (b + 1))) (nI (b + 1)) h
    have hb6 : b < 6 := by omega
    have g1 := pl_le a ha l hl f hf t ht
    have g2 := pl_le b hb6 l hl f hf t ht
    have e1 := hp a ha
    have e2 := hp b hb6
    rw [fX8_mostAlike_51, if_neg (by rw [p6, p_le (by omega) (by omega)]; omega), lkA]
    by_cases q : K.testBit a = true ∧ K.testBit b = true
    · rw [if_pos (by rw [p1]; exact (lk_bits K hK a ha b hb6).mpr q)]
      simp (disch := omega) only [z07, z99s, p0, p1, p2, p3, p4, p5, p6, p7, p8, p9, p10, p11, p12, p14, p19, p23, p24, p25, p29, p30, p31, p35, p40, p46, p58, p60, p88, p99, p100, p112, p150, p9999, nI_add, nI_mul, ix_nI, p_sub, p_div, p_rem, p_shl, p_shr, p_and, p_or, inb_nI, decide_eq_true, oG_t, oL_d, e1, e2, p_eq]
      by_cases r : pl b l f t = pl a l f t
      · rw [if_pos r.symm, if_pos ⟨q.1, q.2, r⟩]
      · rw [if_neg (fun x => r x.symm), if_neg (fun x => r x.2.2)]
    · rw [if_neg (by rw [p1]; exact fun x => q ((lk_bits K hK a ha b hb6).mp x)), if_neg (fun x => q ⟨x.1, x.2.1⟩), oL_d, p1, nI_add]
  · show fX8_mostAlike_51 k99 (n + 1) 0 (nI K) m (nI a) (nI (lkA K l f t a N)) (nI N) h = _
    rw [fX8_mostAlike_51, if_pos (by rw [hN]; decide)]
theorem c_most {K l f t : Nat} {h : AH} (hK : K < 64) (hl : l < 10) (hf : f < 10) (ht : t < 12) : fX8_mostAlike 0 (nI K) (nI l) (nI f) (nI t) h = some (nI (lkM K l f t 6), rowS h 99 (fun k => nI (pl k l f t)) 6) := by
  have h2 : fX8_mostAlike_32 0 (nI K) (rowS h 99 (fun k => nI (pl k l f t)) 6) = some (nI (lkM K l f t 6), rowS h 99 (fun k => nI (pl k l f t)) 6) := by
    have hp : ∀ k, k < 6 → hI (rowS h 99 (fun k => nI (pl k l f t)) 6) 99 k = nI (pl k l f t) := fun k hk => rowS_i (f := fun k => nI (pl k l f t)) hk
    generalize rowS h 99 (fun k => nI (pl k l f t)) 6 = g at hp ⊢
    unfold fX8_mostAlike_32
    rw [p0]
    obtain ⟨N, hN⟩ : ∃ N : Nat, N = 6 := ⟨6, rfl⟩
    rw [← hN]
    refine run_loop (fun n (s : Int32 × Int32) => fX8_mostAlike_38 n 0 (nI K) s.1 s.2 g) (fun a => (nI (lkM K l f t a), nI a)) N _ (fun n a ha => ?_) (fun n => ?_) FU (FU_lt (by omega))
    · show fX8_mostAlike_38 (n + 1) 0 (nI K) (nI (lkM K l f t a)) (nI a) g = fX8_mostAlike_38 n 0 (nI K) (nI (lkM K l f t (a + 1))) (nI (a + 1)) g
      have h1 := lkM_le (K := K) (l := l) (f := f) (t := t) a
      have h3 := lkA_le (K := K) (l := l) (f := f) (t := t) (a := a) 6
      rw [fX8_mostAlike_38, if_neg (by rw [p6, p_le (by omega) (by omega)]; omega), p0, c_alike hK hl hf ht (by omega) hp, oL_d, oL_d, c_max _ _ (by omega) (by omega), p1, nI_add, lkM]
    · show fX8_mostAlike_38 (n + 1) 0 (nI K) (nI (lkM K l f t N)) (nI N) g = _
      rw [fX8_mostAlike_38, if_pos (by rw [hN]; decide)]
  unfold fX8_mostAlike
  suffices hl2 : fX8_mostAlike_3 FU 0 (nI K) (nI l) (nI f) (nI t) (nI 0) (rowS h 99 (fun k => nI (pl k l f t)) 0) = some (nI (lkM K l f t 6), rowS h 99 (fun k => nI (pl k l f t)) 6) by
    rw [rowS_0] at hl2
    exact hl2
  refine run_loop (fun n (x : Int32 × AH) => fX8_mostAlike_3 n 0 (nI K) (nI l) (nI f) (nI t) x.1 x.2) (fun i => (nI i, rowS h 99 (fun k => nI (pl k l f t)) i)) 6 _ (fun n i hi => ?_) (fun n => ?_) FU (FU_lt (by omega))
  · show fX8_mostAlike_3 (n + 1) 0 (nI K) (nI l) (nI f) (nI t) (nI i) (rowS h 99 (fun k => nI (pl k l f t)) i) = fX8_mostAlike_3 n 0 (nI K) (nI l) (nI f) (nI t) (nI (i + 1)) (rowS h 99 (fun k => nI (pl k l f t)) (i + 1))
    rw [fX8_mostAlike_3, if_neg (by rw [p6, p_le (by omega) (by omega)]; omega), c_pull i hi l hl f hf t ht, ob_s, z07, z99s, inb_nI (by omega), oG_d (by omega), oL_d, oL_d, ix_nI (by omega), p1, nI_add, rowS_s (f := fun k => nI (pl k l f t))]
  · show fX8_mostAlike_3 (n + 1) 0 (nI K) (nI l) (nI f) (nI t) (nI 6) (rowS h 99 (fun k => nI (pl k l f t)) 6) = _
    rw [fX8_mostAlike_3, if_pos (by decide)]
    exact h2
theorem c_lookI {T : Nat → Int32} {K s t : Nat} {h : AH} (hT : WfU T 304) (hR : LaR 2 T h) (hs1 : s < tn T 0) (hK : K < 64) (ht : t < 12) (k106 : Nat → Int32 → Int32 → Int32 → Int32 → Int32 → AH → Option (Int32 × AH)) : ∃ h1, fX8_look_50 k106 FU 0 (nI s) (nI K) (fs (lkV K (tn T (35 + s))) 10 7 (100 * t)).1 (nI (fs (lkV K (tn T (35 + s))) 10 7 (100 * t)).2) (nI t) (nI 0) h = k106 0 (nI s) (nI K) (fs (lkV K (tn T (35 + s))) 10 7 (100 * (t + 1))).1 (nI (fs (lkV K (tn T (35 + s))) 10 7 (100 * (t + 1))).2) (nI t) h1 ∧ EqQ h h1 := by
  have n0 := (wf_0 hT (by omega)).2
  obtain ⟨-, -, -, ⟨a4, b4⟩⟩ := wf_s hT (by omega) (show s < 5 by omega)
  have zz : SZ (PC 2 6) = 5 := rfl
  obtain ⟨L, hL⟩ : ∃ L : Nat, L = tn T (35 + s) := ⟨_, rfl⟩
  rw [← hL] at a4 b4
  rw [← fs_next (by omega) t, ← hL]
  refine run_rel (fun n (x : Int32 × Int32 × Int32 × AH) => fX8_look_50 k106 n 0 (nI s) (nI K) x.1 x.2.1 (nI t) x.2.2.1 x.2.2.2) (fun f x => x.1 = (fs (lkV K L) 10 7 (100 * t + f)).1 ∧ x.2.1 = nI (fs (lkV K L) 10 7 (100 * t + f)).2 ∧ x.2.2.1 = nI f ∧ EqQ h x.2.2.2) 10 (fun r => ∃ h1, r = k106 0 (nI s) (nI K) (fs (lkV K L) 10 7 (100 * t + 10)).1 (nI (fs (lkV K L) 10 7 (100 * t + 10)).2) (nI t) h1 ∧ EqQ h h1) ?_ ?_ ((fs (lkV K L) 10 7 (100 * t)).1, nI (fs (lkV K L) 10 7 (100 * t)).2, nI 0, h) ⟨rfl, rfl, rfl, EqQ.rf⟩ FU (FU_lt (by omega))
  · rintro n f ⟨s1, s2, s3, hh⟩ hf ⟨i1, i2, i3, iq⟩
    simp only at i1 i2 i3 iq
    subst i1; subst i2; subst i3
    have hLa : LaR 2 T hh := hR.eqs (iq.eqs (by omega))
    obtain ⟨-, -, f3, -⟩ := hLa.2.2.2.2.2.1 s hs1
    have hle := fs_le (F0 := 7) (lkV_le (K := K) (l := L)) (100 * t + f)
    have hv : lkV K L (100 * t + f) = lkM K L f t 6 := by
      unfold lkV
      rw [show (100 * t + f) / 100 = t by omega, show (100 * t + f) % 100 = f by omega]
    have h6 := lkM_le (K := K) (l := L) (f := f) (t := t) 6
    refine ⟨((fs (lkV K L) 10 7 (100 * t + (f + 1))).1, nI (fs (lkV K L) 10 7 (100 * t + (f + 1))).2, nI (f + 1), rowS hh 99 (fun k => nI (pl k L f t)) 6), ?_, rfl, rfl, rfl, iq.tr (EqQ.row (by omega) (by omega) (by omega) (by omega))⟩
    show fX8_look_50 k106 (n + 1) 0 (nI s) (nI K) (fs (lkV K L) 10 7 (100 * t + f)).1 (nI (fs (lkV K L) 10 7 (100 * t + f)).2) (nI t) (nI f) hh = fX8_look_50 k106 n 0 (nI s) (nI K) (fs (lkV K L) 10 7 (100 * t + (f + 1))).1 (nI (fs (lkV K L) 10 7 (100 * t + (f + 1))).2) (nI t) (nI (f + 1)) _
    rw [fX8_look_50, if_neg (by rw [p9, p_lt (by omega) (by omega)]; omega), z00, z10, zz, inb_nI (by omega), oG_d (by omega), ix_nI (by omega), f3, a4, c_most hK b4 hf ht, ob2_s, show 100 * t + (f + 1) = 100 * t + f + 1 by omega, fs, hv]
    by_cases q : (fs (lkV K L) 10 7 (100 * t + f)).2 ≤ lkM K L f t 6
    · rw [if_pos (by rw [p_le (by omega) (by omega)]; exact q), if_neg (fun r => by omega), oL_d, p1, nI_add]
    · rw [if_neg (by rw [p_le (by omega) (by omega)]; exact q), if_pos ⟨by omega, by omega⟩, oL_d, oL_d, p100, p1, nI_mul, nI_add, nI_add]
  · rintro n ⟨s1, s2, s3, hh⟩ ⟨i1, i2, i3, iq⟩
    simp only at i1 i2 i3 iq
    refine ⟨hh, ?_, iq⟩
    show fX8_look_50 k106 (n + 1) 0 (nI s) (nI K) s1 s2 (nI t) s3 hh = _
    rw [i1, i2, i3, fX8_look_50, if_pos (by decide)]
theorem c_look {T : Nat → Int32} {K s : Nat} {h : AH} (hT : WfU T 304) (hR : LaR 2 T h) (hs1 : s < tn T 0) (hK : K < 64) : ∃ h1, fX8_look_36 FU 0 (nI s) (nI K) (-1) (nI 7) (nI 0) h = some (if K = 0 then -1 else (fs (lkV K (tn T (35 + s))) 10 7 1200).1, h1) ∧ EqQ h h1 := by
  by_cases h0 : K = 0
  · rw [if_pos h0]
    refine ⟨h, ?_, EqQ.rf⟩
    refine run_loop (fun n (x : Int32) => fX8_look_36 n 0 (nI s) (nI K) (-1) (nI 7) x h) (fun i => nI i) 0 _ (fun n i hi => by omega) (fun n => ?_) FU (FU_lt (by omega))
    show fX8_look_36 (n + 1) 0 (nI s) (nI K) (-1) (nI 7) (nI 0) h = _
    rw [fX8_look_36, if_pos (by rw [h0]; decide)]
  · obtain ⟨N, hN⟩ : ∃ N : Nat, N = 12 := ⟨12, rfl⟩
    rw [if_neg h0, show fs (lkV K (tn T (35 + s))) 10 7 1200 = fs (lkV K (tn T (35 + s))) 10 7 (100 * N) by rw [hN]]
    refine run_ex2 (fun n (x : Int32 × Int32 × Int32 × AH) => fX8_look_36 n 0 (nI s) (nI K) x.1 x.2.1 x.2.2.1 x.2.2.2) (fun t x => x.1 = (fs (lkV K (tn T (35 + s))) 10 7 (100 * t)).1 ∧ x.2.1 = nI (fs (lkV K (tn T (35 + s))) 10 7 (100 * t)).2 ∧ x.2.2.1 = nI t ∧ EqQ h x.2.2.2) N _ _ ?_ ?_ (-1, nI 7, nI 0, h) ⟨rfl, rfl, rfl, EqQ.rf⟩ FU (FU_lt (by omega))
    · rintro n t ⟨s1, s2, s3, hh⟩ ht ⟨i1, i2, i3, iq⟩
      simp only at i1 i2 i3 iq
      subst i1; subst i2; subst i3
      have hLa : LaR 2 T hh := hR.eqs (iq.eqs (by omega))
      obtain ⟨h1, r1, r2⟩ := c_lookI hT hLa hs1 hK (show t < 12 by omega) (fun w11 w12 w13 w14 w15 w16 h17 => oL (w16 + (1 : Int32)) fun v19 => fX8_look_36 n w11 w12 w13 w14 w15 v19 h17)
      refine ⟨((fs (lkV K (tn T (35 + s))) 10 7 (100 * (t + 1))).1, nI (fs (lkV K (tn T (35 + s))) 10 7 (100 * (t + 1))).2, nI (t + 1), h1), ?_, rfl, rfl, rfl, iq.tr r2⟩
      show fX8_look_36 (n + 1) 0 (nI s) (nI K) (fs (lkV K (tn T (35 + s))) 10 7 (100 * t)).1 (nI (fs (lkV K (tn T (35 + s))) 10 7 (100 * t)).2) (nI t) hh = fX8_look_36 n 0 (nI s) (nI K) (fs (lkV K (tn T (35 + s))) 10 7 (100 * (t + 1))).1 (nI (fs (lkV K (tn T (35 + s))) 10 7 (100 * (t + 1))).2) (nI (t + 1)) h1
      rw [fX8_look_36, if_neg (by rw [p0, p_eq (by omega) (by omega)]; exact h0), if_neg (by rw [p12, p_le (by omega) (by omega)]; omega), p0, r1, oL_d, p1, nI_add]
    · rintro n ⟨s1, s2, s3, hh⟩ ⟨i1, i2, i3, iq⟩
      simp only at i1 i2 i3 iq
      subst i1; subst i2; subst i3
      refine ⟨hh, ?_, iq⟩
      show fX8_look_36 (n + 1) 0 (nI s) (nI K) (fs (lkV K (tn T (35 + s))) 10 7 (100 * N)).1 (nI (fs (lkV K (tn T (35 + s))) 10 7 (100 * N)).2) (nI N) hh = _
      rw [fX8_look_36, if_neg (by rw [p0, p_eq (by omega) (by omega)]; exact h0), if_pos (by rw [hN]; decide)]
theorem m_look109 {S : ST} {h : AH} {K s c a l6 : Nat} {l3 l4 : Int32} (hM : MR S h) (hW : WfS S) (hs1 : s < 5) (hK : K < 64) (hf : c % 100 < 10) (ht : c / 100 < 12) (hc : c < 2000) (ha : a < 6) (k179 : Nat → Int32 → Int32 → Int32 → Int32 → Int32 → Int32 → Int32 → Int32 → AH → Option (Int32 × AH)) : fX9_look_109 k179 FU 262 (nI s) (nI K) l3 l4 (nI c) (nI l6) (nI a) (nI 0) (nI (pl a (tn (sT S) (35 + s)) (c % 100) (c / 100))) (nI 0) h = k179 262 (nI s) (nI K) l3 l4 (nI c) (nI l6) (nI a) (nI (lkA K (tn (sT S) (35 + s)) (c % 100) (c / 100) a 6)) h := by
  have hT := hW.1
  obtain ⟨-, -, -, ⟨a4, b4⟩⟩ := wf_s hT (by omega) hs1
  have hr := (hM.1.2.2 (35 + s) (by omega)).trans a4
  generalize tn (sT S) (35 + s) = L at b4 hr ⊢
  have f0 : bI false = 0 := by decide
  have f1 : ¬ bI true = 0 := by decide
  cases hb : K.testBit a with
  | false =>
    rw [lkA_0 hb]
    refine run_loop (fun n (x : Int32 × Int32) => fX9_look_109 k179 n 262 (nI s) (nI K) l3 l4 (nI c) (nI l6) (nI a) x.1 (nI (pl a L (c % 100) (c / 100))) x.2 h) (fun i => (nI 0, nI i)) 0 _ (fun n i hi => by omega) (fun n => ?_) FU (FU_lt (by omega))
    show fX9_look_109 k179 (n + 1) 262 (nI s) (nI K) l3 l4 (nI c) (nI l6) (nI a) (nI 0) (nI (pl a L (c % 100) (c / 100))) (nI 0) h = _
    rw [fX9_look_109, if_neg (by decide), m_has (by omega) (by omega), ob_s, hb, if_pos f0]
  | true =>
    obtain ⟨N, hN⟩ : ∃ N : Nat, N = 6 := ⟨6, rfl⟩
    rw [← hN]
    have g1 := pl_le a ha L b4 _ hf _ ht
    refine run_loop (fun n (x : Int32 × Int32) => fX9_look_109 k179 n 262 (nI s) (nI K) l3 l4 (nI c) (nI l6) (nI a) x.1 (nI (pl a L (c % 100) (c / 100))) x.2 h) (fun i => (nI (lkA K L (c % 100) (c / 100) a i), nI i)) N _ (fun n b hb2 => ?_) (fun n => ?_) FU (FU_lt (by omega))
    · show fX9_look_109 k179 (n + 1) 262 (nI s) (nI K) l3 l4 (nI c) (nI l6) (nI a) (nI (lkA K L (c % 100) (c / 100) a b)) (nI (pl a L (c % 100) (c / 100))) (nI b) h = fX9_look_109 k179 n 262 (nI s) (nI K) l3 l4 (nI c) (nI l6) (nI a) (nI (lkA K L (c % 100) (c / 100) a (b + 1))) (nI (pl a L (c % 100) (c / 100))) (nI (b + 1)) h
      have hb6 : b < 6 := by omega
      have g2 := pl_le b hb6 L b4 _ hf _ ht
      rw [fX9_look_109, if_neg (by rw [p6, p_le (by omega) (by omega)]; omega), m_has (by omega) (by omega), ob_s, hb, if_neg f1, m_has (by omega) (by omega), ob_s, q20, q20s, p35, nI_add, inb_nI (by omega), oG_d (by omega), ix_nI (by omega), hr, p100, p_rem (by omega) (by omega), p_div (by omega) (by omega), m_pull b hb6 L b4 _ hf _ ht, ob_s, lkA]
      unfold fX9_look_169 fX9_look_170
      cases hb3 : K.testBit b with
      | false => rw [if_pos f0, if_neg (fun q => by simp at q), oL_d, oL_d, p0, p1, nI_add, nI_add, Nat.add_zero]
      | true =>
        rw [if_neg f1]
        by_cases r : pl b L (c % 100) (c / 100) = pl a L (c % 100) (c / 100)
        · rw [if_pos (by rw [r]), if_pos ⟨hb, rfl, r⟩, oL_d, oL_d, p1, nI_add, nI_add]
        · rw [if_neg (by rw [p_eq (by omega) (by omega)]; exact r), if_neg (fun q => r q.2.2), oL_d, oL_d, p0, p1, nI_add, nI_add, Nat.add_zero]
    · show fX9_look_109 k179 (n + 1) 262 (nI s) (nI K) l3 l4 (nI c) (nI l6) (nI a) (nI (lkA K L (c % 100) (c / 100) a N)) (nI (pl a L (c % 100) (c / 100))) (nI N) h = _
      rw [fX9_look_109, if_pos (by rw [hN]; decide)]
theorem m_look63 {S : ST} {h : AH} {K s c : Nat} {l3 l4 : Int32} (hM : MR S h) (hW : WfS S) (hs1 : s < 5) (hK : K < 64) (hf : c % 100 < 10) (ht : c / 100 < 12) (hc : c < 2000) (k201 : Nat → Int32 → Int32 → Int32 → Int32 → Int32 → Int32 → AH → Option (Int32 × AH)) : fX9_look_63 k201 FU 262 (nI s) (nI K) l3 l4 (nI c) (nI 0) (nI 0) h = k201 262 (nI s) (nI K) l3 l4 (nI c) (nI (lkV K (tn (sT S) (35 + s)) c)) h := by
  have hT := hW.1
  obtain ⟨-, -, -, ⟨a4, b4⟩⟩ := wf_s hT (by omega) hs1
  have hr := (hM.1.2.2 (35 + s) (by omega)).trans a4
  have eM : (1000000 : Int32) = nI 1000000 := by decide
  obtain ⟨N, hN⟩ : ∃ N : Nat, N = 6 := ⟨6, rfl⟩
  rw [show lkV K (tn (sT S) (35 + s)) c = lkM K (tn (sT S) (35 + s)) (c % 100) (c / 100) N by rw [hN]; rfl]
  refine run_loop (fun n (x : Int32 × Int32) => fX9_look_63 k201 n 262 (nI s) (nI K) l3 l4 (nI c) x.1 x.2 h) (fun a => (nI (lkM K (tn (sT S) (35 + s)) (c % 100) (c / 100) a), nI a)) N _ (fun n a ha => ?_) (fun n => ?_) FU (FU_lt (by omega))
  · show fX9_look_63 k201 (n + 1) 262 (nI s) (nI K) l3 l4 (nI c) (nI (lkM K (tn (sT S) (35 + s)) (c % 100) (c / 100) a)) (nI a) h = fX9_look_63 k201 n 262 (nI s) (nI K) l3 l4 (nI c) (nI (lkM K (tn (sT S) (35 + s)) (c % 100) (c / 100) (a + 1))) (nI (a + 1)) h
    have h1 := lkM_le (K := K) (l := tn (sT S) (35 + s)) (f := c % 100) (t := c / 100) a
    have h3 := lkA_le (K := K) (l := tn (sT S) (35 + s)) (f := c % 100) (t := c / 100) (a := a) 6
    rw [fX9_look_63, if_neg (by rw [p6, p_le (by omega) (by omega)]; omega), eM, if_neg (by rw [p_le (by omega) (by omega)]; omega), q20, q20s, p35, nI_add, inb_nI (by omega), oG_d (by omega), ix_nI (by omega), hr, p100, p_rem (by omega) (by omega), p_div (by omega) (by omega), m_pull a (by omega) _ b4 _ hf _ ht, ob_s, p0, m_look109 hM hW hs1 hK hf ht hc (by omega)]
    unfold fX9_look_179 fX9_look_193
    rw [lkM]
    by_cases q : lkA K (tn (sT S) (35 + s)) (c % 100) (c / 100) a 6 ≤ lkM K (tn (sT S) (35 + s)) (c % 100) (c / 100) a
    · rw [if_pos (by rw [p_le (by omega) (by omega)]; exact q), oL_d, p1, nI_add, Nat.max_eq_left q]
    · rw [if_neg (by rw [p_le (by omega) (by omega)]; exact q), oL_d, p1, nI_add, Nat.max_eq_right (by omega)]
  · show fX9_look_63 k201 (n + 1) 262 (nI s) (nI K) l3 l4 (nI c) (nI (lkM K (tn (sT S) (35 + s)) (c % 100) (c / 100) N)) (nI N) h = _
    rw [fX9_look_63, if_pos (by rw [hN]; decide)]
theorem m_look {S : ST} {h : AH} {K s : Nat} (hM : MR S h) (hW : WfS S) (hs1 : s < 5) (hK : K < 64) : fX9_look_30 FU 262 (nI s) (nI K) (-1) (nI 1000000) (nI 0) h = some (if K = 0 then -1 else (fs (lkV K (tn (sT S) (35 + s))) 10 1000000 1200).1, h) := by
  have eM : (1000000 : Int32) = nI 1000000 := by decide
  have e1110 : (1110 : Int32) = nI 1110 := by decide
  by_cases h0 : K = 0
  · rw [if_pos h0]
    refine run_loop (fun n (x : Int32) => fX9_look_30 n 262 (nI s) (nI K) (-1) (nI 1000000) x h) (fun i => nI i) 0 _ (fun n i hi => by omega) (fun n => ?_) FU (FU_lt (by omega))
    show fX9_look_30 (n + 1) 262 (nI s) (nI K) (-1) (nI 1000000) (nI 0) h = _
    rw [fX9_look_30, if_neg (by decide), if_pos (by rw [h0]; decide)]
  · generalize hL : tn (sT S) (35 + s) = L
    obtain ⟨N, hN⟩ : ∃ N : Nat, N = 1110 := ⟨1110, rfl⟩
    have eN : fs (lkV K L) 10 1000000 1200 = fs (lkV K L) 10 1000000 N := by
      rw [hN]
      exact (fs_next (by omega) 11).symm
    rw [if_neg h0, eN]
    refine run_loop (fun n (x : Int32 × Int32 × Int32) => fX9_look_30 n 262 (nI s) (nI K) x.1 x.2.1 x.2.2 h) (fun c => ((fs (lkV K L) 10 1000000 c).1, nI (fs (lkV K L) 10 1000000 c).2, nI c)) N _ (fun n c hc => ?_) (fun n => ?_) FU (FU_lt (by omega))
    · show fX9_look_30 (n + 1) 262 (nI s) (nI K) (fs (lkV K L) 10 1000000 c).1 (nI (fs (lkV K L) 10 1000000 c).2) (nI c) h = fX9_look_30 n 262 (nI s) (nI K) (fs (lkV K L) 10 1000000 (c + 1)).1 (nI (fs (lkV K L) 10 1000000 (c + 1)).2) (nI (c + 1)) h
      have hle := fs_le (F0 := 1000000) (lkV_le (K := K) (l := L)) c
      have fin : ∀ x, x ≤ 1000000 → fX9_look_201 (fX9_look_30 n) 262 (nI s) (nI K) (fs (lkV K L) 10 1000000 c).1 (nI (fs (lkV K L) 10 1000000 c).2) (nI c) (nI x) h = fX9_look_30 n 262 (nI s) (nI K) (if x < (fs (lkV K L) 10 1000000 c).2 then nI c else (fs (lkV K L) 10 1000000 c).1) (nI (if x < (fs (lkV K L) 10 1000000 c).2 then x else (fs (lkV K L) 10 1000000 c).2)) (nI (c + 1)) h := by
        intro x hx
        unfold fX9_look_201 fX9_look_214 fX9_look_229
        simp (disch := omega) only [p_le]
        by_cases q : (fs (lkV K L) 10 1000000 c).2 ≤ x
        · rw [if_pos q, if_pos q, if_neg (by omega), if_neg (by omega), oL_d, p1, nI_add]
        · rw [if_neg q, if_neg q, if_pos (by omega), if_pos (by omega), oL_d, p1, nI_add]
      rw [fX9_look_30, e1110, if_neg (by rw [p_le (by omega) (by omega)]; omega), if_neg (by rw [p0, p_le (by omega) (by omega)]; omega), p100, p_rem (by omega) (by omega)]
      unfold fX9_look_58
      by_cases hf : c % 100 < 10
      · have h6 := lkV_le (K := K) (l := L) c hf
        rw [if_neg (by rw [p10, p_le (by omega) (by omega)]; omega), p0, m_look63 hM hW hs1 hK hf (by omega) (by omega), hL, fin _ (by omega), fs]
        by_cases q : lkV K L c < (fs (lkV K L) 10 1000000 c).2
        · rw [if_pos q, if_pos q, if_pos ⟨hf, q⟩]
        · rw [if_neg q, if_neg q, if_neg (fun r => q r.2)]
      · have e1 : fs (lkV K L) 10 1000000 (c + 1) = fs (lkV K L) 10 1000000 c := by rw [fs, if_neg (fun r => hf r.1)]
        rw [if_pos (by rw [p10, p_le (by omega) (by omega)]; omega), eM, p0, e1]
        refine run_loop (fun q (x : Int32 × Int32) => fX9_look_63 (fun w27 w28 w29 w30 w31 w32 w33 h34 => fX9_look_201 (fX9_look_30 n) w27 w28 w29 w30 w31 w32 w33 h34) q 262 (nI s) (nI K) (fs (lkV K L) 10 1000000 c).1 (nI (fs (lkV K L) 10 1000000 c).2) (nI c) x.1 x.2 h) (fun i => (nI 1000000, nI i)) 0 _ (fun n i hi => by omega) (fun q => ?_) FU (FU_lt (by omega))
        show fX9_look_63 _ (q + 1) 262 (nI s) (nI K) (fs (lkV K L) 10 1000000 c).1 (nI (fs (lkV K L) 10 1000000 c).2) (nI c) (nI 1000000) (nI 0) h = _
        rw [fX9_look_63, if_neg (by decide), eM, if_pos (by rw [p_le (by omega) (by omega)]; exact Nat.le_refl _), fin _ (by omega), if_neg (by omega), if_neg (by omega)]
    · show fX9_look_30 (n + 1) 262 (nI s) (nI K) (fs (lkV K L) 10 1000000 N).1 (nI (fs (lkV K L) 10 1000000 N).2) (nI N) h = _
      rw [fX9_look_30, if_pos (by rw [hN]; decide)]
theorem op_look : OP_look RR := by
  rintro a1 h ⟨S, hW, hC, hM⟩
  have hT := hW.1
  have n0 := (wf_cnt hT).1.2
  refine GO.out (S := S) (f9 := fun h1 => fX9_look 262 a1 h1) ?_
  unfold fX8_look fX9_look
  simp only [z00, z10]
  refine GO.chk (c_hasShow hT (show 46 ≤ 304 by omega) hC.1.1) (fun h1 hM1 => m_isShow hM1 hW) (fun _ => GO.bad hW hC hM (fun h1 q => rf8 q) (fun h1 => rfl)) (fun b1 => ?_)
  obtain ⟨s, rfl, hs1⟩ := hs_nI (by omega) b1
  have hK := (kL_is (ap := apN (sT S) s) (ok := okN (sT S)) (tn (sT S) 3)).1
  obtain ⟨g, r1, r2⟩ := c_look hT hC.1.1 hs1 hK
  refine GO.ask hW hC hM _ ⟨g, by rw [c_kinds hT (hC.1.shR 1 (by omega)) (show s < 5 by omega), ob_s, p7, p0, r1], r2⟩ (fun h1 hM1 => ⟨h1, ?_, hM1, Eqs.rf⟩)
  show ob (fX9_kindsOf 262 (nI s) h1) _ = _
  have eM : (1000000 : Int32) = nI 1000000 := by decide
  rw [m_kinds hM1 hW (show s < 5 by omega), ob_s, eM, p0, m_look hM1 hW (show s < 5 by omega) hK, show fs (lkV (kL (apN (sT S) s) (okN (sT S)) (tn (sT S) 3)) (tn (sT S) (35 + s))) 10 1000000 1200 = fs (lkV (kL (apN (sT S) s) (okN (sT S)) (tn (sT S) 3)) (tn (sT S) (35 + s))) 10 7 1200 from (fs_same (by omega) lkV_le 1199).symm]
