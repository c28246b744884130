/-! PURE: what may be undone is kept (2) -/
theorem c_push16 {c m : Nat} {T : Nat → Int32} {h g : AH} (hc : c = 1 ∨ c = 100 ∨ c = 181) (hT : WfU T 304) (hR : CouR c T h) (hm : m = min (tn T 5) 7) (hq : PasQ c g) (he : EqC (c + 9) (c + 74) h g) (hg : hI g (c + 9) 1 = nI m) (hp : ∀ j, j < m → LaR (hQ g (c + 10) j) (TP (pushT T) j) g) : ∃ h1, fX3_push_16 (c + 9) (c + 1) g = some h1 ∧ CouR c (pushT T) h1 ∧ PasQ c h1 ∧ EqC (c + 9) (c + 74) h h1 := by
  obtain ⟨-, k9, k10, z10, pc9, kl, kc1⟩ := kd_past c hc
  have w := wf_cnt hT
  have n8 : Int32.ofNat 8 = nI 8 := rfl
  have hm8 : m < 8 := by omega
  obtain ⟨i, hi, hD⟩ := hq.1 m hm8
  have hkd := kl i hi
  have hLs : LaR (c + 1) T g := hR.1.eqs (he.eqs (by omega))
  obtain ⟨g', r1, r2, r3⟩ := c_copy (d := c + 11 + 8 * i) (s := c + 1) hkd hLs w.1 w.2.1 (by omega)
  have hne : ¬ nI m < 0 := by rw [p0, p_lt (by omega) (by omega)]; omega
  have hs1 : hI g' (c + 9) 1 = nI m := by rw [r3.1 _ _ (by omega) (by omega)]; exact hg
  refine ⟨sI g' (c + 9) 1 (nI (m + 1)), ?_, ?_, ?_, ?_⟩
  · unfold fX3_push_16 fX3_keepAt
    rw [hg, if_neg hne, pc9, z10, n8]
    simp (disch := omega) only [p_le, if_neg, p0, p1, p2, p3, p4, p5, p6, p7, p8, p9, p10, p11, p12, p14, p19, p23, p24, p25, p29, p30, p31, p35, p40, p46, p58, p60, p88, p99, p100, p112, p150, p9999, nI_add, nI_mul, ix_nI, p_sub, p_div, p_rem, p_shl, p_shr, p_and, p_or, inb_nI, decide_eq_true, decide_true, oG_t, hD, hkd, r1, ob_s, oL_d, hs1]
  · refine hR.la w.2.2.1.2 w.2.2.2.1.2 w.2.2.2.2.1.2 ?_ (fun k hk => pushT_n (by omega) (by omega)) ?_ ?_ (fun j hj => ?_)
    · exact (he.eqs (by omega)).tr ((r3.eqs (by omega) (by omega)).tr (Eqs.sI (by omega)))
    · refine LaR.agr ?_ w.1.2 w.2.1.2 (fun k hk hk2 => pushT_n (by omega) (by omega))
      exact (hLs.eqs (r3.eqs (by omega) (by omega))).eqs (Eqs.sI (by omega))
    · rw [sI_e, pushT_5, hm]
    · rw [tn_pushT5 w.2.2.2.2.2.1.2, ← hm] at hj
      rw [show hQ (sI g' (c + 9) 1 (nI (m + 1))) (c + 10) j = hQ g (c + 10) j from r3.2.2 _ _]
      by_cases e : j = m
      · subst e
        rw [hD]
        refine LaR.eqs (h := g') ?_ (Eqs.sI (by omega))
        refine r2.agr w.1.2 w.2.1.2 (fun k hk hk2 => ?_)
        rw [hm]
        exact TP_new w.2.2.2.2.2.1.2 hk (by omega)
      · obtain ⟨i', hi', hD'⟩ := hq.1 j (by omega)
        have hii : i' ≠ i := fun q => e (hq.2 j (by omega) m hm8 (by rw [hD', hD, q]))
        have hl := hp j (by omega)
        rw [hD'] at hl ⊢
        exact (hl.eqs (r3.eqs (by omega) (by omega))).eqs (Eqs.sI (by omega))
  · exact hq.eqs (fun j _ => r3.2.2 _ _)
  · exact he.tr ((r3.eqc (by omega) (by omega) (by omega)).tr (EqC.sI (by omega) (by omega)))
theorem c_push {c : Nat} {T : Nat → Int32} {h : AH} (hc : c = 1 ∨ c = 100 ∨ c = 181) (hT : WfU T 304) (hR : CouR c T h) (hq : PasQ c h) : ∃ h1, fX3_push (c + 9) (c + 1) h = some h1 ∧ CouR c (pushT T) h1 ∧ PasQ c h1 ∧ EqC (c + 9) (c + 74) h h1 := by
  obtain ⟨-, k9, k10, z10, pc9, kl, kc1⟩ := kd_past c hc
  have w := wf_cnt hT
  have n5 := w.2.2.2.2.2.1
  have n8 : Int32.ofNat 8 = nI 8 := rfl
  have h5 : hI h (c + 9) 1 = nI (tn T 5) := hR.2.1.trans n5.1
  have hpast := hR.2.2.1
  unfold fX3_push
  rw [h5, pc9, z10, n8]
  by_cases e : tn T 5 < 8
  · rw [if_pos (by rw [p_lt (by omega) (by omega)]; exact e)]
    refine c_push16 hc hT hR rfl hq EqC.rf (by rw [h5]; congr 1; omega) (fun j hj => ?_)
    refine (hpast j (by omega)).agr (by rw [tnTP0]; exact w.1.2) (by rw [tnTP1]; exact w.2.1.2) (fun k hk hk2 => ?_)
    rw [TP_old hj hk (by omega), if_neg (by omega)]
  · rw [if_neg (by rw [p_lt (by omega) (by omega)]; exact e)]
    obtain ⟨g, r1, r2, r3, rI, rJ, rQ, rS⟩ := c_drop hc hq
    rw [r1, ob_s]
    have he : EqC (c + 9) (c + 74) h g := fun a b q => ⟨rI a b (by omega), rJ a b, rQ a b (by omega)⟩
    refine c_push16 hc hT hR rfl r2 he (by rw [r3]; congr 1; omega) (fun j hj => ?_)
    rw [rS j (by omega)]
    obtain ⟨i, hi, hD⟩ := hq.1 (j + 1) (by omega)
    refine ((hpast (j + 1) (by omega)).eqs ?_).agr (by rw [tnTP0]; exact w.1.2) (by rw [tnTP1]; exact w.2.1.2) (fun k hk hk2 => ?_)
    · rw [hD]
      exact fun a q1 q2 b => ⟨rI a b (by omega), rJ a b, rQ a b (by omega)⟩
    · rw [TP_old hj hk (by omega), if_pos (by omega)]
theorem EqO.eqn {h h' : AH} (a : EqO 263 263 263 h h') : EqN h h' := fun o k q r => ⟨a.1 o k (by omega) r, a.2.1 o k⟩
theorem m_keep55 {m : Nat} {B : Nat → Int32} {h g : AH} (hm : m < 8) (hB : ∀ k, k < 304 → hI g 263 k = B k) (hB5 : B 5 = nI m) (he : EqO 263 263 263 h g) : ∃ h1, fX9_keep_53 262 g = some h1 ∧ (∀ k, k < 304 → hI h1 263 k = if k = 5 then nI (m + 1) else if 112 + 24 * m ≤ k ∧ k < 112 + 24 * m + 24 then B (6 + (k - (112 + 24 * m))) else B k) ∧ EqO 263 263 263 h h1 := by
  unfold fX9_keep_53
  rw [p0]
  refine run_cnt (fun n (c0 : Int32) (x : AH) => fX9_keep_55 n 262 c0 x) (fun i x => EqO 263 263 263 h x ∧ ∀ k, k < 304 → hI x 263 k = if 112 + 24 * m ≤ k ∧ k < 112 + 24 * m + i then B (6 + (k - (112 + 24 * m))) else B k) 24 _ ?_ ?_ g ⟨he, fun k hk => by rw [if_neg (by omega)]; exact hB k hk⟩ FU (FU_lt (by omega))
  · rintro n i hh hi ⟨iE, iB⟩
    have e5 : hI hh 263 5 = nI m := by rw [iB 5 (by omega), if_neg (by omega), hB5]
    have e6 : hI hh 263 (6 + i) = B (6 + i) := by rw [iB _ (by omega), if_neg (by omega)]
    show ∃ s' : AH, fX9_keep_55 (n + 1) 262 (nI i) hh = fX9_keep_55 n 262 (nI (i + 1)) s' ∧ _
    rw [fX9_keep_55]
    simp (disch := omega) only [q20, q20s, p0, p1, p2, p3, p4, p5, p6, p7, p8, p9, p10, p11, p12, p14, p19, p23, p24, p25, p29, p30, p31, p35, p40, p46, p58, p60, p88, p99, p100, p112, p150, p9999, nI_add, nI_mul, ix_nI, p_sub, p_div, p_rem, p_shl, p_shr, p_and, p_or, inb_nI, p_le, if_neg, decide_eq_true, oG_t, oL_d, e5, e6]
    refine ⟨_, rfl, iE.tr (EqO.sI (by omega)), fun k hk => ?_⟩
    by_cases e : k = 112 + 24 * m + i
    · subst e
      rw [sI_e, if_pos (by omega)]
      congr 1
      omega
    · rw [sI_n (by omega), iB k hk]
      by_cases q : 112 + 24 * m ≤ k ∧ k < 112 + 24 * m + i
      · rw [if_pos q, if_pos (by omega)]
      · rw [if_neg q, if_neg (by omega)]
  · rintro n hh ⟨iE, iB⟩
    have e5 : hI hh 263 5 = nI m := by rw [iB 5 (by omega), if_neg (by omega), hB5]
    refine ⟨sI hh 263 5 (nI (m + 1)), ?_, fun k hk => ?_, iE.tr (EqO.sI (by omega))⟩
    · show fX9_keep_55 (n + 1) 262 (nI 24) hh = _
      rw [fX9_keep_55, if_pos (by decide)]
      unfold fX9_keep_95
      simp (disch := omega) only [q20, q20s, p0, p1, p2, p3, p4, p5, p6, p7, p8, p9, p10, p11, p12, p14, p19, p23, p24, p25, p29, p30, p31, p35, p40, p46, p58, p60, p88, p99, p100, p112, p150, p9999, nI_add, nI_mul, ix_nI, p_sub, p_div, p_rem, p_shl, p_shr, p_and, p_or, inb_nI, decide_eq_true, oG_t, oL_d, e5]
    · by_cases e : k = 5
      · subst e; rw [sI_e, if_pos rfl]
      · rw [sI_n (by omega), if_neg e]; exact iB k hk
theorem m_keep {T : Nat → Int32} {h : AH} (hT : WfU T 304) (hR : ArR 263 304 T h) : ∃ h1, fX9_keep 262 h = some h1 ∧ ArR 263 304 (pushT T) h1 ∧ EqO 263 263 263 h h1 := by
  obtain ⟨hk, hsz, hr⟩ := hR
  have n5 := (wf_cnt hT).2.2.2.2.2.1
  have r5 := (hr 5 (by omega)).trans n5.1
  unfold fX9_keep
  simp (disch := omega) only [q20, q20s, p0, p1, p2, p3, p4, p5, p6, p7, p8, p9, p10, p11, p12, p14, p19, p23, p24, p25, p29, p30, p31, p35, p40, p46, p58, p60, p88, p99, p100, p112, p150, p9999, nI_add, nI_mul, ix_nI, p_sub, p_div, p_rem, p_shl, p_shr, p_and, p_or, inb_nI, p_eq, oG_d, oG_T, decide_true, oL_D, ob_S, ob2_S, r5]
  by_cases e8 : tn T 5 = 8
  · rw [if_pos e8]
    refine run_cnt (fun n (c0 : Int32) (x : AH) => fX9_keep_13 n 262 c0 x) (fun i x => EqO 263 263 263 h x ∧ ∀ k, k < 304 → hI x 263 k = if 112 ≤ k ∧ k < 112 + i then T (k + 24) else T k) 168 _ ?_ ?_ h ⟨EqO.rf, fun k hk => by rw [if_neg (by omega)]; exact hr k hk⟩ FU (FU_lt (by omega))
    · rintro n i hh hi ⟨iE, iB⟩
      have e6 : hI hh 263 (136 + i) = T (136 + i) := by rw [iB _ (by omega), if_neg (by omega)]
      have p136 : (136 : Int32) = nI 136 := by decide
      have p168 : (168 : Int32) = nI 168 := by decide
      show ∃ s' : AH, fX9_keep_13 (n + 1) 262 (nI i) hh = fX9_keep_13 n 262 (nI (i + 1)) s' ∧ _
      rw [fX9_keep_13]
      simp (disch := omega) only [q20, q20s, p0, p1, p2, p3, p4, p5, p6, p7, p8, p9, p10, p11, p12, p14, p19, p23, p24, p25, p29, p30, p31, p35, p40, p46, p58, p60, p88, p99, p100, p112, p150, p9999, nI_add, nI_mul, ix_nI, p_sub, p_div, p_rem, p_shl, p_shr, p_and, p_or, inb_nI, p136, p168, p_le, if_neg, decide_eq_true, oG_t, oL_d, e6]
      refine ⟨_, rfl, iE.tr (EqO.sI (by omega)), fun k hk => ?_⟩
      by_cases e : k = 112 + i
      · subst e
        rw [sI_e, if_pos (by omega)]
        congr 1
        omega
      · rw [sI_n (by omega), iB k hk]
        by_cases q : 112 ≤ k ∧ k < 112 + i
        · rw [if_pos q, if_pos (by omega)]
        · rw [if_neg q, if_neg (by omega)]
    · rintro n hh ⟨iE, iB⟩
      obtain ⟨h1, r1, r2, r3⟩ := m_keep55 (m := 7) (B := fun k => if k = 5 then nI 7 else if 112 ≤ k ∧ k < 280 then T (k + 24) else T k) (h := h) (g := sI hh 263 5 (nI 7)) (by omega) (fun k hk => by
        by_cases e : k = 5
        · subst e; rw [sI_e, if_pos rfl]
        · rw [sI_n (by omega), if_neg e]; exact iB k hk) (if_pos rfl) (iE.tr (EqO.sI (by omega)))
      refine ⟨h1, ?_, ⟨hk, hsz, fun k hk => ?_⟩, r3⟩
      · show fX9_keep_13 (n + 1) 262 (nI 168) hh = _
        rw [fX9_keep_13, if_pos (by decide)]
        unfold fX9_keep_45
        simp (disch := omega) only [q20, q20s, p0, p1, p2, p3, p4, p5, p6, p7, p8, p9, p10, p11, p12, p14, p19, p23, p24, p25, p29, p30, p31, p35, p40, p46, p58, p60, p88, p99, p100, p112, p150, p9999, nI_add, nI_mul, ix_nI, p_sub, p_div, p_rem, p_shl, p_shr, p_and, p_or, inb_nI, oG_d, oG_T, decide_true, oL_D, ob_S, ob2_S]
        exact r1
      · rw [r2 k hk]
        unfold pushT
        rw [e8, show min 8 7 = 7 from rfl]
        by_cases q1 : k = 5
        · rw [if_pos q1, if_pos q1]
        · simp only [if_neg q1]
          by_cases q2 : 112 + 24 * 7 ≤ k ∧ k < 112 + 24 * 7 + 24
          · rw [if_pos q2, if_pos q2, if_neg (by omega), if_neg (by omega)]
          · rw [if_neg q2, if_neg q2]
            by_cases q3 : 112 ≤ k ∧ k < 280
            · rw [if_pos q3, if_pos ⟨trivial, q3⟩]
            · rw [if_neg q3, if_neg (fun q => q3 q.2)]
  · rw [if_neg e8]
    obtain ⟨h1, r1, r2, r3⟩ := m_keep55 (m := tn T 5) (B := T) (h := h) (g := h) (by omega) hr n5.1 EqO.rf
    refine ⟨h1, r1, ⟨hk, hsz, fun k hk => ?_⟩, r3⟩
    rw [r2 k hk]
    unfold pushT
    rw [show min (tn T 5) 7 = tn T 5 by omega]
    by_cases q1 : k = 5
    · rw [if_pos q1, if_pos q1]
    · rw [if_neg q1, if_neg q1]
      by_cases q2 : 112 + 24 * tn T 5 ≤ k ∧ k < 112 + 24 * tn T 5 + 24
      · rw [if_pos q2, if_pos q2]
      · rw [if_neg q2, if_neg q2, if_neg (fun q => e8 q.1)]
