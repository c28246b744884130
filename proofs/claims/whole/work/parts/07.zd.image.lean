/-! PURE: a county copied -/
theorem c_pastCopy {d s : Nat} {T : Nat → Int32} {h : AH} (hd : d = 1 ∨ d = 100 ∨ d = 181) (hs1 : s = 1 ∨ s = 100 ∨ s = 181) (hne : d ≠ s) (w : WfU T 304) (hp : ∀ j, j < tn T 5 → LaR (hQ h (s + 10) j) (TP T j) h) (h5 : hI h (s + 9) 1 = T 5) (qd : PasQ d h) (qs : PasQ s h) : ∃ g, fX3_copyOf (d + 9) (s + 9) h = some g ∧ hI g (d + 9) 1 = T 5 ∧ (∀ j, j < tn T 5 → LaR (hQ g (d + 10) j) (TP T j) g) ∧ EqO (d + 9) (d + 74) (d + 9) h g := by
  obtain ⟨-, -, -, zd10, pd9, kd, -⟩ := kd_past d hd
  obtain ⟨-, -, -, zs10, ps9, ks, -⟩ := kd_past s hs1
  have c := wf_cnt w
  have n5 := c.2.2.2.2.2.1
  have n8 : Int32.ofNat 8 = nI 8 := rfl
  unfold fX3_copyOf
  rw [h5, n5.1, oL_d, p0]
  refine run_cnt (fun n (c0 : Int32) (x : AH) => fX3_copyOf_10 n (d + 9) (s + 9) c0 x) (fun i x => EqO (d + 9) (d + 74) (d + 9) h x ∧ hI x (d + 9) 1 = nI (tn T 5) ∧ ∀ j, j < i → LaR (hQ x (d + 10) j) (TP T j) x) (tn T 5) _ ?_ ?_ (sI h (d + 9) 1 (nI (tn T 5))) ⟨EqO.sI (by omega), sI_e, fun j q => by omega⟩ FU (FU_lt (by omega))
  · rintro n i hh hi ⟨iE, iN, iB⟩
    obtain ⟨a, ha, hD⟩ := qd.1 i (by omega)
    obtain ⟨b, hb, hS⟩ := qs.1 i (by omega)
    have kD := kd a ha
    have kS := ks b hb
    have hlS : LaR (s + 11 + 8 * b) (TP T i) hh := by
      have := hp i hi
      rw [hS] at this
      exact this.eqs (iE.eqs (by omega) (by omega))
    have e1 : hQ hh (d + 10) i = d + 11 + 8 * a := (iE.2.2 _ _).trans hD
    have e2 : hQ hh (s + 10) i = s + 11 + 8 * b := (iE.2.2 _ _).trans hS
    obtain ⟨g, r1, r2, r3⟩ := c_copy (d := d + 11 + 8 * a) (s := s + 11 + 8 * b) kD hlS (by rw [tnTP0]; exact c.1) (by rw [tnTP1]; exact c.2.1) (by omega)
    show ∃ s' : AH, fX3_copyOf_10 (n + 1) (d + 9) (s + 9) (nI i) hh = fX3_copyOf_10 n (d + 9) (s + 9) (nI (i + 1)) s' ∧ _
    rw [fX3_copyOf_10, iN, if_neg (by rw [p_le (by omega) (by omega)]; omega)]
    unfold fX3_keepAt
    simp (disch := omega) only [pd9, ps9, zd10, zs10, n8, p0, p1, p2, p3, p4, p5, p6, p7, p8, p9, p10, p11, p12, p14, p19, p23, p24, p25, p29, p30, p31, p35, p40, p46, p58, p60, p88, p99, p100, p112, p150, p9999, nI_add, nI_mul, ix_nI, p_sub, p_div, p_rem, p_shl, p_shr, p_and, p_or, inb_nI, p_le, p_lt, if_neg, decide_eq_true, oG_t, oL_d, e1, e2, kD, kS, r1, ob_s]
    refine ⟨g, rfl, iE.tr (r3.wd (by omega) (by omega) (by omega)), by rw [r3.1 _ _ (by omega) (by omega)]; exact iN, fun j hj => ?_⟩
    rw [r3.2.2]
    by_cases e : j = i
    · subst e
      rw [e1]
      exact r2
    · obtain ⟨a', ha', hD'⟩ := qd.1 j (by omega)
      have hh1 := iB j (by omega)
      have e3 : hQ hh (d + 10) j = d + 11 + 8 * a' := (iE.2.2 _ _).trans hD'
      have hne2 : a' ≠ a := fun q => e (qd.2 j (by omega) i (by omega) (by rw [hD', hD, q]))
      rw [e3] at hh1 ⊢
      exact hh1.eqs (r3.eqs (by omega) (by omega))
  · rintro n hh ⟨iE, iN, iB⟩
    refine ⟨hh, ?_, iN, iB, iE⟩
    show fX3_copyOf_10 (n + 1) (d + 9) (s + 9) (nI (tn T 5)) hh = _
    rw [fX3_copyOf_10, iN, if_pos (by rw [p_le (by omega) (by omega)]; exact Nat.le_refl _)]
theorem c_sheetCopy {o p : Nat} {h : AH} (ho : KD o = 5) (hp : KD p = 5) (hop : o + 1 < p ∨ p + 1 < o) : ∃ g, fX6_copyOf o p h = some g ∧ hI g o 1 = hI h p 1 ∧ (∀ k, k < 30 → hI g (o + 1) k = hI h (p + 1) k) ∧ EqO o (o + 1) o h g := by
  have e1 := pc_X6_0 ho
  have e2 := pc_X6_0 hp
  have z1 : SZ (o + 1) = 30 := by rw [← e1]; exact sz_X6_0 ho
  have z2 : SZ (p + 1) = 30 := by rw [← e2]; exact sz_X6_0 hp
  have n30 : Int32.ofNat 30 = nI 30 := rfl
  unfold fX6_copyOf
  rw [oL_d, p0]
  refine run_cnt (fun n (c0 : Int32) (x : AH) => fX6_copyOf_10 n o p c0 x) (fun i x => EqO o (o + 1) o h x ∧ hI x o 1 = hI h p 1 ∧ ∀ j, j < i → hI x (o + 1) j = hI h (p + 1) j) 30 _ ?_ ?_ (sI h o 1 (hI h p 1)) ⟨EqO.sI (by omega), sI_e, fun j q => by omega⟩ FU (FU_lt (by omega))
  · rintro n i hh hi ⟨iE, iN, iB⟩
    have f1 : hI hh (p + 1) i = hI h (p + 1) i := iE.1 _ _ (by omega) (by omega)
    show ∃ s' : AH, fX6_copyOf_10 (n + 1) o p (nI i) hh = fX6_copyOf_10 n o p (nI (i + 1)) s' ∧ _
    rw [fX6_copyOf_10]
    simp (disch := omega) only [e1, e2, z1, z2, n30, p0, p1, p2, p3, p4, p5, p6, p7, p8, p9, p10, p11, p12, p14, p19, p23, p24, p25, p29, p30, p31, p35, p40, p46, p58, p60, p88, p99, p100, p112, p150, p9999, nI_add, nI_mul, ix_nI, p_sub, p_div, p_rem, p_shl, p_shr, p_and, p_or, inb_nI, p_le, if_neg, decide_eq_true, oG_t, oL_d, f1]
    refine ⟨_, rfl, iE.tr (EqO.sI (by omega)), by rw [sI_o (by omega)]; exact iN, fun j hj => ?_⟩
    by_cases e : j = i
    · subst e; rw [sI_e]
    · rw [sI_n (by omega)]; exact iB j (by omega)
  · rintro n hh ⟨iE, iN, iB⟩
    refine ⟨hh, ?_, iN, iB, iE⟩
    show fX6_copyOf_10 (n + 1) o p (nI 30) hh = _
    rw [fX6_copyOf_10, e1, z1, n30, if_pos (by decide)]
theorem kd_cou : ∀ c, (c = 1 ∨ c = 100 ∨ c = 181) → PC c 0 = c + 1 ∧ PC c 1 = c + 9 ∧ PC c 2 = c + 75 ∧ PC c 3 = c + 77 ∧ PC c 4 = c + 79 ∧ KD (c + 75) = 5 ∧ KD (c + 77) = 5 ∧ KD (c + 79) = 5 := by
  rintro c (rfl | rfl | rfl) <;> exact ⟨rfl, rfl, rfl, rfl, rfl, rfl, rfl, rfl⟩
theorem c_couCopy {d s : Nat} {T : Nat → Int32} {h : AH} (hd : d = 1 ∨ d = 100 ∨ d = 181) (hs1 : s = 1 ∨ s = 100 ∨ s = 181) (hne : d ≠ s) (w : WfU T 304) (hR : CouR s T h) (qd : PasQ d h) (qs : PasQ s h) : ∃ g, fX0_copyOf d s h = some g ∧ CouR d T g ∧ PasQ d g ∧ EqO (d + 1) (d + 80) (d + 1) h g := by
  have c := wf_cnt w
  obtain ⟨pd0, pd1, pd2, pd3, pd4, kd2, kd3, kd4⟩ := kd_cou d hd
  obtain ⟨ps0, ps1, ps2, ps3, ps4, ks2, ks3, ks4⟩ := kd_cou s hs1
  have kd1 := (kd_past d hd).2.2.2.2.2.2
  have kps := (kd_past s hs1).2.2.2.2.2.1
  obtain ⟨a1, a2, a3, a4, a5, a6, a7, a8, a9⟩ := hR
  obtain ⟨g1, r1, l1, E1⟩ := c_copy (d := d + 1) (s := s + 1) kd1 a1 c.1 c.2.1 (by omega)
  have q1 : PasQ d g1 := qd.eqs fun j _ => E1.2.2 _ _
  obtain ⟨g2, r2, l2, m2, E2⟩ := c_pastCopy (h := g1) hd hs1 hne w (fun j hj => by
    obtain ⟨i, hi, e⟩ := qs.1 j (by omega)
    have := a3 j hj
    rw [E1.2.2]
    rw [e] at this ⊢
    exact this.eqs (E1.eqs (by omega) (by omega))) (by rw [E1.1 _ _ (by omega) (by omega)]; exact a2) q1 (qs.eqs fun j _ => E1.2.2 _ _)
  obtain ⟨g3, r3, l3, m3, E3⟩ := c_sheetCopy (h := g2) kd2 ks2 (by omega)
  obtain ⟨g4, r4, l4, m4, E4⟩ := c_sheetCopy (h := g3) kd3 ks3 (by omega)
  obtain ⟨g5, r5, l5, m5, E5⟩ := c_sheetCopy (h := g4) kd4 ks4 (by omega)
  refine ⟨g5, ?_, ⟨?_, ?_, fun j hj => ?_, ?_, fun j hj i hi => ?_, ?_, fun j hj i hi => ?_, ?_, fun j hj i hi => ?_⟩, ?_, ?_⟩
  · unfold fX0_copyOf
    rw [pd0, ps0, pd1, ps1, pd2, ps2, pd3, ps3, pd4, ps4, r1, ob_s, r2, ob_s, r3, ob_s, r4, ob_s, r5, ob_s]
  · exact (((l1.eqs (E2.eqs (by omega) (by omega))).eqs (E3.eqs (by omega) (by omega))).eqs (E4.eqs (by omega) (by omega))).eqs (E5.eqs (by omega) (by omega))
  · rw [E5.1 _ _ (by omega) (by omega), E4.1 _ _ (by omega) (by omega), E3.1 _ _ (by omega) (by omega)]; exact l2
  · have h1 := m2 j hj
    obtain ⟨i, hi, e⟩ := q1.1 j (by omega)
    rw [E5.2.2, E4.2.2, E3.2.2]
    rw [E2.2.2, e] at h1 ⊢
    exact ((h1.eqs (E3.eqs (by omega) (by omega))).eqs (E4.eqs (by omega) (by omega))).eqs (E5.eqs (by omega) (by omega))
  · rw [E5.1 _ _ (by omega) (by omega), E4.1 _ _ (by omega) (by omega), l3, E2.1 _ _ (by omega) (by omega), E1.1 _ _ (by omega) (by omega)]; exact a4
  · rw [E5.1 _ _ (by omega) (by omega), E4.1 _ _ (by omega) (by omega), show d + 76 = d + 75 + 1 by omega, m3 _ (by omega), E2.1 _ _ (by omega) (by omega), E1.1 _ _ (by omega) (by omega)]; exact a5 j hj i hi
  · rw [E5.1 _ _ (by omega) (by omega), l4, E3.1 _ _ (by omega) (by omega), E2.1 _ _ (by omega) (by omega), E1.1 _ _ (by omega) (by omega)]; exact a6
  · rw [E5.1 _ _ (by omega) (by omega), show d + 78 = d + 77 + 1 by omega, m4 _ (by omega), E3.1 _ _ (by omega) (by omega), E2.1 _ _ (by omega) (by omega), E1.1 _ _ (by omega) (by omega)]; exact a7 j hj i hi
  · rw [l5, E4.1 _ _ (by omega) (by omega), E3.1 _ _ (by omega) (by omega), E2.1 _ _ (by omega) (by omega), E1.1 _ _ (by omega) (by omega)]; exact a8
  · rw [show d + 80 = d + 79 + 1 by omega, m5 _ (by omega), E4.1 _ _ (by omega) (by omega), E3.1 _ _ (by omega) (by omega), E2.1 _ _ (by omega) (by omega), E1.1 _ _ (by omega) (by omega)]; exact a9 j hj i hi
  · refine qd.eqs fun j _ => ?_
    rw [E5.2.2, E4.2.2, E3.2.2, E2.2.2, E1.2.2]
  · exact (E1.wd (by omega) (by omega) (by omega)).tr ((E2.wd (by omega) (by omega) (by omega)).tr ((E3.wd (by omega) (by omega) (by omega)).tr ((E4.wd (by omega) (by omega) (by omega)).tr (E5.wd (by omega) (by omega) (by omega)))))
theorem CouR.ext {c : Nat} {T T' : Nat → Int32} {h : AH} (a : CouR c T h) (hq : PasQ c h) (hT : WfU T 304) (e : ∀ k, k < 304 → T' k = T k) : CouR c T' h :=
  a.lan hq hT Eqs.rf (fun k hk _ => e k hk) (a.1.agr (wf_cnt hT).1.2 (wf_cnt hT).2.1.2 (fun k hk _ => e k (by omega)))
theorem WfU.ext {T T' : Nat → Int32} {m : Nat} (hT : WfU T m) (e : ∀ k, k < m → T' k = T k) : WfU T' m := by
  intro k hk hb
  have h1 := hT k hk hb
  unfold tn at h1 ⊢
  rw [e k hk]
  exact h1
theorem c_isImage {S : ST} {h : AH} {a : Int32} (hC : CR S h) : fX8_isImage 0 a h = some (bI (wi a 0 1)) := by
  have e : wi a 0 1 = hs 2 a := by rw [show (1 : Int32) = nI 2 - 1 by decide]; exact hs_wi (by omega)
  have z1 : PC 0 1 = 82 := rfl
  have z2 : PC 0 2 = 83 := rfl
  have z3 : SZ 82 = 2 := rfl
  have z4 : SZ 83 = 2 := rfl
  have n2 : Int32.ofNat 2 = nI 2 := rfl
  have hQ2 := hC.2.2.2.2.1
  rw [e, ← c_has (n := 2) (x := nI 2) rfl]
  unfold fX8_isImage
  rw [z1, z2, z3, z4, n2]
  by_cases h1 : a < 0
  · rw [if_pos h1, if_pos h1]
  · rw [if_neg h1, if_neg h1]
    by_cases h2 : nI 2 ≤ a
    · rw [if_pos h2, if_pos h2]
    · rw [if_neg h2, if_neg h2, if_neg h2]
      obtain ⟨n, hn, rfl⟩ := nI_of h1
      have hn2 : n < 2 := by rw [p_le (by omega) hn] at h2; omega
      have kk : KD (kcn n) = 0 := by rcases (show n = 0 ∨ n = 1 by omega) with rfl | rfl <;> rfl
      simp (disch := omega) only [p0, p1, p2, p3, p4, p5, p6, p7, p8, p9, p10, p11, p12, p14, p19, p23, p24, p25, p29, p30, p31, p35, p40, p46, p58, p60, p88, p99, p100, p112, p150, p9999, nI_add, nI_mul, ix_nI, p_sub, p_div, p_rem, p_shl, p_shr, p_and, p_or, inb_nI, decide_eq_true, decide_true, oG_t, hQ2 n hn2, kk]
/-- an image kept -/
def imS (S : ST) (i : Nat) : ST := (S.1, (fun k => if 304 * i ≤ k ∧ k < 304 * i + 304 then sT S (k - 304 * i) else sK S k), up1 (sF S) i 1, S.2.2.2)
theorem imS_K {S : ST} {i j k : Nat} (hi : i < 2) (hj : j < 2) (hk : k < 304) : sK (imS S i) (304 * j + k) = if j = i then sT S k else sK S (304 * j + k) := by
  show (if 304 * i ≤ 304 * j + k ∧ 304 * j + k < 304 * i + 304 then sT S (304 * j + k - 304 * i) else sK S (304 * j + k)) = _
  by_cases e : j = i
  · subst e
    rw [if_pos (by omega), if_pos rfl]
    congr 1
    omega
  · rw [if_neg (by omega), if_neg e]
theorem imS_wf {S : ST} {i : Nat} (hW : WfS S) (hi : i < 2) : WfS (imS S i) := by
  obtain ⟨w1, w2, w3, w4, w5⟩ := hW
  refine ⟨w1, fun j hj hf => ?_, w3, w4, fun j hj => ?_⟩
  · by_cases e : j = i
    · exact w1.ext (fun k hk => by rw [imS_K hi hj hk, if_pos e])
    · have hf2 : sF S j = 1 := by rw [← hf]; exact (up1_n e).symm
      exact (w2 j hj hf2).ext (fun k hk => by rw [imS_K hi hj hk, if_neg e])
  · show up1 (sF S) i 1 j = 0 ∨ _
    by_cases e : j = i
    · subst e; exact Or.inr up1_e
    · show up1 (sF S) i 1 j = 0 ∨ up1 (sF S) i 1 j = 1
      rw [up1_n e]; exact w5 j hj
theorem kcn_in (i : Nat) : kcn i = 1 ∨ kcn i = 100 ∨ kcn i = 181 := Or.inr (kcn_eq i)
theorem q21 : PC 262 1 = 264 := rfl
theorem q21s : SZ 264 = 608 := rfl
theorem q22 : PC 262 2 = 265 := rfl
theorem q22s : SZ 265 = 2 := rfl
theorem op_image : OP_image RR := by
  rintro a1 h ⟨S, hW, hC, hM⟩
  have hT := hW.1
  refine GO.out (S := S) (f9 := fun h1 => fX9_image 262 a1 h1) ?_
  unfold fX8_image fX9_image
  refine GO.chk (c_isImage hC) (fun h1 hM1 => m01) (fun _ => GO.bad hW hC hM (fun h1 q => rf8 q) (fun h1 => rfl)) (fun b1 => ?_)
  obtain ⟨i, rfl, -, hi1⟩ := wi_nI (a := a1) (lo := 0) (hi := 1) (by omega) (by omega) b1
  have hi : i < 2 := by omega
  have hQ2 := hC.2.2.2.2.1 i hi
  obtain ⟨qa, qb, qc⟩ := hC.2.2.2.1
  have qk : PasQ (kcn i) h := by rcases kcn_eq i with e | e <;> rw [e] <;> assumption
  have kk : KD (kcn i) = 0 := by rcases (show i = 0 ∨ i = 1 by omega) with rfl | rfl <;> rfl
  have hkc : kcn i = 100 ∨ kcn i = 181 := kcn_eq i
  have z1 : PC 0 1 = 82 := rfl
  have z2 : PC 0 2 = 83 := rfl
  have z3 : SZ 82 = 2 := rfl
  have z4 : SZ 83 = 2 := rfl
  obtain ⟨g, r1, l1, q1, E1⟩ := c_couCopy (d := kcn i) (s := 1) (kcn_in i) (Or.inl rfl) (by omega) hT hC.1 qk qa
  have hq : ∀ v a b, hQ (sI g 83 i v) a b = hQ h a b := fun v a b => E1.2.2 a b
  refine GO.act hM (imS_wf hW hi) 1 ⟨sI g 83 i 1, ?_, ?_, ?_⟩ (fun h1 m1 => ?_)
  · have b1 : isB (1 : Int32) = true := by decide
    rw [z00, z1, z2, z3, z4, b1]
    simp (disch := omega) only [inb_nI, ix_nI, decide_eq_true, decide_true, oG_t, oL_d, hQ2, kk, r1, ob_s]
  · obtain ⟨b1, b2, b3, -, b7, b8, b9, b10, b11, b12⟩ := hC
    refine ⟨?_, fun j hj hf => ?_, fun j hj => ?_, ⟨qa.eqs fun j _ => hq _ _ _, qb.eqs fun j _ => hq _ _ _, qc.eqs fun j _ => hq _ _ _⟩, fun j hj => ?_, fun j hj => ?_, ?_, ?_, fun k hk => ?_, ?_⟩
    · exact (b1.eqs qa (wf_cnt hT).2.2.2.2.2.1.2 (E1.eqs (by omega) (by omega))).eqs (qa.eqs fun j _ => E1.2.2 _ _) (wf_cnt hT).2.2.2.2.2.1.2 (Eqs.sI (by omega))
    · by_cases e : j = i
      · subst e
        have h2 := l1.eqs (h' := sI g 83 j 1) q1 (wf_cnt hT).2.2.2.2.2.1.2 (Eqs.sI (by omega))
        exact h2.ext (q1.eqs fun _ _ => rfl) hT (fun k hk => by rw [imS_K hi hj hk, if_pos rfl])
      · have hf2 : sF S j = 1 := by rw [← hf]; exact (up1_n e).symm
        have h2 := b2 j hj hf2
        have w2 := hW.2.1 j hj hf2
        have hkj := kcn_eq j
        have hne : kcn j ≠ kcn i := by
          rcases (show (j = 0 ∧ i = 1) ∨ (j = 1 ∧ i = 0) by omega) with ⟨rfl, rfl⟩ | ⟨rfl, rfl⟩ <;> decide
        have qj : PasQ (kcn j) h := by rcases kcn_eq j with e | e <;> rw [e] <;> assumption
        have h3 := (h2.eqs qj (wf_cnt w2).2.2.2.2.2.1.2 (E1.eqs (by omega) (by omega))).eqs (h' := sI g 83 i 1) (qj.eqs fun j _ => E1.2.2 _ _) (wf_cnt w2).2.2.2.2.2.1.2 (Eqs.sI (by omega))
        exact h3.ext (qj.eqs fun j _ => hq _ _ _) w2 (fun k hk => by rw [imS_K hi hj hk, if_neg e])
    · show hI (sI g 83 i 1) 83 j = up1 (sF S) i 1 j
      by_cases e : j = i
      · subst e; rw [sI_e, up1_e]
      · rw [sI_n (by omega), up1_n e, E1.1 _ _ (by omega) (by omega)]; exact b3 j hj
    · exact (hq _ _ _).trans (b7 j hj)
    · rw [sI_o (by omega), E1.1 _ _ (by omega) (by omega)]; exact b8 j hj
    · exact (E1.2.1 _ _).trans b9
    · exact (E1.2.1 _ _).trans b10
    · rw [sI_o (by omega), E1.1 _ _ (by omega) (by omega)]; exact b11 k hk
    · rw [sI_o (by omega), E1.1 _ _ (by omega) (by omega)]; exact b12
  · exact (E1.eqs (by omega) (by omega)).tr (Eqs.sI (by omega))
  · obtain ⟨⟨c1, c2, c3⟩, ⟨d1, d2, d3⟩, m3, m4, m5, m6, m7, m8⟩ := m1
    have p304 : (304 : Int32) = nI 304 := by decide
    show ∃ h2, fX9_image_19 FU 262 (nI i) 0 h1 = _ ∧ _
    rw [p0]
    refine run_cnt2 (fun n (c0 : Int32) (x : AH) => fX9_image_19 n 262 (nI i) c0 x) (fun q x => EqO 264 264 264 h1 x ∧ ∀ k, k < 608 → hI x 264 k = if 304 * i ≤ k ∧ k < 304 * i + q then sT S (k - 304 * i) else sK S k) 304 _ _ ?_ ?_ h1 ⟨EqO.rf, fun k hk => by rw [if_neg (by omega)]; exact d3 k hk⟩ FU (FU_lt (by omega))
    · rintro n q hh hq1 ⟨iE, iB⟩
      have f1 : hI hh 263 q = sT S q := by rw [iE.1 _ _ (by omega) (by omega)]; exact c3 q (by omega)
      show ∃ s' : AH, fX9_image_19 (n + 1) 262 (nI i) (nI q) hh = fX9_image_19 n 262 (nI i) (nI (q + 1)) s' ∧ _
      rw [fX9_image_19]
      simp (disch := omega) only [q20, q20s, q21, q21s, p304, p0, p1, p2, p3, p4, p5, p6, p7, p8, p9, p10, p11, p12, p14, p19, p23, p24, p25, p29, p30, p31, p35, p40, p46, p58, p60, p88, p99, p100, p112, p150, p9999, nI_add, nI_mul, ix_nI, p_sub, p_div, p_rem, p_shl, p_shr, p_and, p_or, inb_nI, p_le, if_neg, decide_eq_true, oG_t, oL_d, f1]
      refine ⟨_, rfl, iE.tr (EqO.sI (by omega)), fun k hk => ?_⟩
      by_cases e : k = 304 * i + q
      · subst e
        rw [sI_e, if_pos (by omega)]
        congr 1
        omega
      · rw [sI_n (by omega), iB k hk]
        by_cases e2 : 304 * i ≤ k ∧ k < 304 * i + q
        · rw [if_pos e2, if_pos (by omega)]
        · rw [if_neg e2, if_neg (by omega)]
    · rintro n hh ⟨iE, iB⟩
      have b1 : isB (1 : Int32) = true := by decide
      refine ⟨sI hh 265 i 1, ?_, ⟨⟨c1, c2, fun k hk => ?_⟩, ⟨d1, d2, fun k hk => ?_⟩, fun j hj => ?_, fun j hj => ?_, ?_, ?_, fun k hk => ?_, ?_⟩, (iE.eqs (by omega) (by omega)).tr (Eqs.sI (by omega))⟩
      · show fX9_image_19 (n + 1) 262 (nI i) (nI 304) hh = _
        rw [fX9_image_19, if_pos (by decide)]
        unfold fX9_image_50
        rw [b1]
        simp (disch := omega) only [q22, q22s, inb_nI, ix_nI, decide_eq_true, oG_t, oL_d]
      · rw [sI_o (by omega), iE.1 _ _ (by omega) (by omega)]; exact c3 k hk
      · rw [sI_o (by omega)]; exact iB k hk
      · show hI (sI hh 265 i 1) 265 j = up1 (sF S) i 1 j
        by_cases e : j = i
        · subst e; rw [sI_e, up1_e]
        · rw [sI_n (by omega), up1_n e, iE.1 _ _ (by omega) (by omega)]; exact m3 j hj
      · rw [sI_o (by omega), iE.1 _ _ (by omega) (by omega)]; exact m4 j hj
      · exact (iE.2.1 _ _).trans m5
      · exact (iE.2.1 _ _).trans m6
      · rw [sI_o (by omega), iE.1 _ _ (by omega) (by omega)]; exact m7 k hk
      · rw [sI_o (by omega), iE.1 _ _ (by omega) (by omega)]; exact m8
theorem op_from : OP_from RR := by
  rintro a1 h ⟨S, hW, hC, hM⟩
  have hT := hW.1
  refine GO.out (S := S) (f9 := fun h1 => fX9_from 262 a1 h1) ?_
  unfold fX8_from fX9_from
  refine GO.chk (c_isImage hC) (fun h1 hM1 => m01) (fun _ => GO.bad hW hC hM (fun h1 q => rf8 q) (fun h1 => rfl)) (fun b1 => ?_)
  obtain ⟨i, rfl, -, hi1⟩ := wi_nI (a := a1) (lo := 0) (hi := 1) (by omega) (by omega) b1
  have hi : i < 2 := by omega
  have hQ2 := hC.2.2.2.2.1 i hi
  obtain ⟨qa, qb, qc⟩ := hC.2.2.2.1
  have qk : PasQ (kcn i) h := by rcases kcn_eq i with e | e <;> rw [e] <;> assumption
  have kk : KD (kcn i) = 0 := by rcases (show i = 0 ∨ i = 1 by omega) with rfl | rfl <;> rfl
  have hkc : kcn i = 100 ∨ kcn i = 181 := kcn_eq i
  have z1 : PC 0 1 = 82 := rfl
  have z2 : PC 0 2 = 83 := rfl
  have z3 : SZ 82 = 2 := rfl
  have z4 : SZ 83 = 2 := rfl
  have h83 := hC.2.2.1 i hi
  rw [z1, z2, z3, z4]
  simp (disch := omega) only [inb_nI, ix_nI, decide_eq_true, oG_t, h83, hQ2]
  have e9 : ∀ h1, MR S h1 → (oG (decide (i < SZ (PC 262 2))) (if (hI h1 (PC 262 2) i) = 0 then ob2 (fX9_no 262 h1) fun v7 h6 => some (v7, h6) else fX9_from_33 FU 262 (nI i) (0 : Int32) h1)) = if sF S i = 0 then some (-3, sI h1 266 1 (hI h1 266 1 + 1)) else fX9_from_33 FU 262 (nI i) (0 : Int32) h1 := by
    intro h1 m1
    have m3 := m1.2.2.1 i hi
    rw [q22, q22s, oG_d (by omega), m3]
    rfl
  rcases hW.2.2.2.2 i hi with hf | hf
  · refine (GO.no (v := (-3 : Int32)) (f9 := fun h1 => some (-3, sI h1 266 1 (hI h1 266 1 + 1))) hW hC hM (fun h1 q => ?_) (fun h1 => rfl)).cng rfl (fun h1 m1 => by show oG _ _ = _; rw [e9 h1 m1, if_pos hf])
    rw [if_pos hf, q]
    rfl
  · have hf0 : ¬ sF S i = 0 := by rw [hf]; decide
    have w2 := hW.2.1 i hi hf
    obtain ⟨g, r1, l1, q1, E1⟩ := c_couCopy (d := 1) (s := kcn i) (Or.inl rfl) (kcn_in i) (by omega) w2 (hC.2.1 i hi hf) qa qk
    refine GO.act hM (hW.wT w2) 1 ⟨g, ?_, hC.cou hW l1 q1 (fun o k q r => ⟨E1.1 _ _ (by omega) (by omega), E1.2.1 _ _, E1.2.2 _ _⟩), E1.eqs (by omega) (by omega)⟩ (fun h1 m1 => ?_)
    · rw [if_neg hf0, z00, r1, ob_s]
    · show ∃ h2, oG _ _ = _ ∧ _
      rw [e9 h1 m1, if_neg hf0, p0]
      have c3 := m1.1.2.2
      have d3 := m1.2.1.2.2
      have p304 : (304 : Int32) = nI 304 := by decide
      refine run_cnt2 (fun n (c0 : Int32) (x : AH) => fX9_from_33 n 262 (nI i) c0 x) (fun q x => EqO 263 263 263 h1 x ∧ ∀ k, k < 304 → hI x 263 k = if k < q then sK S (304 * i + k) else sT S k) 304 _ _ ?_ ?_ h1 ⟨EqO.rf, fun k hk => by rw [if_neg (by omega)]; exact c3 k hk⟩ FU (FU_lt (by omega))
      · rintro n q hh hq1 ⟨iE, iB⟩
        have f1 : hI hh 264 (304 * i + q) = sK S (304 * i + q) := by rw [iE.1 _ _ (by omega) (by omega)]; exact d3 _ (by omega)
        show ∃ s' : AH, fX9_from_33 (n + 1) 262 (nI i) (nI q) hh = fX9_from_33 n 262 (nI i) (nI (q + 1)) s' ∧ _
        rw [fX9_from_33]
        simp (disch := omega) only [q20, q20s, q21, q21s, p304, p0, p1, p2, p3, p4, p5, p6, p7, p8, p9, p10, p11, p12, p14, p19, p23, p24, p25, p29, p30, p31, p35, p40, p46, p58, p60, p88, p99, p100, p112, p150, p9999, nI_add, nI_mul, ix_nI, p_sub, p_div, p_rem, p_shl, p_shr, p_and, p_or, inb_nI, p_le, if_neg, decide_eq_true, oG_t, oL_d, f1]
        refine ⟨_, rfl, iE.tr (EqO.sI (by omega)), fun k hk => ?_⟩
        by_cases e : k = q
        · subst e
          rw [sI_e, if_pos (by omega)]
        · rw [sI_n (by omega), iB k hk]
          by_cases e2 : k < q
          · rw [if_pos e2, if_pos (by omega)]
          · rw [if_neg e2, if_neg (by omega)]
      · rintro n hh ⟨iE, iB⟩
        refine ⟨hh, ?_, m1.row (fun k hk => by rw [iB k hk, if_pos hk]) iE.eqn, iE.eqs (by omega) (by omega)⟩
        show fX9_from_33 (n + 1) 262 (nI i) (nI 304) hh = _
        rw [fX9_from_33, if_pos (by decide)]
