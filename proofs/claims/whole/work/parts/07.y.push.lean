/-! PURE: what may be undone is kept (the class) -/
def pushT (T : Nat → Int32) : Nat → Int32 := fun k => if k = 5 then nI (min (tn T 5) 7 + 1) else if 112 + 24 * min (tn T 5) 7 ≤ k ∧ k < 112 + 24 * min (tn T 5) 7 + 24 then T (6 + (k - (112 + 24 * min (tn T 5) 7))) else if tn T 5 = 8 ∧ 112 ≤ k ∧ k < 280 then T (k + 24) else T k
section PT
variable {T : Nat → Int32}
theorem pushT_5 : pushT T 5 = nI (min (tn T 5) 7 + 1) := if_pos rfl
theorem tn_pushT5 (h5 : tn T 5 ≤ 8) : tn (pushT T) 5 = min (tn T 5) 7 + 1 := (congrArg ix pushT_5).trans (ix_nI (by omega))
theorem pushT_n {k : Nat} (h1 : k ≠ 5) (h2 : k < 112) : pushT T k = T k := by
  unfold pushT
  rw [if_neg h1, if_neg (by omega), if_neg (by omega)]
theorem pushT_new {i : Nat} (hi : i < 24) : pushT T (112 + 24 * min (tn T 5) 7 + i) = T (6 + i) := by
  unfold pushT
  rw [if_neg (by omega), if_pos (by omega)]
  congr 1
  omega
theorem pushT_old {k : Nat} (h1 : 112 ≤ k) (h2 : k < 112 + 24 * min (tn T 5) 7) : pushT T k = if tn T 5 = 8 then T (k + 24) else T k := by
  unfold pushT
  rw [if_neg (by omega), if_neg (by omega)]
  by_cases e : tn T 5 = 8
  · rw [if_pos e, if_pos ⟨e, h1, by omega⟩]
  · rw [if_neg e, if_neg (fun q => e q.1)]
/-- the row of the j-th that may be undone, behind a push -/
theorem TP_new (h5 : tn T 5 ≤ 8) {k : Nat} (hk : k < 46) (hk5 : k ≠ 5) : TP (pushT T) (min (tn T 5) 7) k = T k := by
  unfold TP
  by_cases q : 6 ≤ k ∧ k < 30
  · rw [if_pos q, pushT_new (by omega)]
    congr 1
    omega
  · rw [if_neg q, pushT_n hk5 (by omega)]
theorem TP_old {j k : Nat} (hj : j < min (tn T 5) 7) (hk : k < 46) (hk5 : k ≠ 5) : TP (pushT T) j k = if tn T 5 = 8 then TP T (j + 1) k else TP T j k := by
  unfold TP
  by_cases q : 6 ≤ k ∧ k < 30
  · rw [if_pos q, if_pos q, if_pos q, pushT_old (by omega) (by omega), show 112 + 24 * j + (k - 6) + 24 = 112 + 24 * (j + 1) + (k - 6) by omega]
  · rw [if_neg q, if_neg q, if_neg q, pushT_n hk5 (by omega)]
    split <;> rfl
theorem tnTP0 {j : Nat} : tn (TP T j) 0 = tn T 0 := tn_c (if_neg (by omega))
theorem tnTP1 {j : Nat} : tn (TP T j) 1 = tn T 1 := tn_c (if_neg (by omega))
theorem hb_past : ∀ k, k < 304 → 112 ≤ k → k + 24 < 304 → HB (k + 24) = HB k := by decide +kernel
theorem hb_past0 : ∀ i, i < 24 → ∀ j, j < 8 → HB (112 + 24 * j + i) = HB (6 + i) := by decide +kernel
theorem pushT_wf (hT : WfU T 304) : WfU (pushT T) 304 := by
  have h5 := (wf_cnt hT).2.2.2.2.2.1
  intro k hk hb
  by_cases e5 : k = 5
  · subst e5
    rw [tn_pushT5 h5.2, pushT_5]
    exact ⟨rfl, by show _ ≤ 8; omega⟩
  · by_cases e1 : k < 112
    · have e := pushT_n (T := T) e5 e1
      unfold tn
      rw [e]
      exact hT k hk hb
    · by_cases e2 : 112 + 24 * min (tn T 5) 7 ≤ k ∧ k < 112 + 24 * min (tn T 5) 7 + 24
      · have e := pushT_new (T := T) (show k - (112 + 24 * min (tn T 5) 7) < 24 by omega)
        have hb2 := hb_past0 (k - (112 + 24 * min (tn T 5) 7)) (by omega) (min (tn T 5) 7) (by omega)
        rw [show 112 + 24 * min (tn T 5) 7 + (k - (112 + 24 * min (tn T 5) 7)) = k by omega] at e hb2
        unfold tn
        rw [e, hb2]
        exact hT _ (by omega) (by omega)
      · by_cases e3 : tn T 5 = 8 ∧ 112 ≤ k ∧ k < 280
        · have e : pushT T k = T (k + 24) := by unfold pushT; rw [if_neg e5, if_neg e2, if_pos e3]
          have hb2 := hb_past k hk (by omega) (by omega)
          unfold tn
          rw [e, ← hb2]
          exact hT _ (by omega) (by omega)
        · have e : pushT T k = T k := by unfold pushT; rw [if_neg e5, if_neg e2, if_neg e3]
          unfold tn
          rw [e]
          exact hT k hk hb
end PT
/-- the county of the class but for its land -/
theorem CouR.la {c : Nat} {T T' : Nat → Int32} {h h' : AH} (a : CouR c T h) (n2 : tn T 2 ≤ 6) (n3 : tn T 3 ≤ 6) (n4 : tn T 4 ≤ 6) (he : Eqs (c + 75) (c + 80) h h') (e : ∀ k, ((2 ≤ k ∧ k ≤ 4) ∨ (46 ≤ k ∧ k < 112)) → T' k = T k) (hl : LaR (c + 1) T' h') (h5 : hI h' (c + 9) 1 = T' 5) (hp : ∀ j, j < tn T' 5 → LaR (hQ h' (c + 10) j) (TP T' j) h') : CouR c T' h' := by
  obtain ⟨-, -, -, a4, a5, a6, a7, a8, a9⟩ := a
  have e2 := tn_c (e 2 (by omega))
  have e3 := tn_c (e 3 (by omega))
  have e4 := tn_c (e 4 (by omega))
  refine ⟨hl, h5, hp, ?_, fun j hj i hi => ?_, ?_, fun j hj i hi => ?_, ?_, fun j hj i hi => ?_⟩
  · rw [(he _ (by omega) (by omega) _).1, e 2 (by omega)]; exact a4
  · rw [e2] at hj; rw [(he _ (by omega) (by omega) _).1, e _ (by omega)]; exact a5 j hj i hi
  · rw [(he _ (by omega) (by omega) _).1, e 3 (by omega)]; exact a6
  · rw [e3] at hj; rw [(he _ (by omega) (by omega) _).1, e _ (by omega)]; exact a7 j hj i hi
  · rw [(he _ (by omega) (by omega) _).1, e 4 (by omega)]; exact a8
  · rw [e4] at hj; rw [(he _ (by omega) (by omega) _).1, e _ (by omega)]; exact a9 j hj i hi
/-- what may change as long as what may be undone is shifted -/
def EqC (lo hi : Nat) (h h' : AH) : Prop := ∀ a b, (a < lo ∨ hi < a) → hI h' a b = hI h a b ∧ hJ h' a b = hJ h a b ∧ hQ h' a b = hQ h a b
section EQC
variable {lo hi x : Nat} {h h' h'' : AH}
theorem EqC.rf : EqC lo hi h h := fun _ _ _ => ⟨rfl, rfl, rfl⟩
theorem EqC.tr (a : EqC lo hi h h') (b : EqC lo hi h' h'') : EqC lo hi h h'' := fun c d q => ⟨(b c d q).1.trans (a c d q).1, (b c d q).2.1.trans (a c d q).2.1, (b c d q).2.2.trans (a c d q).2.2⟩
theorem EqC.sI {o k : Nat} {v : Int32} (h1 : lo ≤ o) (h2 : o ≤ hi) : EqC lo hi h (sI h o k v) := fun a b q => ⟨sI_o (by omega), rfl, rfl⟩
theorem sQ_n {o k a b v : Nat} (hn : ¬ (a = o ∧ b = k)) : hQ (sQ h o k v) a b = hQ h a b := if_neg hn
theorem sQ_e {o k v : Nat} : hQ (sQ h o k v) o k = v := if_pos ⟨rfl, rfl⟩
theorem EqC.sQ {o k v : Nat} (h1 : lo ≤ o) (h2 : o ≤ hi) : EqC lo hi h (sQ h o k v) := fun a b q => ⟨rfl, rfl, sQ_n (by omega)⟩
theorem EqC.eqs (a : EqC lo hi h h') {l r : Nat} (h1 : r < lo ∨ hi < l) : Eqs l r h h' := fun o q1 q2 k => a o k (by omega)
theorem EqO.eqc (a : EqO lo hi x h h') {lo' hi' : Nat} (h1 : lo' ≤ lo) (h2 : hi ≤ hi') (h3 : lo' ≤ x ∧ x ≤ hi') : EqC lo' hi' h h' := fun c d q => ⟨a.1 c d (by omega) (by omega), a.2.1 c d, a.2.2 c d⟩
end EQC
theorem kd_past : ∀ c, (c = 1 ∨ c = 100 ∨ c = 181) → KD c = 0 ∧ KD (c + 9) = 2 ∧ KD (c + 10) = 12 ∧ SZ (c + 10) = 8 ∧ PC (c + 9) 0 = c + 10 ∧ (∀ i, i < 8 → KD (c + 11 + 8 * i) = 1) ∧ KD (c + 1) = 1 := by
  rintro c (rfl | rfl | rfl) <;> exact ⟨rfl, rfl, rfl, rfl, rfl, by decide +kernel, rfl⟩
/-- the oldest is shifted behind the others -/
theorem c_drop {c : Nat} {h : AH} (hc : c = 1 ∨ c = 100 ∨ c = 181) (hq : PasQ c h) : ∃ h1, fX3_dropOldest (c + 9) h = some h1 ∧ PasQ c h1 ∧ hI h1 (c + 9) 1 = nI 7 ∧ (∀ a b, a ≠ c + 9 → hI h1 a b = hI h a b) ∧ (∀ a b, hJ h1 a b = hJ h a b) ∧ (∀ a b, a ≠ c + 10 → hQ h1 a b = hQ h a b) ∧ ∀ j, j < 7 → hQ h1 (c + 10) j = hQ h (c + 10) (j + 1) := by
  obtain ⟨-, k9, k10, z10, pc9, kl, -⟩ := kd_past c hc
  have hkd : ∀ j, j < 8 → KD (hQ h (c + 10) j) = 1 := by
    intro j hj
    obtain ⟨i, hi, e⟩ := hq.1 j hj
    rw [e]; exact kl i hi
  have n8 : Int32.ofNat 8 = nI 8 := rfl
  unfold fX3_dropOldest
  simp (disch := omega) only [pc9, z10, p0, p1, p2, p3, p4, p5, p6, p7, p8, p9, p10, p11, p12, p14, p19, p23, p24, p25, p29, p30, p31, p35, p40, p46, p58, p60, p88, p99, p100, p112, p150, p9999, nI_add, nI_mul, ix_nI, p_sub, p_div, p_rem, p_shl, p_shr, p_and, p_or, inb_nI, decide_eq_true, oG_t, hkd 0 (by omega)]
  refine run_ex (fun n (x : Int32 × AH) => fX3_dropOldest_9 n (c + 9) (hQ h (c + 10) 0) x.1 x.2) (fun i x => x.1 = nI (i + 1) ∧ (∀ a b, hI x.2 a b = hI h a b) ∧ (∀ a b, hJ x.2 a b = hJ h a b) ∧ (∀ a b, a ≠ c + 10 → hQ x.2 a b = hQ h a b) ∧ (∀ j, j < i → hQ x.2 (c + 10) j = hQ h (c + 10) (j + 1)) ∧ ∀ j, i ≤ j → hQ x.2 (c + 10) j = hQ h (c + 10) j) 7 _ ?_ ?_ (nI 1, h) ⟨rfl, fun _ _ => rfl, fun _ _ => rfl, fun _ _ _ => rfl, fun j q => by omega, fun _ _ => rfl⟩ FU (FU_lt (by omega))
  · rintro n i ⟨s1, hh⟩ hi ⟨i1, iI, iJ, iQ, iA, iB⟩
    simp only at i1 iI iJ iQ iA iB
    subst i1
    have e1 : KD (hQ hh (c + 10) (i + 1)) = 1 := by rw [iB _ (by omega)]; exact hkd _ (by omega)
    show ∃ s' : Int32 × AH, fX3_dropOldest_9 (n + 1) (c + 9) (hQ h (c + 10) 0) (nI (i + 1)) hh = fX3_dropOldest_9 n (c + 9) (hQ h (c + 10) 0) s'.1 s'.2 ∧ _
    rw [fX3_dropOldest_9]
    simp (disch := omega) only [pc9, z10, n8, p0, p1, p2, p3, p4, p5, p6, p7, p8, p9, p10, p11, p12, p14, p19, p23, p24, p25, p29, p30, p31, p35, p40, p46, p58, p60, p88, p99, p100, p112, p150, p9999, nI_add, nI_mul, ix_nI, p_sub, p_div, p_rem, p_shl, p_shr, p_and, p_or, inb_nI, p_le, if_neg, decide_eq_true, oG_t, oL_d, e1, Nat.add_sub_cancel]
    refine ⟨(nI (i + 1 + 1), sQ hh (c + 10) i (hQ hh (c + 10) (i + 1))), rfl, rfl, iI, iJ, fun a b q => ?_, fun j q => ?_, fun j q => ?_⟩
    · rw [sQ_n (by omega)]; exact iQ a b q
    · by_cases e : j = i
      · subst e; rw [sQ_e]; exact iB _ (by omega)
      · rw [sQ_n (by omega)]; exact iA j (by omega)
    · rw [sQ_n (by omega)]; exact iB j (by omega)
  · rintro n ⟨s1, hh⟩ ⟨i1, iI, iJ, iQ, iA, iB⟩
    simp only at i1 iI iJ iQ iA iB
    subst i1
    have hN : ∀ a b, hQ (sI (sQ hh (c + 10) 7 (hQ h (c + 10) 0)) (c + 9) 1 (nI 7)) a b = hQ (sQ hh (c + 10) 7 (hQ h (c + 10) 0)) a b := fun _ _ => rfl
    have hsh : ∀ j, j < 7 → hQ (sI (sQ hh (c + 10) 7 (hQ h (c + 10) 0)) (c + 9) 1 (nI 7)) (c + 10) j = hQ h (c + 10) (j + 1) := fun j q => by rw [hN, sQ_n (by omega)]; exact iA j q
    have hl : hQ (sI (sQ hh (c + 10) 7 (hQ h (c + 10) 0)) (c + 9) 1 (nI 7)) (c + 10) 7 = hQ h (c + 10) 0 := by rw [hN, sQ_e]
    refine ⟨sI (sQ hh (c + 10) 7 (hQ h (c + 10) 0)) (c + 9) 1 (nI 7), ?_, ⟨fun j hj => ?_, fun j hj j' hj' e => ?_⟩, sI_e, fun a b q => ?_, iJ, fun a b q => ?_, hsh⟩
    · show fX3_dropOldest_9 (n + 1) (c + 9) (hQ h (c + 10) 0) (nI (7 + 1)) hh = _
      rw [fX3_dropOldest_9]
      unfold fX3_dropOldest_38
      simp (disch := omega) only [pc9, z10, n8, p0, p1, p2, p3, p4, p5, p6, p7, p8, p9, p10, p11, p12, p14, p19, p23, p24, p25, p29, p30, p31, p35, p40, p46, p58, p60, p88, p99, p100, p112, p150, p9999, nI_add, nI_mul, ix_nI, p_sub, p_div, p_rem, p_shl, p_shr, p_and, p_or, inb_nI, p_le, if_true, Nat.le_refl, decide_eq_true, oG_t, oL_d]
    · by_cases e : j = 7
      · subst e; rw [hl]; exact hq.1 0 (by omega)
      · rw [hsh j (by omega)]; exact hq.1 (j + 1) (by omega)
    · by_cases e1 : j = 7
      · by_cases e2 : j' = 7
        · omega
        · rw [e1, hl, hsh j' (by omega)] at e
          have := hq.2 0 (by omega) (j' + 1) (by omega) e
          omega
      · by_cases e2 : j' = 7
        · rw [e2, hl, hsh j (by omega)] at e
          have := hq.2 (j + 1) (by omega) 0 (by omega) e
          omega
        · rw [hsh j (by omega), hsh j' (by omega)] at e
          have := hq.2 (j + 1) (by omega) (j' + 1) (by omega) e
          omega
    · rw [sI_o q]; exact iI a b
    · rw [hN, sQ_n (fun e => q e.1)]; exact iQ a b q
