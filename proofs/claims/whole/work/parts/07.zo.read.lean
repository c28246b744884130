/-! PURE: read (the class) -/
theorem itR_ok {b : Nat → Nat} {L W sh p : Nat} (h : itR b L W sh p = none) : ∀ i, i < nbh W → loN W i ≤ va b L (tbg b L (px b L p i)) ∧ va b L (tbg b L (px b L p i)) < hiN W i sh := by
  intro i hi
  have h1 := itR_none h i hi
  unfold nk at h1
  rw [Bool.and_eq_true, Bool.and_eq_true, decide_eq_true_eq, decide_eq_true_eq, decide_eq_true_eq] at h1
  exact h1.2
theorem may_ok {W n : Nat} {T : Nat → Int32} (h : may W n T = true) (hW : W ≤ 6) : W < 6 ∧ (W = 1 → tn T 0 < 5) ∧ (W = 3 → tn T 1 < 6) := by
  unfold may at h
  by_cases hn : n = 0
  · rw [if_pos hn, decide_eq_true_eq] at h
    omega
  · rw [if_neg hn, Bool.and_eq_true, Bool.and_eq_true, Bool.and_eq_true, decide_eq_true_eq, decide_eq_true_eq, decide_eq_true_eq, decide_eq_true_eq] at h
    exact ⟨by omega, h.2.2.1, h.2.2.2⟩
/-- what an item needs -/
def itOk (T : Nat → Int32) (W : Nat) (v : Nat → Nat) : Prop := W < 6 ∧ (W = 1 → tn T 0 < 5 ∧ v 0 < 6 ∧ v 1 < 30 ∧ v 2 < 10) ∧ (W = 2 → v 0 < tn T 0) ∧ (W = 3 → tn T 1 < 6 ∧ v 0 < 6 ∧ v 1 < 30) ∧ (W = 4 → v 0 < 30) ∧ (W = 5 → v 0 < 100)
theorem itOk_of {b : Nat → Nat} {L W n p : Nat} {T : Nat → Int32} (hm : may W n T = true) (hW : W ≤ 6) (h : itR b L W (tn T 0) p = none) : itOk T W (fun i => va b L (tbg b L (px b L p i))) := by
  obtain ⟨m1, m2, m3⟩ := may_ok hm hW
  have hv := itR_ok h
  refine ⟨m1, fun e => ?_, fun e => ?_, fun e => ?_, fun e => ?_, fun e => ?_⟩ <;> subst e
  · have a0 := (hv 0 (by decide)).2
    have a1 := (hv 1 (by decide)).2
    have a2 := (hv 2 (by decide)).2
    exact ⟨m2 rfl, a0, a1, a2⟩
  · exact (hv 0 (by decide)).2
  · have a0 := (hv 0 (by decide)).2
    have a1 := (hv 1 (by decide)).2
    exact ⟨m3 rfl, a0, a1⟩
  · exact (hv 0 (by decide)).2
  · exact (hv 0 (by decide)).2
def zer (T : Nat → Int32) : Prop := ∀ k, 2 ≤ k → k ≤ 5 → T k = 0
theorem itT_wf {T : Nat → Int32} {W : Nat} {v : Nat → Nat} (hT : WfU T 112) (hk : itOk T W v) : WfU (itT T W v) 112 := by
  obtain ⟨k0, k1, k2, k3, k4, k5⟩ := hk
  have n0 := (wf_0 hT (by omega)).2
  have n13 := (wf_13 hT (by omega)).2
  unfold itT
  by_cases e1 : W = 1
  · rw [if_pos e1]
    obtain ⟨a, b, c, d⟩ := k1 e1
    exact shT_wf hT a b c d
  · rw [if_neg e1]
    by_cases e2 : W = 2
    · rw [if_pos e2]
      have a := k2 e2
      obtain ⟨-, b2, -, -⟩ := hb_stands (v 0) (by omega)
      rw [p0]
      exact hT.up (by omega) (by omega)
    · rw [if_neg e2]
      by_cases e3 : W = 3
      · rw [if_pos e3]
        obtain ⟨a, b, c⟩ := k3 e3
        exact waT_wf hT a b c
      · rw [if_neg e3]
        by_cases e4 : W = 4
        · rw [if_pos e4]
          exact doT_wf hT (by omega)
        · rw [if_neg e4]
          by_cases e5 : W = 5
          · rw [if_pos e5]
            exact hT.up (by show _ ≤ 9999; omega) (by omega)
          · rw [if_neg e5]; exact hT
theorem itT_zer {T : Nat → Int32} {W : Nat} {v : Nat → Nat} (hT : WfU T 112) (hz : zer T) (hk : itOk T W v) : zer (itT T W v) := by
  obtain ⟨k0, k1, k2, k3, k4, k5⟩ := hk
  have n0 := (wf_0 hT (by omega)).2
  have n1 := (wf_1 hT (by omega)).2
  intro k h1 h2
  have hz' := hz k h1 h2
  unfold itT
  by_cases e1 : W = 1
  · rw [if_pos e1, shT_n (by have := (k1 e1).1; omega) (by omega)]; exact hz'
  · rw [if_neg e1]
    by_cases e2 : W = 2
    · rw [if_pos e2, up1_n (by omega)]; exact hz'
    · rw [if_neg e2]
      by_cases e3 : W = 3
      · rw [if_pos e3, waT_n (by have := (k3 e3).1; omega) (by omega)]; exact hz'
      · rw [if_neg e3]
        by_cases e4 : W = 4
        · rw [if_pos e4, doT_n n1 (by omega)]; exact hz'
        · rw [if_neg e4]
          by_cases e5 : W = 5
          · rw [if_pos e5, up1_n (by omega)]; exact hz'
          · rw [if_neg e5]; exact hz'
theorem c_carry {T : Nat → Int32} {W : Nat} {v : Nat → Nat} {h : AH} (hT : WfU T 112) (hR : LaR 84 T h) (hk : itOk T W v) (e1 : hI h 94 1 = nI W) (ev : ∀ i, i < nbh W → hI h 96 i = nI (v i)) : ∃ h1, fX5_carryOut 94 84 92 h = some h1 ∧ LaR 84 (itT T W v) h1 ∧ EqO 84 91 93 h h1 := by
  obtain ⟨k0, k1, k2, k3, k4, k5⟩ := hk
  have n0 := wf_0 hT (by omega)
  have n1 := wf_1 hT (by omega)
  have n13 := wf_13 hT (by omega)
  have i0 : inb (0 : Int32) 3 = true := by decide
  have i1 : inb (1 : Int32) 3 = true := by decide
  have i2 : inb (2 : Int32) 3 = true := by decide
  have x0 : ix (0 : Int32) = 0 := by decide
  have x1 : ix (1 : Int32) = 1 := by decide
  have x2 : ix (2 : Int32) = 2 := by decide
  unfold fX5_carryOut
  rw [oL_d, e1, z942, z96s, i0, i1, i2, oG_T, oG_T, oG_T, oG_T, oG_T, oG_T, oG_T, oG_T, oG_T, x0, x1, x2]
  rcases (show W = 0 ∨ W = 1 ∨ W = 2 ∨ W = 3 ∨ W = 4 ∨ W = 5 by omega) with rfl | rfl | rfl | rfl | rfl | rfl
  · exact ⟨h, rfl, hR, EqO.rf⟩
  · obtain ⟨a, b, c, d⟩ := k1 rfl
    obtain ⟨g, r1, l1, E1⟩ := c_addShow (k := nI (v 0)) (c := nI (v 1)) (l := nI (v 2)) hT (show 46 ≤ 112 by omega) hR a
    refine ⟨g, ?_, l1, E1.wd (by omega) (by omega) (by omega)⟩
    rw [if_pos (by decide), ev 0 (by decide), ev 1 (by decide), ev 2 (by decide), r1, ob2_s]
  · have a := k2 rfl
    have zz : SZ (PC 84 7) = 5 := rfl
    have hh : hs (tn T 0) (nI (v 0)) = true := hs_t a (by omega)
    refine ⟨sI h 88 (v 0) 0, ?_, ?_, EqO.sI (by omega)⟩
    · rw [if_neg (by decide), if_pos (by decide), ev 0 (by decide), c_hasShow hT (show 46 ≤ 112 by omega) hR, hh, ob_s, if_neg (by decide), zz, inb_nI (by omega), oG_d (by omega), oL_d, ix_nI (by omega)]
      rfl
    · show LaR 84 (up1 T (25 + v 0) 0) _
      exact hR.upd n0.2 n1.2 (by omega)
  · obtain ⟨a, b, c⟩ := k3 rfl
    obtain ⟨g, r1, l1, E1⟩ := c_addWatcher (k := nI (v 0)) (c := nI (v 1)) hT (show 46 ≤ 112 by omega) hR a
    refine ⟨g, ?_, l1, E1.wd (by omega) (by omega) (by omega)⟩
    rw [if_neg (by decide), if_neg (by decide), if_pos (by decide), ev 0 (by decide), ev 1 (by decide), r1, ob2_s]
  · have a := k4 rfl
    obtain ⟨g, r1, l1, E1⟩ := c_doing hT (show 46 ≤ 112 by omega) hR (by omega) a
    refine ⟨g, ?_, l1, E1⟩
    rw [if_neg (by decide), if_neg (by decide), if_neg (by decide), if_pos (by decide), ev 0 (by decide), r1, ob2_s]
  · have a := k5 rfl
    refine ⟨sI h 84 0 (nI (min 9999 (tn T 13 + v 0))), ?_, ?_, EqO.sI (by omega)⟩
    · rw [if_neg (by decide), if_neg (by decide), if_neg (by decide), if_neg (by decide), if_pos (by decide), ev 0 (by decide)]
      unfold fX2_pass
      rw [hR.2.1, n13.1, p9999, nI_add, c_min _ _ (by omega) (by omega), oL_d, ob_s]
    · show LaR 84 (up1 T 13 (nI (min 9999 (tn T 13 + v 0)))) _
      exact hR.upd n0.2 n1.2 (by omega)
section CRD
variable {b : Nat → Nat} {L : Nat}
theorem c_item {T : Nat → Int32} {h : AH} {n p : Nat} (ht : TX b L h) (hT : WfU T 112) (hR : LaR 84 T h) (hp : p ≤ L) (e4 : hI h 94 4 = nI (en b L (tbg b L p))) (e5 : hI h 94 5 = nI (srt b L (tbg b L p))) (e6 : hI h 94 6 = nI (tbg b L p)) (e7 : srt b L (tbg b L p) = 1 → hI h 94 7 = wV (wNo b L (tbg b L p))) : ∃ h1, fX5_takeItem 94 (if n = 0 then 1 else 0) 84 h = some ((if srt b L (tbg b L p) = 1 ∧ may (wNo b L (tbg b L p)) n T = true ∧ itR b L (wNo b L (tbg b L p)) (tn T 0) (en b L (tbg b L p)) = none then 1 else 0), h1) ∧ (srt b L (tbg b L p) = 1 → may (wNo b L (tbg b L p)) n T = true → (∀ e, itR b L (wNo b L (tbg b L p)) (tn T 0) (en b L (tbg b L p)) = some e → hI h1 94 6 = nI e) ∧ (itR b L (wNo b L (tbg b L p)) (tn T 0) (en b L (tbg b L p)) = none → hI h1 94 1 = nI (wNo b L (tbg b L p)) ∧ hI h1 94 4 = nI (en b L (tbg b L (px b L (en b L (tbg b L p)) (nbh (wNo b L (tbg b L p)))))) ∧ ∀ i, i < nbh (wNo b L (tbg b L p)) → hI h1 96 i = nI (va b L (tbg b L (px b L (en b L (tbg b L p)) i))))) ∧ (¬ (srt b L (tbg b L p) = 1 ∧ may (wNo b L (tbg b L p)) n T = true) → hI h1 94 6 = nI (tbg b L p)) ∧ EqB h h1 := by
  have hq := (tbg_le (b := b) hp).2
  have hen := (en_le (b := b) hq).2
  have hW := wNo_le (b := b) (L := L) (q := tbg b L p)
  have hsl := srt_le (b := b) (L := L) (q := tbg b L p)
  have n0 := wf_0 hT (by omega)
  have es : hI h 84 2 = nI (tn T 0) := hR.2.2.2.1.trans n0.1
  generalize hqd : tbg b L p = q at *
  unfold fX5_takeItem
  rw [e5]
  by_cases h1 : srt b L q = 1
  · rw [if_pos (by rw [h1]; decide), e7 h1, c_may hT hR hW, ob_s]
    cases hm : may (wNo b L q) n T with
    | false =>
      rw [if_pos (by decide), if_neg (fun r => by simp at r)]
      exact ⟨h, rfl, fun _ r => absurd r (by decide), fun _ => e6, EqB.rf⟩
    | true =>
      obtain ⟨m1, -, -⟩ := may_ok hm hW
      rw [if_neg (by decide), oL_d, wV_lt m1, p0]
      have hE : EqB h (sI h 94 1 (nI (wNo b L q))) := EqB.sI (by omega)
      obtain ⟨g, r1, r2, r3, rE⟩ := c_nums (h := sI h 94 1 (nI (wNo b L q))) (p := en b L q) (sh := tn T 0) (ht.eqb hE) m1 hen sI_e (by rw [sI_n (by omega)]; exact e4) (by rw [sI_o (by omega)]; exact es) (by omega)
      refine ⟨g, ?_, fun _ _ => ⟨r2, r3⟩, fun r => absurd ⟨h1, rfl⟩ r, hE.tr rE⟩
      rw [r1]
      by_cases e : itR b L (wNo b L q) (tn T 0) (en b L q) = none
      · rw [if_pos e, if_pos ⟨h1, rfl, e⟩]
      · rw [if_neg e, if_neg (fun r => e r.2.2)]; rfl
  · rw [if_neg (by rw [p1, p_eq (by omega) (by omega)]; exact h1), if_neg (fun r => h1 r.1)]
    exact ⟨h, rfl, fun r => absurd r h1, fun _ => e6, EqB.rf⟩
theorem rdF_end {d n p : Nat} {T : Nat → Int32} (h1 : srt b L (tbg b L p) = 0) (h2 : 0 < n) : rdF b L (d + 1) n p T = (true, n, T) := by rw [rdF, if_pos ⟨h1, h2⟩]
theorem rdF_bad {d n p : Nat} {T : Nat → Int32} (h1 : ¬ (srt b L (tbg b L p) = 0 ∧ 0 < n)) (h2 : ¬ (srt b L (tbg b L p) = 1 ∧ may (wNo b L (tbg b L p)) n T = true)) : rdF b L (d + 1) n p T = (false, tbg b L p, T) := by rw [rdF, if_neg h1, if_neg h2]
theorem rdF_fault {d n p e : Nat} {T : Nat → Int32} (h1 : srt b L (tbg b L p) = 1) (h2 : may (wNo b L (tbg b L p)) n T = true) (h3 : itR b L (wNo b L (tbg b L p)) (tn T 0) (en b L (tbg b L p)) = some e) : rdF b L (d + 1) n p T = (false, e, T) := by
  rw [rdF, if_neg (fun r => by omega), if_pos ⟨h1, h2⟩]
  simp only [h3]
theorem rdF_go {d n p : Nat} {T : Nat → Int32} (h1 : srt b L (tbg b L p) = 1) (h2 : may (wNo b L (tbg b L p)) n T = true) (h3 : itR b L (wNo b L (tbg b L p)) (tn T 0) (en b L (tbg b L p)) = none) : rdF b L (d + 1) n p T = rdF b L d (n + 1) (en b L (tbg b L (px b L (en b L (tbg b L p)) (nbh (wNo b L (tbg b L p)))))) (itT T (wNo b L (tbg b L p)) (fun i => va b L (tbg b L (px b L (en b L (tbg b L p)) i)))) := by
  rw [rdF, if_neg (fun r => by omega), if_pos ⟨h1, h2⟩]
  simp only [h3]
theorem rd_next {p W : Nat} (hp : p ≤ L) (h1 : srt b L (tbg b L p) = 1) : p < en b L (tbg b L (px b L (en b L (tbg b L p)) (nbh W))) ∧ en b L (tbg b L (px b L (en b L (tbg b L p)) (nbh W))) ≤ L := by
  have hq := tbg_le (b := b) hp
  have hne : tbg b L p ≠ L := fun e => by rw [srt_0.mpr e] at h1; omega
  have h2 := en_gt (b := b) (show tbg b L p < L by omega)
  have h3 := en_le (b := b) hq.2
  have h4 := px_le (b := b) h3.2 (nbh W)
  have h5 := tbg_le (b := b) h4.2
  have h6 := en_le (b := b) h5.2
  omega
theorem rdF_is : ∀ d n p T, L - p < d → n ≤ p → p ≤ L → WfU T 112 → zer T → (rdF b L d n p T).2.1 ≤ L ∧ ((rdF b L d n p T).1 = true → WfU (rdF b L d n p T).2.2 112 ∧ zer (rdF b L d n p T).2.2) := by
  intro d
  induction d with
  | zero => intro n p T h1; omega
  | succ d ih =>
    intro n p T h1 hn hp hT hz
    have hq := tbg_le (b := b) hp
    by_cases c1 : srt b L (tbg b L p) = 0 ∧ 0 < n
    · rw [rdF_end c1.1 c1.2]; exact ⟨by show n ≤ L; omega, fun _ => ⟨hT, hz⟩⟩
    · by_cases c2 : srt b L (tbg b L p) = 1 ∧ may (wNo b L (tbg b L p)) n T = true
      · cases hit : itR b L (wNo b L (tbg b L p)) (tn T 0) (en b L (tbg b L p)) with
        | some e =>
          rw [rdF_fault c2.1 c2.2 hit]
          refine ⟨?_, fun r => by cases r⟩
          show e ≤ L
          have h3 := en_le (b := b) hq.2
          unfold itR at hit
          rcases firstOf (fun i => !nk b L (wNo b L (tbg b L p)) (tn T 0) (en b L (tbg b L p)) i) (nbh (wNo b L (tbg b L p))) with hnn | ⟨k, hk, hk1, hk2⟩
          · rw [itN_all _ (fun i hi => by have := hnn i hi; simpa using this)] at hit
            have hit' : (if srt b L (tbg b L (px b L (en b L (tbg b L p)) (nbh (wNo b L (tbg b L p))))) = 3 then none else some (tbg b L (px b L (en b L (tbg b L p)) (nbh (wNo b L (tbg b L p)))))) = some e := hit
            split at hit'
            · cases hit'
            · cases hit'
              exact (tbg_le (px_le h3.2 _).2).2
          · rw [itN_first (by simpa using hk1) (fun i hi => by have := hk2 i hi; simpa using this) _ hk] at hit
            cases hit
            exact (tbg_le (px_le h3.2 _).2).2
        | none =>
          have hnx := rd_next (W := wNo b L (tbg b L p)) hp c2.1
          have hok := itOk_of c2.2 wNo_le hit
          rw [rdF_go c2.1 c2.2 hit]
          exact ih _ _ _ (by omega) (by omega) hnx.2 (itT_wf hT hok) (itT_zer hT hz hok)
      · rw [rdF_bad c1 c2]; exact ⟨hq.2, fun r => by cases r⟩
theorem TX.eqo {h h' : AH} (a : TX b L h) (e : EqO 84 91 93 h h') : TX b L h' := ⟨(e.1 _ _ (by omega) (by omega)).trans a.1, fun k hk => (e.1 _ _ (by omega) (by omega)).trans (a.2.1 k hk), a.2.2⟩
theorem c_loop : ∀ d n p m T h, L - p < d → d ≤ m → n ≤ p → p ≤ L → TX b L h → WfU T 112 → zer T → LaR 84 T h → hI h 94 4 = nI p → ∃ h1, fX5_readInto_11 m 94 84 92 (nI n) h = some ((if (rdF b L d n p T).1 = true then nI (rdF b L d n p T).2.1 else -10 - nI (rdF b L d n p T).2.1), h1) ∧ ((rdF b L d n p T).1 = true → LaR 84 (rdF b L d n p T).2.2 h1) ∧ EqQ h h1 := by
  intro d
  induction d with
  | zero => intro n p m T h h1; omega
  | succ d ih =>
    intro n p m T h h1 hm hn hp ht hT hz hR e4
    obtain ⟨m, rfl⟩ : ∃ q, m = q + 1 := ⟨m - 1, by omega⟩
    have t3 := ht.2.2.1
    have hq := tbg_le (b := b) hp
    obtain ⟨g, a1, a4, a5, a6, a7, -, aE⟩ := c_advance ht hp e4
    have htg := ht.eqa aE
    have hRg : LaR 84 T g := hR.eqs (aE.eqb.eqs (by omega))
    obtain ⟨g1, b1, b2, b3, bE⟩ := c_item (n := n) htg hT hRg hp a4 a5 a6 a7
    have hEg1 : EqQ h g1 := (aE.eqb.tr bE).eqq
    have hRg1 : LaR 84 T g1 := hRg.eqs (bE.eqs (by omega))
    have h36 : ∀ k, fX5_readInto_36 k 94 84 92 (nI n) g = fX5_readInto_46 k 94 84 92 (nI n) 94 (if n = 0 then 1 else 0) g := by
      intro k
      unfold fX5_readInto_36
      by_cases q : n = 0
      · rw [if_pos (by rw [q]; decide), if_pos q]
      · rw [if_neg (by rw [p0, p_eq (by omega) (by omega)]; exact q), if_neg q]
    rw [fX5_readInto_11, ht.1, if_neg (by rw [p_lt (by omega) (by omega)]; omega), a1, ob_s, a5]
    by_cases c1 : srt b L (tbg b L p) = 0 ∧ 0 < n
    · rw [if_pos (by rw [c1.1]; decide), if_neg (by rw [p0, p_le (by omega) (by omega)]; omega), rdF_end c1.1 c1.2, if_pos rfl]
      exact ⟨g, rfl, fun _ => hRg, aE.eqb.eqq⟩
    have hfin : ∃ h1, fX5_readInto_36 (fX5_readInto_11 m) 94 84 92 (nI n) g = some ((if (rdF b L (d + 1) n p T).1 = true then nI (rdF b L (d + 1) n p T).2.1 else -10 - nI (rdF b L (d + 1) n p T).2.1), h1) ∧ ((rdF b L (d + 1) n p T).1 = true → LaR 84 (rdF b L (d + 1) n p T).2.2 h1) ∧ EqQ h h1 := by
      rw [h36]
      unfold fX5_readInto_46
      rw [b1, ob2_s]
      by_cases c2 : srt b L (tbg b L p) = 1 ∧ may (wNo b L (tbg b L p)) n T = true
      · cases hit : itR b L (wNo b L (tbg b L p)) (tn T 0) (en b L (tbg b L p)) with
        | some e =>
          have b6 := (b2 c2.1 c2.2).1 e hit
          rw [if_neg (show ¬ (srt b L (tbg b L p) = 1 ∧ may (wNo b L (tbg b L p)) n T = true ∧ some e = none) from fun r => absurd r.2.2 (fun x => by cases x)), if_pos rfl, rdF_fault c2.1 c2.2 hit]
          unfold fX5_readInto_53 fX5_readInto_68
          rw [b6]
          exact ⟨g1, rfl, fun r => absurd r (fun x => by cases x), hEg1⟩
        | none =>
          obtain ⟨d1, d4, dv⟩ := (b2 c2.1 c2.2).2 hit
          have hok := itOk_of c2.2 wNo_le hit
          have hnx := rd_next (W := wNo b L (tbg b L p)) hp c2.1
          obtain ⟨g2, f1, f2, fE⟩ := c_carry hT hRg1 hok d1 dv
          obtain ⟨g3, i1, i2, i3⟩ := ih (n + 1) _ m (itT T (wNo b L (tbg b L p)) (fun i => va b L (tbg b L (px b L (en b L (tbg b L p)) i)))) g2 (by omega) (by omega) (by omega) hnx.2 ((htg.eqb bE).eqo fE) (itT_wf hT hok) (itT_zer hT hz hok) f2 ((fE.1 _ _ (by omega) (by omega)).trans d4)
          rw [if_pos (show srt b L (tbg b L p) = 1 ∧ may (wNo b L (tbg b L p)) n T = true ∧ (none : Option Nat) = none from ⟨c2.1, c2.2, rfl⟩), if_neg (by decide), f1, ob_s, oL_d, rdF_go c2.1 c2.2 hit, p1, nI_add, i1]
          exact ⟨g3, rfl, i2, hEg1.tr (EqQ.tr (fun o k q => ⟨fE.1 _ _ (by unfold kpt at q; omega) (by unfold kpt at q; omega), fE.2.1 _ _, fE.2.2 _ _⟩) i3)⟩
      · have b6 := b3 c2
        rw [if_neg (show ¬ (srt b L (tbg b L p) = 1 ∧ may (wNo b L (tbg b L p)) n T = true ∧ itR b L (wNo b L (tbg b L p)) (tn T 0) (en b L (tbg b L p)) = none) from fun r => c2 ⟨r.1, r.2.1⟩), if_pos rfl, rdF_bad c1 c2]
        unfold fX5_readInto_53 fX5_readInto_68
        rw [b6]
        exact ⟨g1, rfl, fun r => absurd r (fun x => by cases x), hEg1⟩
    have hsl := srt_le (b := b) (L := L) (q := tbg b L p)
    by_cases s0 : srt b L (tbg b L p) = 0
    · rw [if_pos (by rw [s0]; decide), if_pos (by rw [p0, p_le (by omega) (by omega)]; omega)]
      exact hfin
    · rw [if_neg (by rw [p0, p_eq (by omega) (by omega)]; exact s0)]
      exact hfin
end CRD
