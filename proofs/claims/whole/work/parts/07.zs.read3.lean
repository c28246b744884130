/-! PURE: read -/
theorem wc_show : wl 1 = 4 ∧ ∀ i, i < 4 → wc 1 i = ch6 115 104 111 119 0 0 i := by decide +kernel
theorem wc_off : wl 2 = 3 ∧ ∀ i, i < 3 → wc 2 i = ch6 111 102 102 0 0 0 i := by decide +kernel
theorem wc_do : wl 4 = 2 ∧ ∀ i, i < 2 → wc 4 i = ch6 100 111 0 0 0 0 i := by decide +kernel
theorem wc_rest : wl 5 = 4 ∧ ∀ i, i < 4 → wc 5 i = ch6 114 101 115 116 0 0 i := by decide +kernel
theorem wc_land : wl 0 = 4 ∧ ∀ i, i < 4 → wc 0 i = ch6 108 97 110 100 0 0 i := by decide +kernel
section RDM
variable {b : Nat → Nat} {L : Nat} {h : AH}
theorem m_item {T : Nat → Int32} {n q : Nat} (ht : TM b L h) (hT : WfU T 112) (hA : ArR 273 112 T h) (hq : q ≤ L) (hk : TK b L q h) (hn : 0 < n) : ∃ h1, fX9_takesItem 262 h = some ((if srt b L q = 1 ∧ may (wNo b L q) n T = true ∧ itN b L (wNo b L q) (tn T 0) (en b L q) (nbh (wNo b L q)) = none then 1 else 0), h1) ∧ EqR h h1 ∧ (srt b L q = 1 → may (wNo b L q) n T = true → (∀ e, itN b L (wNo b L q) (tn T 0) (en b L q) (nbh (wNo b L q)) = some e → hI h1 262 13 = nI e) ∧ (itN b L (wNo b L q) (tn T 0) (en b L q) (nbh (wNo b L q)) = none → TK b L (tbg b L (px b L (en b L q) (nbh (wNo b L q)))) h1 ∧ ArR 273 112 (itT T (wNo b L q) (fun i => va b L (tbg b L (px b L (en b L q) i)))) h1)) ∧ (¬ (srt b L q = 1 ∧ may (wNo b L q) n T = true) → hI h1 262 13 = nI q) := by
  have w1 := m_word ht (w := 1) (sz := 4) (a0 := 115) (a1 := 104) (a2 := 111) (a3 := 119) (a4 := 0) (a5 := 0) hq hk (by omega) (by omega) (by omega) wc_show
  have w2 := m_word ht (w := 2) (sz := 3) (a0 := 111) (a1 := 102) (a2 := 102) (a3 := 0) (a4 := 0) (a5 := 0) hq hk (by omega) (by omega) (by omega) wc_off
  have w4 := m_word ht (w := 4) (sz := 2) (a0 := 100) (a1 := 111) (a2 := 0) (a3 := 0) (a4 := 0) (a5 := 0) hq hk (by omega) (by omega) (by omega) wc_do
  have w5 := m_word ht (w := 5) (sz := 4) (a0 := 114) (a1 := 101) (a2 := 115) (a3 := 116) (a4 := 0) (a5 := 0) hq hk (by omega) (by omega) (by omega) wc_rest
  obtain ⟨g3, w3, k3, E3⟩ := m_watcherW ht hq hk
  have hW := wNo_le (b := b) (L := L) (q := q)
  have n0 := wf_0 hT (show 46 ≤ 112 by omega)
  have n1 := wf_1 hT (show 46 ≤ 112 by omega)
  have w1' : fX9_spells 262 (4 : Int32) (115 : Int32) (104 : Int32) (111 : Int32) (119 : Int32) (0 : Int32) (0 : Int32) h = _ := w1
  have w2' : fX9_spells 262 (3 : Int32) (111 : Int32) (102 : Int32) (102 : Int32) (0 : Int32) (0 : Int32) (0 : Int32) h = _ := w2
  have w4' : fX9_spells 262 (2 : Int32) (100 : Int32) (111 : Int32) (0 : Int32) (0 : Int32) (0 : Int32) (0 : Int32) h = _ := w4
  have w5' : fX9_spells 262 (4 : Int32) (114 : Int32) (101 : Int32) (115 : Int32) (116 : Int32) (0 : Int32) (0 : Int32) h = _ := w5
  have fb : ∀ (c : Bool) (A B : Option (Int32 × AH)), (if bI c = 0 then A else B) = cond c B A := fun c A B => chk
  have e0 : fX9_takesItem 262 h = cond (decide (srt b L q = 1) && decide (wNo b L q = 1)) (ob2 (fX9_takesShow 262 h) fun v h1 => oG (isB v) (some (v, h1))) (cond (decide (srt b L q = 1) && decide (wNo b L q = 2)) (ob2 (fX9_takesOff 262 h) fun v h1 => oG (isB v) (some (v, h1))) (cond (decide (srt b L q = 1) && decide (wNo b L q = 4)) (ob2 (fX9_takesDo 262 h) fun v h1 => oG (isB v) (some (v, h1))) (cond (decide (srt b L q = 1) && decide (wNo b L q = 5)) (ob2 (fX9_takesRest 262 h) fun v h1 => oG (isB v) (some (v, h1))) (cond (decide (srt b L q = 1) && decide (wNo b L q = 3)) (ob2 (fX9_takesWatcher 262 g3) fun v14 h13 => if v14 = 0 then some ((0 : Int32), h13) else some ((1 : Int32), h13)) (some (0, g3)))))) := by
    unfold fX9_takesItem
    rw [w1', ob_s, fb, w2', ob_s, fb, w4', ob_s, fb, w5', ob_s, fb, w3, ob2_s, fb]
  have fl : ∀ (W : Nat) (c : Prop) [Decidable c] (x : AH), (oG (isB (if c then (1 : Int32) else 0)) (some ((if c then (1 : Int32) else 0), x))) = some ((if c then 1 else 0), x) := by
    intro W c _ x
    by_cases hc : c
    · rw [if_pos hc]; rfl
    · rw [if_neg hc]; rfl
  have done : ∀ {h0 : AH} {r : Option (Int32 × AH)} {W : Nat}, EqR h h0 → wNo b L q = W → srt b L q = 1 → may W n T = true → TKS b L W (tn T 0) q T h0 r → ∃ h1, r = some ((if itN b L W (tn T 0) (en b L q) (nbh W) = none then 1 else 0), h1) ∧ EqR h h1 ∧ (∀ e, itN b L W (tn T 0) (en b L q) (nbh W) = some e → hI h1 262 13 = nI e) ∧ (itN b L W (tn T 0) (en b L q) (nbh W) = none → TK b L (tbg b L (px b L (en b L q) (nbh W))) h1 ∧ ArR 273 112 (itT T W (fun i => va b L (tbg b L (px b L (en b L q) i)))) h1) := by
    rintro h0 r W hE - - - ⟨h1, r1, r2, r3, r4⟩
    exact ⟨h1, r1, hE.tr r2, r3, r4⟩
  rw [e0]
  by_cases h1 : srt b L q = 1
  · simp only [decide_eq_true h1, Bool.true_and]
    have hm0 : n ≠ 0 := by omega
    rcases (show wNo b L q = 0 ∨ wNo b L q = 1 ∨ wNo b L q = 2 ∨ wNo b L q = 3 ∨ wNo b L q = 4 ∨ wNo b L q = 5 ∨ wNo b L q = 6 by omega) with e | e | e | e | e | e | e
    · have hmay : may (wNo b L q) n T = false := by rw [e]; unfold may; rw [if_neg hm0]; rfl
      rw [e] at hmay ⊢
      refine ⟨g3, ?_, E3.eqr, fun _ r => absurd (hmay.symm.trans r) (by decide), fun _ => k3.1⟩
      rw [if_neg (fun r => absurd (hmay.symm.trans r.2.1) (by decide))]
      rfl
    · rw [e]
      by_cases h5 : tn T 0 < 5
      · have hmay : may 1 n T = true := by unfold may; rw [if_neg hm0, decide_eq_true (fun _ => h5 : (1 : Nat) = 1 → tn T 0 < 5)]; rfl
        obtain ⟨x, r1, r2, r3, r4⟩ := done EqR.rf e h1 hmay (m_takesShow ht hT hA hq hk h5)
        refine ⟨x, ?_, r2, fun _ _ => ⟨r3, r4⟩, fun r => absurd ⟨h1, hmay⟩ r⟩
        show (ob2 (fX9_takesShow 262 h) fun v h1 => oG (isB v) (some (v, h1))) = _
        rw [r1, ob2_s, fl 1]
        by_cases c : itN b L 1 (tn T 0) (en b L q) (nbh 1) = none
        · rw [if_pos c, if_pos ⟨h1, hmay, c⟩]
        · rw [if_neg c, if_neg (fun r => c r.2.2)]
      · have hmay : may 1 n T = false := by unfold may; rw [if_neg hm0, decide_eq_false (fun r => h5 (r rfl) : ¬ ((1 : Nat) = 1 → tn T 0 < 5))]; rfl
        refine ⟨h, ?_, EqR.rf, fun _ r => absurd (hmay.symm.trans r) (by decide), fun _ => hk.1⟩
        rw [if_neg (fun r => absurd (hmay.symm.trans r.2.1) (by decide))]
        have i0 : inb (0 : Int32) 112 = true := by decide
        have x0 : ix (0 : Int32) = 0 := by decide
        have r0 := (hA.2.2 0 (by omega)).trans n0.1
        have e5 : tn T 0 = 5 := by omega
        show (ob2 (fX9_takesShow 262 h) fun v h1 => oG (isB v) (some (v, h1))) = _
        unfold fX9_takesShow
        rw [q217, q217s, i0, oG_T, x0, r0, e5, if_pos (by decide)]
        rfl
    · rw [e]
      have hmay : may 2 n T = true := by unfold may; rw [if_neg hm0]; rfl
      obtain ⟨x, r1, r2, r3, r4⟩ := done EqR.rf e h1 hmay (m_takesOff ht hT hA hq hk)
      refine ⟨x, ?_, r2, fun _ _ => ⟨r3, r4⟩, fun r => absurd ⟨h1, hmay⟩ r⟩
      show (ob2 (fX9_takesOff 262 h) fun v h1 => oG (isB v) (some (v, h1))) = _
      rw [r1, ob2_s, fl 2]
      by_cases c : itN b L 2 (tn T 0) (en b L q) (nbh 2) = none
      · rw [if_pos c, if_pos ⟨h1, hmay, c⟩]
      · rw [if_neg c, if_neg (fun r => c r.2.2)]
    · rw [e]
      have hA3 : ArR 273 112 T g3 := hA.eqv (fun k => E3.1 _ _ (by omega))
      by_cases h5 : tn T 1 < 6
      · have hmay : may 3 n T = true := by unfold may; rw [if_neg hm0, decide_eq_true (fun _ => h5 : (3 : Nat) = 3 → tn T 1 < 6)]; rfl
        obtain ⟨x, r1, r2, r3, r4⟩ := done E3.eqr e h1 hmay (m_takesWatcher (ht.eqr E3.eqr) hT hA3 hq k3 h5)
        refine ⟨x, ?_, r2, fun _ _ => ⟨r3, r4⟩, fun r => absurd ⟨h1, hmay⟩ r⟩
        show (ob2 (fX9_takesWatcher 262 g3) fun v14 h13 => if v14 = 0 then some ((0 : Int32), h13) else some ((1 : Int32), h13)) = _
        rw [r1, ob2_s]
        by_cases c : itN b L 3 (tn T 0) (en b L q) (nbh 3) = none
        · rw [if_pos c, if_neg (by decide), if_pos ⟨h1, hmay, c⟩]
        · rw [if_neg c, if_pos rfl, if_neg (fun r => c r.2.2)]
      · have hmay : may 3 n T = false := by unfold may; rw [if_neg hm0, decide_eq_false (fun r => h5 (r rfl) : ¬ ((3 : Nat) = 3 → tn T 1 < 6))]; rfl
        refine ⟨g3, ?_, E3.eqr, fun _ r => absurd (hmay.symm.trans r) (by decide), fun _ => k3.1⟩
        rw [if_neg (fun r => absurd (hmay.symm.trans r.2.1) (by decide))]
        have i0 : inb (1 : Int32) 112 = true := by decide
        have x0 : ix (1 : Int32) = 1 := by decide
        have r0 := (hA3.2.2 1 (by omega)).trans n1.1
        have e5 : tn T 1 = 6 := by omega
        show (ob2 (fX9_takesWatcher 262 g3) fun v14 h13 => if v14 = 0 then some ((0 : Int32), h13) else some ((1 : Int32), h13)) = _
        unfold fX9_takesWatcher
        rw [q217, q217s, i0, oG_T, x0, r0, e5, if_pos (by decide)]
        rfl
    · rw [e]
      have hmay : may 4 n T = true := by unfold may; rw [if_neg hm0]; rfl
      obtain ⟨x, r1, r2, r3, r4⟩ := done EqR.rf e h1 hmay (m_takesDo ht hT hA hq hk)
      refine ⟨x, ?_, r2, fun _ _ => ⟨r3, r4⟩, fun r => absurd ⟨h1, hmay⟩ r⟩
      show (ob2 (fX9_takesDo 262 h) fun v h1 => oG (isB v) (some (v, h1))) = _
      rw [r1, ob2_s, fl 4]
      by_cases c : itN b L 4 (tn T 0) (en b L q) (nbh 4) = none
      · rw [if_pos c, if_pos ⟨h1, hmay, c⟩]
      · rw [if_neg c, if_neg (fun r => c r.2.2)]
    · rw [e]
      have hmay : may 5 n T = true := by unfold may; rw [if_neg hm0]; rfl
      obtain ⟨x, r1, r2, r3, r4⟩ := done EqR.rf e h1 hmay (m_takesRest ht hT hA hq hk)
      refine ⟨x, ?_, r2, fun _ _ => ⟨r3, r4⟩, fun r => absurd ⟨h1, hmay⟩ r⟩
      show (ob2 (fX9_takesRest 262 h) fun v h1 => oG (isB v) (some (v, h1))) = _
      rw [r1, ob2_s, fl 5]
      by_cases c : itN b L 5 (tn T 0) (en b L q) (nbh 5) = none
      · rw [if_pos c, if_pos ⟨h1, hmay, c⟩]
      · rw [if_neg c, if_neg (fun r => c r.2.2)]
    · have hmay : may 6 n T = false := by unfold may; rw [if_neg hm0]; rfl
      rw [e]
      refine ⟨g3, ?_, E3.eqr, fun _ r => absurd (hmay.symm.trans r) (by decide), fun _ => k3.1⟩
      rw [if_neg (fun r => absurd (hmay.symm.trans r.2.1) (by decide))]
      rfl
  · simp only [decide_eq_false h1, Bool.false_and, cond_false]
    refine ⟨g3, ?_, E3.eqr, fun r => absurd r h1, fun _ => k3.1⟩
    rw [if_neg (fun r => h1 r.1)]
theorem itR_is {W sh p : Nat} : itR b L W sh p = (match itN b L W sh p (nbh W) with
    | some e => some e
    | none => if srt b L (tbg b L (px b L p (nbh W))) = 3 then none else some (tbg b L (px b L p (nbh W)))) := rfl
theorem m_loop : ∀ d n p m T h, L - p < d → d ≤ m → 0 < n → n ≤ p → p ≤ L → TM b L h → WfU T 112 → zer T → ArR 273 112 T h → TK b L (tbg b L p) h → ∃ h1, fX9_read_64 m 262 (nI n) h = (if (rdF b L d n p T).1 = true then fX9_read_104 262 (nI (rdF b L d n p T).2.1) h1 else some (-10 - nI (rdF b L d n p T).2.1, h1)) ∧ ((rdF b L d n p T).1 = true → ArR 273 112 (rdF b L d n p T).2.2 h1) ∧ EqR h h1 := by
  intro d
  induction d with
  | zero => intro n p m T h h1; omega
  | succ d ih =>
    intro n p m T h h1 hm hn hnp hp ht hT hz hA hk
    obtain ⟨m, rfl⟩ : ∃ q, m = q + 1 := ⟨m - 1, by omega⟩
    have hq := tbg_le (b := b) hp
    have hsl := srt_le (b := b) (L := L) (q := tbg b L p)
    rw [fX9_read_64, hk.2.2.1]
    by_cases s0 : srt b L (tbg b L p) = 0
    · rw [if_pos (by rw [s0]; decide), rdF_end s0 hn]
      exact ⟨h, (if_pos rfl).symm, fun _ => hA, EqR.rf⟩
    · rw [if_neg (by rw [p0, p_eq (by omega) (by omega)]; exact s0)]
      obtain ⟨g, r1, r2, r3, r4⟩ := m_item ht hT hA hq.2 hk hn
      rw [r1, ob2_s]
      have c1 : ¬ (srt b L (tbg b L p) = 0 ∧ 0 < n) := fun r => s0 r.1
      have f86 : ∀ e x, hI x 262 13 = nI e → fX9_read_86 262 x = some (-10 - nI e, x) := by
        intro e x hx
        unfold fX9_read_86
        rw [hx]
      by_cases c2 : srt b L (tbg b L p) = 1 ∧ may (wNo b L (tbg b L p)) n T = true
      · obtain ⟨r5, r6⟩ := r3 c2.1 c2.2
        cases hit : itN b L (wNo b L (tbg b L p)) (tn T 0) (en b L (tbg b L p)) (nbh (wNo b L (tbg b L p))) with
        | some e =>
          have hitR : itR b L (wNo b L (tbg b L p)) (tn T 0) (en b L (tbg b L p)) = some e := by rw [itR_is, hit]
          rw [if_neg (show ¬ (srt b L (tbg b L p) = 1 ∧ may (wNo b L (tbg b L p)) n T = true ∧ some e = none) from fun r => absurd r.2.2 (fun x => by cases x)), if_pos rfl, f86 e g (r5 e hit), rdF_fault c2.1 c2.2 hitR]
          exact ⟨g, (if_neg Bool.false_ne_true).symm, fun r => absurd r Bool.false_ne_true, r2⟩
        | none =>
          obtain ⟨r7, r8⟩ := r6 hit
          have hen := en_le (b := b) hq.2
          have hpx := px_le (b := b) hen.2 (nbh (wNo b L (tbg b L p)))
          have hq2 := tbg_le (b := b) hpx.2
          have hs2 := srt_le (b := b) (L := L) (q := tbg b L (px b L (en b L (tbg b L p)) (nbh (wNo b L (tbg b L p)))))
          rw [if_pos (show srt b L (tbg b L p) = 1 ∧ may (wNo b L (tbg b L p)) n T = true ∧ (none : Option Nat) = none from ⟨c2.1, c2.2, rfl⟩), if_neg (by decide), r7.2.2.1]
          by_cases h3 : srt b L (tbg b L (px b L (en b L (tbg b L p)) (nbh (wNo b L (tbg b L p))))) = 3
          · have hitR : itR b L (wNo b L (tbg b L p)) (tn T 0) (en b L (tbg b L p)) = none := by rw [itR_is, hit]; exact if_pos h3
            have hok := itOk_of c2.2 wNo_le hitR
            have hnx := rd_next (W := wNo b L (tbg b L p)) hp c2.1
            obtain ⟨g2, b1, b2, bE⟩ := m_behind (ht.eqr r2) hq2.2 r7
            obtain ⟨g3, i1, i2, i3⟩ := ih (n + 1) _ m (itT T (wNo b L (tbg b L p)) (fun i => va b L (tbg b L (px b L (en b L (tbg b L p)) i)))) g2 (by omega) (by omega) (by omega) (by omega) hnx.2 ((ht.eqr r2).eqr bE.eqr) (itT_wf hT hok) (itT_zer hT hz hok) (r8.eqv (fun k => bE.1 _ _ (by omega))) b2
            rw [if_pos (by rw [h3]; decide), b1, ob_s, oL_d, p1, nI_add, rdF_go c2.1 c2.2 hitR]
            exact ⟨g3, i1, i2, (r2.tr bE.eqr).tr i3⟩
          · have hitR : itR b L (wNo b L (tbg b L p)) (tn T 0) (en b L (tbg b L p)) = some (tbg b L (px b L (en b L (tbg b L p)) (nbh (wNo b L (tbg b L p))))) := by rw [itR_is, hit]; exact if_neg h3
            rw [if_neg (by rw [p3, p_eq (by omega) (by omega)]; exact h3), f86 _ g r7.1, rdF_fault c2.1 c2.2 hitR]
            exact ⟨g, (if_neg Bool.false_ne_true).symm, fun r => absurd r Bool.false_ne_true, r2⟩
      · rw [if_neg (show ¬ (srt b L (tbg b L p) = 1 ∧ may (wNo b L (tbg b L p)) n T = true ∧ itN b L (wNo b L (tbg b L p)) (tn T 0) (en b L (tbg b L p)) (nbh (wNo b L (tbg b L p))) = none) from fun r => c2 ⟨r.1, r.2.1⟩), if_pos rfl, f86 _ g (r4 c2), rdF_bad c1 c2]
        exact ⟨g, (if_neg Bool.false_ne_true).symm, fun r => absurd r Bool.false_ne_true, r2⟩
theorem m_read104 {T U : Nat → Int32} {v : Int32} (hT : ∀ k, k < 304 → hI h 263 k = T k) (hA : ArR 273 112 U h) : ∃ h1, fX9_read_104 262 v h = some (v, h1) ∧ (∀ k, k < 304 → hI h1 263 k = if k < 112 then U k else T k) ∧ EqO 263 263 263 h h1 := by
  unfold fX9_read_104
  rw [p0]
  refine run_cnt2 (fun n (c0 : Int32) (x : AH) => fX9_read_106 n 262 v c0 x) (fun i x => EqO 263 263 263 h x ∧ ∀ k, k < 304 → hI x 263 k = if k < i then U k else T k) 112 _ _ ?_ ?_ h ⟨EqO.rf, fun k hk => by rw [if_neg (by omega)]; exact hT k hk⟩ FU (FU_lt (by omega))
  · rintro n i x hi ⟨xE, xB⟩
    have f1 : hI x 273 i = U i := by rw [xE.1 _ _ (by omega) (by omega)]; exact hA.2.2 i hi
    refine ⟨sI x 263 i (U i), ?_, xE.tr (EqO.sI (by omega)), fun k hk => ?_⟩
    · show fX9_read_106 (n + 1) 262 v (nI i) x = fX9_read_106 n 262 v (nI (i + 1)) _
      rw [fX9_read_106, if_neg (by rw [p112, p_le (by omega) (by omega)]; omega), q217, q217s, q20, q20s, inb_nI (by omega), oG_d (by omega), inb_nI (by omega), oG_d (by omega), ix_nI (by omega), f1, oL_d, oL_d, p1, nI_add]
    · by_cases e : k = i
      · subst e; rw [sI_e, if_pos (by omega)]
      · rw [sI_n (by omega), xB k hk]
        by_cases e2 : k < i
        · rw [if_pos e2, if_pos (by omega)]
        · rw [if_neg e2, if_neg (by omega)]
  · rintro n x ⟨xE, xB⟩
    refine ⟨x, ?_, xB, xE⟩
    show fX9_read_106 (n + 1) 262 v (nI 112) x = _
    rw [fX9_read_106, if_pos (by decide)]
def T00 : Nat → Int32 := fun _ => 0
theorem T00_wf : WfU T00 112 := fun k _ _ => ⟨rfl, Nat.zero_le _⟩
/-- the reference reads -/
theorem m_readT (ht : TM b L h) : ∃ h1, fX9_read 262 h = (if (rdF b L (L + 1) 0 0 T00).1 = true then fX9_read_104 262 (nI (rdF b L (L + 1) 0 0 T00).2.1) h1 else some (-10 - nI (rdF b L (L + 1) 0 0 T00).2.1, h1)) ∧ ((rdF b L (L + 1) 0 0 T00).1 = true → ArR 273 112 (rdF b L (L + 1) 0 0 T00).2.2 h1) ∧ EqR h h1 := by
  have t3 := ht.2.2.1
  obtain ⟨g, a1, a2, aE⟩ := m_lookAt ht (Nat.zero_le L)
  have hq := tbg_le (b := b) (Nat.zero_le L)
  have htg := ht.eqr aE.eqr
  have w0 := m_word htg (w := 0) (sz := 4) (a0 := 108) (a1 := 97) (a2 := 110) (a3 := 100) (a4 := 0) (a5 := 0) hq.2 a2 (by omega) (by omega) (by omega) wc_land
  have w0' : fX9_spells 262 (4 : Int32) (108 : Int32) (97 : Int32) (110 : Int32) (100 : Int32) (0 : Int32) (0 : Int32) g = _ := w0
  have c1 : ¬ (srt b L (tbg b L 0) = 0 ∧ 0 < 0) := fun r => absurd r.2 (by omega)
  unfold fX9_read
  rw [p0, a1, ob_s, ← p0, w0', ob_s]
  by_cases c2 : srt b L (tbg b L 0) = 1 ∧ wNo b L (tbg b L 0) = 0
  · have hmay : may (wNo b L (tbg b L 0)) 0 T00 = true := by rw [c2.2]; rfl
    have hen := en_le (b := b) hq.2
    obtain ⟨g1, b1, b2, bE⟩ := m_behind htg hq.2 a2
    have hq1 := tbg_le (b := b) hen.2
    have hs1 := srt_le (b := b) (L := L) (q := tbg b L (en b L (tbg b L 0)))
    have hitR : itR b L (wNo b L (tbg b L 0)) (tn T00 0) (en b L (tbg b L 0)) = if srt b L (tbg b L (en b L (tbg b L 0))) = 3 then none else some (tbg b L (en b L (tbg b L 0))) := by rw [c2.2]; rfl
    rw [decide_eq_true c2.1, decide_eq_true c2.2, if_neg (by decide), b1, ob_s, b2.2.2.1]
    by_cases h3 : srt b L (tbg b L (en b L (tbg b L 0))) = 3
    · rw [if_pos h3] at hitR
      obtain ⟨g2, d1, d2, dE⟩ := m_behind (htg.eqr bE.eqr) hq1.2 b2
      obtain ⟨g3, x1, x2, xE⟩ := m_begin (o := 273) (n := 112) (T := fun k => hI g2 273 k) (h := g2) ⟨rfl, rfl, fun _ _ => rfl⟩ (by omega)
      have hA : ArR 273 112 T00 g3 := ⟨rfl, rfl, fun k hk => by rw [x2.2.2 k hk]; exact if_pos hk⟩
      have hxE : EqR g2 g3 := ⟨fun a k r => xE.1 a k (by omega) (by omega), xE.2.1, xE.2.2⟩
      have hnx := rd_next (b := b) (W := 0) (Nat.zero_le L) c2.1
      have hk3 : TK b L (tbg b L (en b L (tbg b L (en b L (tbg b L 0))))) g3 := d2.eqt (xE.1 _ _ (by omega) (by omega)) (xE.1 _ _ (by omega) (by omega)) (xE.1 _ _ (by omega) (by omega)) (xE.1 _ _ (by omega) (by omega))
      have hnx2 : 0 < en b L (tbg b L (en b L (tbg b L 0))) ∧ en b L (tbg b L (en b L (tbg b L 0))) ≤ L := hnx
      obtain ⟨g4, i1, i2, i3⟩ := m_loop L 1 (en b L (tbg b L (en b L (tbg b L 0)))) FU T00 g3 (by omega) (Nat.le_of_lt (FU_lt (by omega))) (by omega) (by omega) hnx2.2 ((((htg.eqr bE.eqr).eqr dE.eqr)).eqr hxE) T00_wf (fun _ _ _ => rfl) hA hk3
      have hgo : rdF b L (L + 1) 0 0 T00 = rdF b L L 1 (en b L (tbg b L (en b L (tbg b L 0)))) T00 := by
        rw [rdF_go c2.1 hmay hitR, c2.2]
        rfl
      rw [if_pos (by rw [h3]; decide), d1, ob_s, q217, x1, ob_s, p1, i1, hgo]
      exact ⟨g4, rfl, i2, (((aE.eqr.tr bE.eqr).tr dE.eqr).tr hxE).tr i3⟩
    · rw [if_neg h3] at hitR
      rw [if_neg (by rw [p3, p_eq (by omega) (by omega)]; exact h3), b2.1, rdF_fault c2.1 hmay hitR]
      exact ⟨g1, (if_neg Bool.false_ne_true).symm, fun r => absurd r Bool.false_ne_true, aE.eqr.tr bE.eqr⟩
  · have hc : (decide (srt b L (tbg b L 0) = 1) && decide (wNo b L (tbg b L 0) = 0)) = false := by
      rw [← Bool.not_eq_true, Bool.and_eq_true, decide_eq_true_eq, decide_eq_true_eq]; exact c2
    have hb : ¬ (srt b L (tbg b L 0) = 1 ∧ may (wNo b L (tbg b L 0)) 0 T00 = true) := by
      rintro ⟨x, y⟩
      refine c2 ⟨x, ?_⟩
      unfold may at y
      rw [if_pos rfl, decide_eq_true_eq] at y
      exact y
    rw [hc, if_pos (by decide), a2.1, rdF_bad c1 hb]
    exact ⟨g, (if_neg Bool.false_ne_true).symm, fun r => absurd r Bool.false_ne_true, aE.eqr⟩
/-- the class reads -/
theorem c_readT (ht : TX b L h) : ∃ h1, fX5_readInto 94 84 92 h = some ((if (rdF b L (L + 1) 0 0 T00).1 = true then nI (rdF b L (L + 1) 0 0 T00).2.1 else -10 - nI (rdF b L (L + 1) 0 0 T00).2.1), h1) ∧ ((rdF b L (L + 1) 0 0 T00).1 = true → LaR 84 (rdF b L (L + 1) 0 0 T00).2.2 h1) ∧ EqQ h h1 := by
  have t3 := ht.2.2.1
  have hE : EqQ h (sI (sI (sI (sI (sI h 94 4 0) 84 0 0) 84 1 0) 84 2 0) 84 3 0) := (EqQ.sI (by omega) (by omega) (by omega) (by omega)).tr ((EqQ.sI (by omega) (by omega) (by omega) (by omega)).tr ((EqQ.sI (by omega) (by omega) (by omega) (by omega)).tr ((EqQ.sI (by omega) (by omega) (by omega) (by omega)).tr (EqQ.sI (by omega) (by omega) (by omega) (by omega)))))
  have htg : TX b L (sI (sI (sI (sI (sI h 94 4 0) 84 0 0) 84 1 0) 84 2 0) 84 3 0) := ⟨((hE 94 3 (by unfold kpt; omega)).1).trans ht.1, fun k hk => ((hE 95 k (by unfold kpt; omega)).1).trans (ht.2.1 k hk), ht.2.2⟩
  have hLa : LaR 84 T00 (sI (sI (sI (sI (sI h 94 4 0) 84 0 0) 84 1 0) 84 2 0) 84 3 0) := by
    refine ⟨rfl, ?_, ?_, ?_, ?_, fun s q => absurd q (Nat.not_lt_zero _), fun s q => absurd q (Nat.not_lt_zero _)⟩ <;> simp (disch := omega) only [sI_n, sI_e] <;> rfl
  have e4 : hI (sI (sI (sI (sI (sI h 94 4 0) 84 0 0) 84 1 0) 84 2 0) 84 3 0) 94 4 = nI 0 := by rw [sI_o (by omega), sI_o (by omega), sI_o (by omega), sI_o (by omega), sI_e]; rfl
  obtain ⟨g, r1, r2, r3⟩ := c_loop (L + 1) 0 0 FU T00 _ (by omega) (Nat.le_of_lt (FU_lt (by omega))) (Nat.le_refl _) (Nat.zero_le _) htg T00_wf (fun _ _ _ => rfl) hLa e4
  refine ⟨g, ?_, r2, hE.tr r3⟩
  unfold fX5_readInto fX2_makeEmpty
  rw [oL_d, oL_d, oL_d, oL_d, oL_d, ob_s, ← r1]
  rfl
end RDM
theorem neg_fault : ∀ q, q < 151 → ¬ (0 : Int32) ≤ -10 - nI q := by decide +kernel
theorem op_read : OP_read RR := by
  rintro h ⟨S, hW, hC, hM⟩
  have hT := hW.1
  have w := wf_cnt hT
  have hqa := hC.2.2.2.1.1
  refine GO.out (S := S) (f9 := fun h1 => fX9_read 262 h1) ?_
  have hb : ∀ k, k < sL S → sB S k = nI (tn (sB S) k) ∧ tn (sB S) k < 128 := by
    intro k hk
    obtain ⟨n, e1, e2⟩ := hW.2.2.2.1 k hk
    have : tn (sB S) k = n := by unfold tn; rw [e1, ix_nI (by omega)]
    rw [this]; exact ⟨e1, e2⟩
  have htx : TX (tn (sB S)) (sL S) h := ⟨hC.2.2.2.2.2.2.2.2.2, fun k hk => (hC.2.2.2.2.2.2.2.2.1 k hk).trans (hb k hk).1, hW.2.2.1, fun k hk => (hb k hk).2⟩
  have htm : ∀ h1, MR S h1 → TM (tn (sB S)) (sL S) h1 := fun h1 m1 => ⟨m1.2.2.2.2.2.2.2, fun k hk => (m1.2.2.2.2.2.2.1 k hk).trans (hb k hk).1, hW.2.2.1, fun k hk => (hb k hk).2⟩
  obtain ⟨g, r1, r2, r3⟩ := c_readT htx
  have hfin := rdF_is (b := tn (sB S)) (L := sL S) (sL S + 1) 0 0 T00 (by omega) (Nat.le_refl _) (Nat.zero_le _) T00_wf (fun _ _ _ => rfl)
  have hmr := fun h1 m1 => m_readT (htm h1 m1)
  generalize rdF (tn (sB S)) (sL S) (sL S + 1) 0 0 T00 = R at r1 r2 hfin hmr
  obtain ⟨ok, cnt, U⟩ := R
  have hcnt : cnt ≤ 150 := Nat.le_trans hfin.1 hW.2.2.1
  have eqm : ∀ h1 h2, EqR h1 h2 → EqM h1 h2 := fun h1 h2 e o k q => ⟨e.1 o k (by unfold keepM at q; omega), e.2.1 o k⟩
  have eq0 : ∀ h1 h2, EqR h1 h2 → Eqs 0 261 h1 h2 := fun h1 h2 e o q1 q2 k => ⟨e.1 o k (by omega), e.2.1 o k, e.2.2 o k⟩
  cases ok with
  | false =>
    have r1' : fX5_readInto 94 84 92 h = some (-10 - nI cnt, g) := r1.trans (congrArg (fun v => some (v, g)) (if_neg Bool.false_ne_true))
    have e8 : fX8_read 0 h = some (-10 - nI cnt, g) := by
      unfold fX8_read
      rw [z05, show PC 0 3 = 84 from rfl, z04, r1', ob2_s, if_neg (neg_fault cnt (by omega))]
    refine GO.ask hW hC hM (-10 - nI cnt) ⟨g, e8, r3⟩ (fun h1 m1 => ?_)
    obtain ⟨h2, x1, -, x3⟩ := hmr h1 m1
    exact ⟨h2, x1.trans (if_neg Bool.false_ne_true), m1.eqm (eqm _ _ x3), eq0 _ _ x3⟩
  | true =>
    obtain ⟨hU, hz⟩ := hfin.2 rfl
    have hLaU := r2 rfl
    have c' := wf_0 hU (by omega)
    have c1' := wf_1 hU (by omega)
    have hz' : ∀ k, 2 ≤ k → k ≤ 5 → U k = 0 := hz
    have hT' : WfU (fun k => if k < 112 then U k else sT S k) 304 := by
      intro k hk hb'
      by_cases e : k < 112
      · have e1 : (fun k => if k < 112 then U k else sT S k) k = U k := if_pos e
        unfold tn
        rw [e1]
        exact hU k e hb'
      · have e1 : (fun k => if k < 112 then U k else sT S k) k = sT S k := if_neg e
        unfold tn
        rw [e1]
        exact hT k hk hb'
    have hp0 : (0 : Int32) ≤ nI cnt := by rw [p0, p_le (by omega) (by omega)]; omega
    have he : EqO 1 81 1 g (sI (sI (sI (sI (sI (sI (sI (sI g 2 0 0) 2 1 0) 2 2 0) 2 3 0) 10 1 0) 76 1 0) 78 1 0) 80 1 0) := (EqO.sI (by omega)).tr ((EqO.sI (by omega)).tr ((EqO.sI (by omega)).tr ((EqO.sI (by omega)).tr ((EqO.sI (by omega)).tr ((EqO.sI (by omega)).tr ((EqO.sI (by omega)).tr (EqO.sI (by omega))))))))
    have hLa2 : LaR 84 U (sI (sI (sI (sI (sI (sI (sI (sI g 2 0 0) 2 1 0) 2 2 0) 2 3 0) 10 1 0) 76 1 0) 78 1 0) 80 1 0) := hLaU.eqs (he.eqs (by omega) (by omega))
    obtain ⟨x, x1, x2, x3⟩ := c_copy (d := 2) (s := 84) rfl hLa2 c' c1' (by omega)
    have hCg := hC.eqq hW r3
    have hz10 : hI (sI (sI (sI (sI (sI (sI (sI (sI g 2 0 0) 2 1 0) 2 2 0) 2 3 0) 10 1 0) 76 1 0) 78 1 0) 80 1 0) 10 1 = 0 := by rw [sI_o (by omega), sI_o (by omega), sI_o (by omega), sI_e]
    have hz76 : hI (sI (sI (sI (sI (sI (sI (sI (sI g 2 0 0) 2 1 0) 2 2 0) 2 3 0) 10 1 0) 76 1 0) 78 1 0) 80 1 0) 76 1 = 0 := by rw [sI_o (by omega), sI_o (by omega), sI_e]
    have hz78 : hI (sI (sI (sI (sI (sI (sI (sI (sI g 2 0 0) 2 1 0) 2 2 0) 2 3 0) 10 1 0) 76 1 0) 78 1 0) 80 1 0) 78 1 = 0 := by rw [sI_o (by omega), sI_e]
    have hz80 : hI (sI (sI (sI (sI (sI (sI (sI (sI g 2 0 0) 2 1 0) 2 2 0) 2 3 0) 10 1 0) 76 1 0) 78 1 0) 80 1 0) 80 1 = 0 := sI_e
    have r1' : fX5_readInto 94 84 92 h = some (nI cnt, g) := r1.trans (congrArg (fun v => some (v, g)) (if_pos rfl))
    have e8 : fX8_read 0 h = some (nI cnt, x) := by
      unfold fX8_read
      rw [z05, show PC 0 3 = 84 from rfl, z04, r1', ob2_s, if_pos hp0]
      unfold fX0_makeEmpty fX2_makeEmpty
      rw [z00, z10, z11, z12, z13, z14, oL_d, oL_d, oL_d, oL_d, ob_s, oL_d, oL_d, oL_d, oL_d, ob_s, x1, ob_s]
    have tk : ∀ k, 2 ≤ k → k ≤ 5 → tn (fun k => if k < 112 then U k else sT S k) k = 0 := by
      intro k q1 q2
      have e1 : (fun k => if k < 112 then U k else sT S k) k = 0 := (if_pos (by omega)).trans (hz' k q1 q2)
      unfold tn
      rw [e1]
      rfl
    refine GO.act hM (hW.wT hT') (nI cnt) ⟨x, e8, ?_, ?_⟩ (fun h1 m1 => ?_)
    · refine CR.cou hW hCg ⟨x2.agr c'.2 c1'.2 (fun k hk _ => if_pos (by omega)), ?_, fun j hj => by rw [tk 5 (by omega) (by omega)] at hj; omega, ?_, fun j hj => by rw [tk 2 (by omega) (by omega)] at hj; omega, ?_, fun j hj => by rw [tk 3 (by omega) (by omega)] at hj; omega, ?_, fun j hj => by rw [tk 4 (by omega) (by omega)] at hj; omega⟩ (hCg.2.2.2.1.1.eqs fun j _ => (x3.2.2 _ _).trans (he.2.2 _ _)) (fun o k q r => ⟨(x3.1 _ _ (by omega) (by omega)).trans (he.1 _ _ (by omega) (by omega)), (x3.2.1 _ _).trans (he.2.1 _ _), (x3.2.2 _ _).trans (he.2.2 _ _)⟩)
      · rw [x3.1 _ _ (by omega) (by omega)]
        exact hz10.trans ((if_pos (by omega)).trans (hz' 5 (by omega) (by omega))).symm
      · rw [x3.1 _ _ (by omega) (by omega)]
        exact hz76.trans ((if_pos (by omega)).trans (hz' 2 (by omega) (by omega))).symm
      · rw [x3.1 _ _ (by omega) (by omega)]
        exact hz78.trans ((if_pos (by omega)).trans (hz' 3 (by omega) (by omega))).symm
      · rw [x3.1 _ _ (by omega) (by omega)]
        exact hz80.trans ((if_pos (by omega)).trans (hz' 4 (by omega) (by omega))).symm
    · exact (r3.eqs (by omega)).tr ((he.eqs (by omega) (by omega)).tr (x3.eqs (by omega) (by omega)))
    · obtain ⟨h2, y1, y2, y3⟩ := hmr h1 m1
      have m2 := m1.eqm (eqm _ _ y3)
      obtain ⟨h3, u1, u2, u3⟩ := m_read104 (v := nI cnt) m2.1.2.2 (y2 rfl)
      refine ⟨h3, ?_, m2.row u2 u3.eqn, (eq0 _ _ y3).tr (u3.eqs (by omega) (by omega))⟩
      show fX9_read 262 h1 = _
      rw [y1, if_pos rfl]
      exact u1
