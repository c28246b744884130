/-! PURE: the text's items (the reference) -/
theorem eqP_congr {f g : Nat → Nat} {b : Nat → Nat} {q : Nat} : ∀ n, (∀ i, i < n → f i = g i) → eqP f b q n = eqP g b q n := by
  intro n
  induction n with
  | zero => intro _; rfl
  | succ n ih => intro hh; unfold eqP; rw [ih (fun i hi => hh i (by omega)), hh n (by omega)]
theorem eqP_true {f : Nat → Nat} {b : Nat → Nat} {q : Nat} : ∀ n, eqP f b q n = true → ∀ i, i < n → b (q + i) = f i := by
  intro n
  induction n with
  | zero => intro _ i hi; omega
  | succ n ih =>
    intro hh i hi
    unfold eqP at hh
    rw [Bool.and_eq_true, decide_eq_true_eq] at hh
    by_cases e : i = n
    · rw [e]; exact hh.2
    · exact ih hh.1 i (by omega)
def ch6 (a0 a1 a2 a3 a4 a5 k : Nat) : Nat := if k = 0 then a0 else if k = 1 then a1 else if k = 2 then a2 else if k = 3 then a3 else if k = 4 then a4 else a5
section SPL
variable {b : Nat → Nat} {L : Nat} {h : AH}
theorem m_spells (ht : TM b L h) {q sz a0 a1 a2 a3 a4 a5 tl : Nat} (hq : q ≤ L) (e13 : hI h 262 13 = nI q) (e14 : hI h 262 14 = nI tl) (e15 : hI h 262 15 = nI (srt b L q)) (htl : q + tl ≤ L) (hsz : sz ≤ 6) (ha : a0 < 128 ∧ a1 < 128 ∧ a2 < 128 ∧ a3 < 128 ∧ a4 < 128 ∧ a5 < 128) : fX9_spells 262 (nI sz) (nI a0) (nI a1) (nI a2) (nI a3) (nI a4) (nI a5) h = some (bI (decide (srt b L q = 1) && (decide (tl = sz) && eqP (ch6 a0 a1 a2 a3 a4 a5) b q sz))) := by
  have t3 := ht.2.2.1
  have hsl := srt_le (b := b) (L := L) (q := q)
  have off : fX9_spells_20 h 262 (nI sz) (nI a0) (nI a1) (nI a2) (nI a3) (nI a4) (nI a5) = some 0 := by
    unfold fX9_spells_20 fX9_spells_21
    refine run_loop (fun n (s : Int32) => fX9_spells_26 h n 262 (nI sz) (nI a0) (nI a1) (nI a2) (nI a3) (nI a4) (nI a5) 0 s) (fun i => nI i) 0 _ (fun n i hi => by omega) (fun n => ?_) FU (FU_lt (by omega))
    show fX9_spells_26 h (n + 1) 262 (nI sz) (nI a0) (nI a1) (nI a2) (nI a3) (nI a4) (nI a5) 0 (nI 0) = _
    rw [fX9_spells_26, if_pos rfl]
    split <;> rfl
  unfold fX9_spells
  rw [e15, e14, off]
  by_cases h1 : srt b L q = 1
  · rw [if_pos (by rw [h1]; decide), decide_eq_true h1, Bool.true_and]
    by_cases h2 : tl = sz
    · rw [if_pos (by rw [h2]), decide_eq_true h2, Bool.true_and]
      unfold fX9_spells_21
      rw [p0]
      have step : ∀ n i, i < sz → fX9_spells_26 h (n + 1) 262 (nI sz) (nI a0) (nI a1) (nI a2) (nI a3) (nI a4) (nI a5) 1 (nI i) = fX9_spells_26 h n 262 (nI sz) (nI a0) (nI a1) (nI a2) (nI a3) (nI a4) (nI a5) (if b (q + i) = ch6 a0 a1 a2 a3 a4 a5 i then 1 else 0) (nI (i + 1)) := by
        intro n i hi
        have hb : hI h 272 (q + i) = nI (b (q + i)) := ht.2.1 _ (by omega)
        have hbl := ht.2.2.2 (q + i) (by omega)
        have cmp : ∀ a : Nat, a < 128 → fX9_spells_103 h (fX9_spells_26 h n) 262 (nI sz) (nI a0) (nI a1) (nI a2) (nI a3) (nI a4) (nI a5) (nI i) (nI (b (q + i))) (nI a) = fX9_spells_26 h n 262 (nI sz) (nI a0) (nI a1) (nI a2) (nI a3) (nI a4) (nI a5) (if b (q + i) = a then 1 else 0) (nI (i + 1)) := by
          intro a ha
          unfold fX9_spells_103 fX9_spells_111
          by_cases e : b (q + i) = a
          · rw [if_pos (by rw [e]), if_pos e, oL_d, p1, nI_add]
          · rw [if_neg (by rw [p_eq (by omega) (by omega)]; exact e), if_neg e, oL_d, p1, nI_add]
        rw [fX9_spells_26, if_neg (by rw [p_le (by omega) (by omega)]; omega), if_neg (by decide), e13, nI_add, q211, q211s, inb_nI (by omega), oG_d (by omega), ix_nI (by omega), hb, cmp _ ha.1, cmp _ ha.2.1, cmp _ ha.2.2.1, cmp _ ha.2.2.2.1, cmp _ ha.2.2.2.2.1, cmp _ ha.2.2.2.2.2]
        rcases (show i = 0 ∨ i = 1 ∨ i = 2 ∨ i = 3 ∨ i = 4 ∨ i = 5 by omega) with rfl | rfl | rfl | rfl | rfl | rfl
        · rw [if_pos (by decide)]; rfl
        · rw [if_neg (by decide), if_pos (by decide)]; rfl
        · rw [if_neg (by decide), if_neg (by decide), if_pos (by decide)]; rfl
        · rw [if_neg (by decide), if_neg (by decide), if_neg (by decide), if_pos (by decide)]; rfl
        · rw [if_neg (by decide), if_neg (by decide), if_neg (by decide), if_neg (by decide), if_pos (by decide)]; rfl
        · rw [if_neg (by decide), if_neg (by decide), if_neg (by decide), if_neg (by decide), if_neg (by decide)]; rfl
      rcases firstOf (fun i => decide (b (q + i) ≠ ch6 a0 a1 a2 a3 a4 a5 i)) sz with hn | ⟨k, hk, hk1, hk2⟩
      · have hall : ∀ i, i < sz → b (q + i) = ch6 a0 a1 a2 a3 a4 a5 i := fun i hi => by have := hn i hi; simpa using this
        rw [eqP_all _ hall]
        refine run_loop (fun n (s : Int32) => fX9_spells_26 h n 262 (nI sz) (nI a0) (nI a1) (nI a2) (nI a3) (nI a4) (nI a5) 1 s) (fun i => nI i) sz _ (fun n i hi => ?_) (fun n => ?_) FU (FU_lt (by omega))
        · show fX9_spells_26 h (n + 1) 262 (nI sz) (nI a0) (nI a1) (nI a2) (nI a3) (nI a4) (nI a5) 1 (nI i) = _
          rw [step n i hi, if_pos (hall i hi)]
        · show fX9_spells_26 h (n + 1) 262 (nI sz) (nI a0) (nI a1) (nI a2) (nI a3) (nI a4) (nI a5) 1 (nI sz) = _
          rw [fX9_spells_26, if_pos (by rw [p_le (by omega) (by omega)]; exact Nat.le_refl _)]; rfl
      · rw [eqP_not (by simpa using hk1) _ hk]
        refine run_rel (fun n (s : Int32 × Int32) => fX9_spells_26 h n 262 (nI sz) (nI a0) (nI a1) (nI a2) (nI a3) (nI a4) (nI a5) s.1 s.2) (fun i s => s.2 = nI i ∧ s.1 = (if i ≤ k then 1 else 0)) (k + 1) (fun r => r = some (bI false)) ?_ ?_ (1, nI 0) ⟨rfl, by rw [if_pos (by omega)]⟩ FU (FU_lt (by omega))
        · rintro n i ⟨s1, s2⟩ hi ⟨i2, i1⟩
          simp only at i1 i2
          rw [if_pos (by omega)] at i1
          subst i1; subst i2
          refine ⟨((if b (q + i) = ch6 a0 a1 a2 a3 a4 a5 i then 1 else 0), nI (i + 1)), step n i (by omega), rfl, ?_⟩
          show (if b (q + i) = ch6 a0 a1 a2 a3 a4 a5 i then (1 : Int32) else 0) = if i + 1 ≤ k then 1 else 0
          by_cases e : i = k
          · subst e
            rw [if_neg (by simpa using hk1), if_neg (by omega)]
          · rw [if_pos (by have := hk2 i (by omega); simpa using this), if_pos (by omega)]
        · rintro n ⟨s1, s2⟩ ⟨i2, i1⟩
          simp only at i1 i2
          rw [if_neg (by omega)] at i1
          subst i1; subst i2
          show fX9_spells_26 h (n + 1) 262 (nI sz) (nI a0) (nI a1) (nI a2) (nI a3) (nI a4) (nI a5) 0 (nI (k + 1)) = _
          rw [fX9_spells_26, if_pos rfl]
          split <;> rfl
    · rw [if_neg (by rw [p_eq (by omega) (by omega)]; exact h2), decide_eq_false h2]; rfl
  · rw [if_neg (by rw [p1, p_eq (by omega) (by omega)]; exact h1), decide_eq_false h1]; rfl
theorem isW_key {w q : Nat} (h : isW b L w q = true) : rn (isLt b) L q - q = wl w ∧ (0 < wl w → b q = wc w 0) := by
  unfold isW at h
  rw [Bool.and_eq_true, decide_eq_true_eq] at h
  refine ⟨h.1, fun h0 => ?_⟩
  have := eqP_true _ h.2 0 h0
  rw [Nat.add_zero] at this
  exact this
theorem wl_v : wl 0 = 4 ∧ wl 1 = 4 ∧ wl 2 = 3 ∧ wl 3 = 7 ∧ wl 4 = 2 ∧ wl 5 = 4 ∧ wc 0 0 = 108 ∧ wc 1 0 = 115 ∧ wc 2 0 = 111 ∧ wc 3 0 = 119 ∧ wc 4 0 = 100 ∧ wc 5 0 = 114 := by decide +kernel
/-- the words are unlike -/
theorem isW_wNo {q w : Nat} (hw : w < 6) : isW b L w q = decide (wNo b L q = w) := by
  obtain ⟨l0, l1, l2, l3, l4, l5, c0, c1, c2, c3, c4, c5⟩ := wl_v
  have key : ∀ i, i < 6 → isW b L i q = true → (i = 0 ∧ rn (isLt b) L q - q = 4 ∧ b q = 108) ∨ (i = 1 ∧ rn (isLt b) L q - q = 4 ∧ b q = 115) ∨ (i = 2 ∧ rn (isLt b) L q - q = 3) ∨ (i = 3 ∧ rn (isLt b) L q - q = 7) ∨ (i = 4 ∧ rn (isLt b) L q - q = 2) ∨ (i = 5 ∧ rn (isLt b) L q - q = 4 ∧ b q = 114) := by
    intro i hi hh
    obtain ⟨x1, x2⟩ := isW_key hh
    rcases (show i = 0 ∨ i = 1 ∨ i = 2 ∨ i = 3 ∨ i = 4 ∨ i = 5 by omega) with rfl | rfl | rfl | rfl | rfl | rfl <;> omega
  have excl : ∀ i j, i < 6 → j < 6 → isW b L i q = true → isW b L j q = true → i = j := by
    intro i j hi hj a c
    have x := key i hi a
    have y := key j hj c
    omega
  have conv : isW b L w q = true → wNo b L q = w := by
    intro h
    unfold wNo
    by_cases h0 : isW b L 0 q = true
    · rw [if_pos h0]; exact excl 0 w (by omega) hw h0 h
    rw [if_neg h0]
    by_cases h1 : isW b L 1 q = true
    · rw [if_pos h1]; exact excl 1 w (by omega) hw h1 h
    rw [if_neg h1]
    by_cases h2 : isW b L 2 q = true
    · rw [if_pos h2]; exact excl 2 w (by omega) hw h2 h
    rw [if_neg h2]
    by_cases h3 : isW b L 3 q = true
    · rw [if_pos h3]; exact excl 3 w (by omega) hw h3 h
    rw [if_neg h3]
    by_cases h4 : isW b L 4 q = true
    · rw [if_pos h4]; exact excl 4 w (by omega) hw h4 h
    rw [if_neg h4]
    by_cases h5 : isW b L 5 q = true
    · rw [if_pos h5]; exact excl 5 w (by omega) hw h5 h
    rw [if_neg h5]
    exfalso
    rcases (show w = 0 ∨ w = 1 ∨ w = 2 ∨ w = 3 ∨ w = 4 ∨ w = 5 by omega) with rfl | rfl | rfl | rfl | rfl | rfl
    · exact h0 h
    · exact h1 h
    · exact h2 h
    · exact h3 h
    · exact h4 h
    · exact h5 h
  have spec : wNo b L q = w → isW b L w q = true := by
    intro e
    unfold wNo at e
    by_cases h0 : isW b L 0 q = true
    · rw [if_pos h0] at e; rw [← e]; exact h0
    rw [if_neg h0] at e
    by_cases h1 : isW b L 1 q = true
    · rw [if_pos h1] at e; rw [← e]; exact h1
    rw [if_neg h1] at e
    by_cases h2 : isW b L 2 q = true
    · rw [if_pos h2] at e; rw [← e]; exact h2
    rw [if_neg h2] at e
    by_cases h3 : isW b L 3 q = true
    · rw [if_pos h3] at e; rw [← e]; exact h3
    rw [if_neg h3] at e
    by_cases h4 : isW b L 4 q = true
    · rw [if_pos h4] at e; rw [← e]; exact h4
    rw [if_neg h4] at e
    by_cases h5 : isW b L 5 q = true
    · rw [if_pos h5] at e; rw [← e]; exact h5
    rw [if_neg h5] at e
    omega
  cases hh : isW b L w q with
  | true => rw [decide_eq_true (conv hh)]
  | false => rw [decide_eq_false (fun e => by rw [spec e] at hh; cases hh)]
/-- a spelled word -/
theorem m_word (ht : TM b L h) {q sz a0 a1 a2 a3 a4 a5 w : Nat} (hq : q ≤ L) (hk : TK b L q h) (hw : w < 6) (hsz : sz ≤ 6) (ha : a0 < 128 ∧ a1 < 128 ∧ a2 < 128 ∧ a3 < 128 ∧ a4 < 128 ∧ a5 < 128) (hws : wl w = sz ∧ ∀ i, i < sz → wc w i = ch6 a0 a1 a2 a3 a4 a5 i) : fX9_spells 262 (nI sz) (nI a0) (nI a1) (nI a2) (nI a3) (nI a4) (nI a5) h = some (bI (decide (srt b L q = 1) && decide (wNo b L q = w))) := by
  have hen := en_le (b := b) hq
  rw [m_spells ht hq hk.1 hk.2.1 hk.2.2.1 (by omega) hsz ha]
  by_cases h1 : srt b L q = 1
  · rw [decide_eq_true h1, Bool.true_and, Bool.true_and, ← isW_wNo hw]
    have hne : q ≠ L := fun e => by rw [srt_0.mpr e] at h1; omega
    have hl : isLt b q = true := by
      cases hl : isLt b q with
      | true => rfl
      | false =>
        exfalso
        unfold srt at h1
        rw [if_neg hne, if_neg (by rw [hl]; decide)] at h1
        split at h1
        · split at h1 <;> omega
        · split at h1 <;> omega
    unfold isW en
    rw [if_neg hne, if_pos hl, hws.1, eqP_congr sz hws.2]
  · rw [decide_eq_false h1, Bool.false_and, Bool.false_and]
theorem TK.eqt {q : Nat} {h h' : AH} (a : TK b L q h) (h13 : hI h' 262 13 = hI h 262 13) (h14 : hI h' 262 14 = hI h 262 14) (h15 : hI h' 262 15 = hI h 262 15) (h16 : hI h' 262 16 = hI h 262 16) : TK b L q h' := ⟨h13.trans a.1, h14.trans a.2.1, h15.trans a.2.2.1, fun r => h16.trans (a.2.2.2 r)⟩
theorem m_watcherW (ht : TM b L h) {q : Nat} (hq : q ≤ L) (hk : TK b L q h) : ∃ h1, fX9_isWatcherWord 262 h = some (bI (decide (srt b L q = 1) && decide (wNo b L q = 3)), h1) ∧ TK b L q h1 ∧ EqT h h1 := by
  have hen := en_le (b := b) hq
  have t3 := ht.2.2.1
  have hsl := srt_le (b := b) (L := L) (q := q)
  have w119 : (119 : Int32) = nI 119 := by decide
  have w97 : (97 : Int32) = nI 97 := by decide
  have w116 : (116 : Int32) = nI 116 := by decide
  have w99 : (99 : Int32) = nI 99 := by decide
  have w104 : (104 : Int32) = nI 104 := by decide
  have w101 : (101 : Int32) = nI 101 := by decide
  have w114 : (114 : Int32) = nI 114 := by decide
  have off : ¬ (srt b L q = 1 ∧ en b L q - q = 7) → ∃ h1, fX9_isWatcherWord_21 262 h = some (0, h1) ∧ TK b L q h1 ∧ EqT h h1 := by
    intro hn
    have hk1 : TK b L q (sI h 262 14 (hI h 262 14)) := hk.eqt (sI_n (by omega)) sI_e (sI_n (by omega)) (sI_n (by omega))
    have hE1 : EqT h (sI h 262 14 (hI h 262 14)) := EqT.sI (by omega) (by omega)
    have hsp := m_spells (ht.eqr hE1.eqr) (sz := 6) (a0 := 119) (a1 := 97) (a2 := 116) (a3 := 99) (a4 := 104) (a5 := 101) hq hk1.1 hk1.2.1 hk1.2.2.1 (by omega) (by omega) (by omega)
    unfold fX9_isWatcherWord_21 fX9_isWatcherWord_22 fX9_isWatcherWord_37
    rw [if_pos rfl, oL_d, p6, w119, w97, w116, w99, w104, w101, hsp, ob_s, if_pos rfl]
    unfold fX9_isWatcherWord_73
    rw [oL_d, if_pos rfl]
    exact ⟨_, rfl, hk1.eqt (sI_n (by omega)) sI_e (sI_n (by omega)) (sI_n (by omega)), hE1.tr (EqT.sI (by omega) (by omega))⟩
  unfold fX9_isWatcherWord
  rw [hk.2.2.1, hk.2.1]
  by_cases h1 : srt b L q = 1
  · rw [if_pos (by rw [h1]; decide), decide_eq_true h1, Bool.true_and]
    have hne : q ≠ L := fun e => by rw [srt_0.mpr e] at h1; omega
    have hl : isLt b q = true := by
      cases hl : isLt b q with
      | true => rfl
      | false =>
        exfalso
        unfold srt at h1
        rw [if_neg hne, if_neg (by rw [hl]; decide)] at h1
        split at h1
        · split at h1 <;> omega
        · split at h1 <;> omega
    have hen2 : en b L q = rn (isLt b) L q := by unfold en; rw [if_neg hne, if_pos hl]
    have hWn : decide (wNo b L q = 3) = (decide (en b L q - q = 7) && eqP (wc 3) b q 7) := by
      rw [← isW_wNo (by omega), hen2]
      rfl
    rw [hWn]
    by_cases h7 : en b L q - q = 7
    · rw [if_pos (by rw [h7]; decide), decide_eq_true h7, Bool.true_and]
      have e1 : ¬ (1 : Int32) = 0 := by decide
      have x13 : hI (sI h 262 14 6) 262 13 = nI q := by rw [sI_n (by omega)]; exact hk.1
      have x15 : hI (sI h 262 14 6) 262 15 = nI (srt b L q) := by rw [sI_n (by omega)]; exact hk.2.2.1
      have hE1 : EqT h (sI h 262 14 6) := EqT.sI (by omega) (by omega)
      have hsp := m_spells (ht.eqr hE1.eqr) (sz := 6) (a0 := 119) (a1 := 97) (a2 := 116) (a3 := 99) (a4 := 104) (a5 := 101) (tl := 6) hq x13 sI_e x15 (by omega) (by omega) (by omega)
      rw [decide_eq_true h1, Bool.true_and, decide_eq_true rfl, Bool.true_and] at hsp
      have hE2 : EqT h (sI (sI h 262 14 6) 262 14 7) := hE1.tr (EqT.sI (by omega) (by omega))
      have hk2 : TK b L q (sI (sI h 262 14 6) 262 14 7) := hk.eqt (by rw [sI_n (by omega), sI_n (by omega)]) (sI_e.trans (by rw [hk.2.1, h7]; rfl)) (by rw [sI_n (by omega), sI_n (by omega)]) (by rw [sI_n (by omega), sI_n (by omega)])
      have hb6 := ht.2.1 (q + 6) (by omega)
      have hb6' := ht.2.2.2 (q + 6) (by omega)
      have hb7 : hI (sI (sI h 262 14 6) 262 14 7) 272 (q + 6) = nI (b (q + 6)) := by rw [sI_o (by omega), sI_o (by omega)]; exact hb6
      have he7 : eqP (wc 3) b q 7 = (eqP (ch6 119 97 116 99 104 101) b q 6 && decide (b (q + 6) = 114)) := by
        show (eqP (wc 3) b q 6 && decide (b (q + 6) = wc 3 6)) = _
        rw [eqP_congr 6 ((by decide +kernel : ∀ i, i < 6 → wc 3 i = ch6 119 97 116 99 104 101 i)), show wc 3 6 = 114 by decide +kernel]
      unfold fX9_isWatcherWord_22 fX9_isWatcherWord_37
      rw [if_neg e1, oL_d]
      have hsp' : fX9_spells 262 (6 : Int32) (119 : Int32) (97 : Int32) (116 : Int32) (99 : Int32) (104 : Int32) (101 : Int32) (sI h 262 14 6) = some (bI (eqP (ch6 119 97 116 99 104 101) b q 6)) := hsp
      rw [hsp', ob_s, if_neg e1]
      unfold fX9_isWatcherWord_73
      rw [oL_d, if_neg e1, he7]
      refine ⟨sI (sI h 262 14 6) 262 14 7, ?_, hk2, hE2⟩
      generalize sI (sI h 262 14 6) 262 14 7 = G at hk2 hb7 ⊢
      cases eqP (ch6 119 97 116 99 104 101) b q 6 with
      | false => rw [if_pos (by decide)]; rfl
      | true =>
        rw [if_neg (by decide), hk2.1, p6, nI_add, q211, q211s, inb_nI (by omega), oG_d (by omega), ix_nI (by omega), hb7, w114]
        by_cases e : b (q + 6) = 114
        · rw [if_pos (by rw [e]), decide_eq_true e]; rfl
        · rw [if_neg (by rw [p_eq (by omega) (by omega)]; exact e), decide_eq_false e]; rfl
    · rw [if_neg (by rw [p7, p_eq (by omega) (by omega)]; exact h7), decide_eq_false h7, Bool.false_and]
      exact off (fun r => h7 r.2)
  · rw [if_neg (by rw [p1, p_eq (by omega) (by omega)]; exact h1), decide_eq_false h1, Bool.false_and]
    exact off (fun r => h1 r.1)
def EqV (k : Nat) (h h' : AH) : Prop := (∀ a j, ¬ ((a = 262 ∧ 13 ≤ j ∧ j ≤ 16) ∨ (a = 274 ∧ j = k)) → hI h' a j = hI h a j) ∧ (∀ a k, hJ h' a k = hJ h a k) ∧ ∀ a k, hQ h' a k = hQ h a k
theorem EqV.eqr {k : Nat} {h h' : AH} (a : EqV k h h') : EqR h h' := ⟨fun c d q => a.1 c d (by omega), a.2.1, a.2.2⟩
theorem q218 : PC 262 18 = 274 := rfl
theorem q218s : SZ 274 = 3 := rfl
theorem q217 : PC 262 17 = 273 := rfl
theorem q217s : SZ 273 = 112 := rfl
/-- a number taken -/
theorem m_takes (ht : TM b L h) {W sh p i : Nat} (hp : p ≤ L) (hi : i < 3) (hk : TK b L (tbg b L (px b L p i)) h) (hhi : hiN W i sh ≤ 100) : (nk b L W sh p i = true → ∃ h1, fX9_takes 262 (nI i) (nI (loN W i)) (nI (hiN W i sh) - 1) h = some (1, h1) ∧ TK b L (tbg b L (px b L p (i + 1))) h1 ∧ hI h1 274 i = nI (va b L (tbg b L (px b L p i))) ∧ EqV i h h1) ∧ (nk b L W sh p i = false → fX9_takes 262 (nI i) (nI (loN W i)) (nI (hiN W i sh) - 1) h = some (0, h)) := by
  have hpx := px_le (b := b) hp i
  have hq := tbg_le (b := b) hpx.2
  have hsl := srt_le (b := b) (L := L) (q := tbg b L (px b L p i))
  have hlo : loN W i ≤ 1 := by unfold loN; split <;> (try split) <;> omega
  by_cases hs2 : srt b L (tbg b L (px b L p i)) = 2
  · have hva := va_lt hs2 ht.2.2.2 hq.2
    have h16 := hk.2.2.2 hs2
    have hwi : wi (nI (va b L (tbg b L (px b L p i)))) (nI (loN W i)) (nI (hiN W i sh) - 1) = nk b L W sh p i := by
      unfold wi nk
      rw [decide_eq_true hs2, Bool.true_and]
      congr 1
      · exact decide_eq_decide.mpr (by rw [p_le (by omega) (by omega)])
      · exact decide_eq_decide.mpr (by rw [le_m1 (by omega) hhi])
    have e0 : fX9_takes 262 (nI i) (nI (loN W i)) (nI (hiN W i sh) - 1) h = ob (some (bI (nk b L W sh p i))) fun v2 => if v2 = 0 then some ((0 : Int32), h) else oG (inb (nI i) (SZ (PC 262 18))) (oL (sI h (PC 262 18) (ix (nI i)) (hI h 262 16)) fun h3 => ob (fX9_goBehind 262 h3) fun h5 => some ((1 : Int32), h5)) := by
      unfold fX9_takes
      rw [hk.2.2.1, if_pos (by rw [hs2]; decide), h16, m_in, hwi]
    refine ⟨fun hn => ?_, fun hn => ?_⟩
    · have hE : EqR h (sI h 274 i (nI (va b L (tbg b L (px b L p i))))) := EqR.sI (by omega)
      obtain ⟨g, r1, r2, r3⟩ := m_behind (ht.eqr hE) hq.2 (hk.eqt (sI_o (by omega)) (sI_o (by omega)) (sI_o (by omega)) (sI_o (by omega)))
      refine ⟨g, ?_, r2, (r3.1 _ _ (by omega)).trans sI_e, ⟨fun a j q => (r3.1 a j (by omega)).trans (sI_n (by omega)), r3.2.1, r3.2.2⟩⟩
      rw [e0, hn, ob_s, if_neg (by decide), q218, q218s, inb_nI (by omega), oG_d (by omega), oL_d, ix_nI (by omega), h16, r1, ob_s]
    · rw [e0, hn, ob_s, if_pos (by decide)]
  · have hn0 : nk b L W sh p i = false := by unfold nk; rw [decide_eq_false hs2, Bool.false_and]
    refine ⟨fun hn => absurd (hn0.symm.trans hn) (by decide), fun _ => ?_⟩
    unfold fX9_takes
    rw [hk.2.2.1, if_neg (by rw [p2, p_eq (by omega) (by omega)]; exact hs2)]
end SPL
