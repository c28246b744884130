/-! PURE: the text's items (the reference) -/
theorem eqP_congr {f g : Nat → Nat} {b : Nat → Nat} {q : Nat} : ∀ n, (∀ i, i < n → f i = g i) → eqP f b q n = eqP g b q n := by
  intro n
  induction n with
  | zero => intro _; rfl
  | succ n ih => intro hh; unfold eqP; rw [ih (fun i hi => hh i (by omega)), hh n (by omega)]
theorem eqP_true {f : Nat → Nat} {b : Nat → Nat} {q : Nat} : ∀ n, eqP f b q n = true → ∀ i, i < n → b (q + i) = f i := by
  intro n
  induction n with
  | zero => intro _ i hi; omega
  | succ n ih =>
    intro hh i hi
    unfold eqP at hh
    rw [Bool.and_eq_true, decide_eq_true_eq] at hh
    by_cases e : i = n
    · rw [e]; exact hh.2
    · exact ih hh.1 i (by omega)
def ch6 (a0 a1 a2 a3 a4 a5 k : Nat) : Nat := if k = 0 then a0 else if k = 1 then a1 else if k = 2 then a2 else if k = 3 then a3 else if k = 4 then a4 else a5
section SPL
variable {b : Nat → Nat} {L : Nat} {h : AH}
theorem m_spells (ht : TM b L h) {q sz a0 a1 a2 a3 a4 a5 tl : Nat} (hq : q ≤ L) (e13 : hI h 262 13 = nI q) (e14 : hI h 262 14 = nI tl) (e15 : hI h 262 15 = nI (srt b L q)) (htl : q + tl ≤ L) (hsz : sz ≤ 6) (ha : a0 < 128 ∧ a1 < 128 ∧ a2 < 128 ∧ a3 < 128 ∧ a4 < 128 ∧ a5 < 128) : fX9_spells 262 (nI sz) (nI a0) (nI a1) (nI a2) (nI a3) (nI a4) (nI a5) h = some (bI (decide (srt b L q = 1) && (decide (tl = sz) && eqP (ch6 a0 a1 a2 a3 a4 a5) b q sz))) := by
  have t3 := ht.2.2.1
  have hsl := srt_le (b := b) (L := L) (q := q)
  have off : fX9_spells_20 h 262 (nI sz) (nI a0) (nI a1) (nI a2) (nI a3) (nI a4) (nI a5) = some 0 := by
    unfold fX9_spells_20 fX9_spells_21
    refine run_loop (fun n (s : Int32) => fX9_spells_26 h n 262 (nI sz) (nI a0) (nI a1) (nI a2) (nI a3) (nI a4) (nI a5) 0 s) (fun i => nI i) 0 _ (fun n i hi => by omega) (fun n => ?_) FU (FU_lt (by omega))
    show fX9_spells_26 h (n + 1) 262 (nI sz) (nI a0) (nI a1) (nI a2) (nI a3) (nI a4) (nI a5) 0 (nI 0) = _
    rw [fX9_spells_26, if_pos rfl]
    split <;> rfl
  unfold fX9_spells
  rw [e15, e14, off]
  by_cases h1 : srt b L q = 1
  · rw [if_pos (by rw [h1]; decide), decide_eq_true h1, Bool.true_and]
    by_cases h2 : tl = sz
    · rw [if_pos (by rw [h2]), decide_eq_true h2, Bool.true_and]
      unfold fX9_spells_21
      rw [p0]
      have step : ∀ n i, i < sz → fX9_spells_26 h (n + 1) 262 (nI sz) (nI a0) (nI a1) (nI a2) (nI a3) (nI a4) (nI a5) 1 (nI i) = fX9_spells_26 h n 262 (nI sz) (nI a0) (nI a1) (nI a2) (nI a3) (nI a4) (nI a5) (if b (q + i) = ch6 a0 a1 a2 a3 a4 a5 i then 1 else 0) (nI (i + 1)) := by
        intro n i hi
        have hb : hI h 272 (q + i) = nI (b (q + i)) := ht.2.1 _ (by omega)
        have hbl := ht.2.2.2 (q + i) (by omega)
        have cmp : ∀ a : Nat, a < 128 → fX9_spells_103 h (fX9_spells_26 h n) 262 (nI sz) (nI a0) (nI a1) (nI a2) (nI a3) (nI a4) (nI a5) (nI i) (nI (b (q + i))) (nI a) = fX9_spells_26 h n 262 (nI sz) (nI a0) (nI a1) (nI a2) (nI a3) (nI a4) (nI a5) (if b (q + i) = a then 1 else 0) (nI (i + 1)) := by
          intro a ha
          unfold fX9_spells_103 fX9_spells_111
          by_cases e : b (q + i) = a
          · rw [if_pos (by rw [e]), if_pos e, oL_d, p1, nI_add]
          · rw [if_neg (by rw [p_eq (by omega) (by omega)]; exact e), if_neg e, oL_d, p1, nI_add]
        rw [fX9_spells_26, if_neg (by rw [p_le (by omega) (by omega)]; omega), if_neg (by decide), e13, nI_add, q211, q211s, inb_nI (by omega), oG_d (by omega), ix_nI (by omega), hb, cmp _ ha.1, cmp _ ha.2.1, cmp _ ha.2.2.1, cmp _ ha.2.2.2.1, cmp _ ha.2.2.2.2.1, cmp _ ha.2.2.2.2.2]
        unfold ch6
        rcases (show i = 0 ∨ i = 1 ∨ i = 2 ∨ i = 3 ∨ i = 4 ∨ i = 5 by omega) with rfl | rfl | rfl | rfl | rfl | rfl
        · rw [if_pos (by decide), if_pos rfl]
        · rw [if_neg (by decide), if_pos (by decide), if_neg (by decide), if_pos rfl]
        · rw [if_neg (by decide), if_neg (by decide), if_pos (by decide), if_neg (by decide), if_neg (by decide), if_pos rfl]
        · rw [if_neg (by decide), if_neg (by decide), if_neg (by decide), if_pos (by decide), if_neg (by decide), if_neg (by decide), if_neg (by decide), if_pos rfl]
        · rw [if_neg (by decide), if_neg (by decide), if_neg (by decide), if_neg (by decide), if_pos (by decide), if_neg (by decide), if_neg (by decide), if_neg (by decide), if_neg (by decide), if_pos rfl]
        · rw [if_neg (by decide), if_neg (by decide), if_neg (by decide), if_neg (by decide), if_neg (by decide), if_neg (by decide), if_neg (by decide), if_neg (by decide), if_neg (by decide), if_neg (by decide)]
      rcases firstOf (fun i => decide (b (q + i) ≠ ch6 a0 a1 a2 a3 a4 a5 i)) sz with hn | ⟨k, hk, hk1, hk2⟩
      · have hall : ∀ i, i < sz → b (q + i) = ch6 a0 a1 a2 a3 a4 a5 i := fun i hi => by have := hn i hi; simpa using this
        rw [eqP_all _ hall]
        refine run_loop (fun n (s : Int32) => fX9_spells_26 h n 262 (nI sz) (nI a0) (nI a1) (nI a2) (nI a3) (nI a4) (nI a5) 1 s) (fun i => nI i) sz _ (fun n i hi => ?_) (fun n => ?_) FU (FU_lt (by omega))
        · show fX9_spells_26 h (n + 1) 262 (nI sz) (nI a0) (nI a1) (nI a2) (nI a3) (nI a4) (nI a5) 1 (nI i) = _
          rw [step n i hi, if_pos (hall i hi)]
        · show fX9_spells_26 h (n + 1) 262 (nI sz) (nI a0) (nI a1) (nI a2) (nI a3) (nI a4) (nI a5) 1 (nI sz) = _
          rw [fX9_spells_26, if_pos (by rw [p_le (by omega) (by omega)]; exact Nat.le_refl _)]; rfl
      · rw [eqP_not (by simpa using hk1) _ hk]
        refine run_rel (fun n (s : Int32 × Int32) => fX9_spells_26 h n 262 (nI sz) (nI a0) (nI a1) (nI a2) (nI a3) (nI a4) (nI a5) s.1 s.2) (fun i s => s.2 = nI i ∧ s.1 = (if i ≤ k then 1 else 0)) (k + 1) (fun r => r = some (bI false)) ?_ ?_ (1, nI 0) ⟨rfl, by rw [if_pos (by omega)]⟩ FU (FU_lt (by omega))
        · rintro n i ⟨s1, s2⟩ hi ⟨i2, i1⟩
          simp only at i1 i2
          rw [if_pos (by omega)] at i1
          subst i1; subst i2
          refine ⟨((if b (q + i) = ch6 a0 a1 a2 a3 a4 a5 i then 1 else 0), nI (i + 1)), step n i (by omega), rfl, ?_⟩
          show (if b (q + i) = ch6 a0 a1 a2 a3 a4 a5 i then (1 : Int32) else 0) = if i + 1 ≤ k then 1 else 0
          by_cases e : i = k
          · subst e
            rw [if_neg (by simpa using hk1), if_neg (by omega)]
          · rw [if_pos (by have := hk2 i (by omega); simpa using this), if_pos (by omega)]
        · rintro n ⟨s1, s2⟩ ⟨i2, i1⟩
          simp only at i1 i2
          rw [if_neg (by omega)] at i1
          subst i1; subst i2
          show fX9_spells_26 h (n + 1) 262 (nI sz) (nI a0) (nI a1) (nI a2) (nI a3) (nI a4) (nI a5) 0 (nI (k + 1)) = _
          rw [fX9_spells_26, if_pos rfl]
          split <;> rfl
    · rw [if_neg (by rw [p_eq (by omega) (by omega)]; exact h2), decide_eq_false h2]; rfl
  · rw [if_neg (by rw [p1, p_eq (by omega) (by omega)]; exact h1), decide_eq_false h1]; rfl
theorem isW_key {w q : Nat} (h : isW b L w q = true) : rn (isLt b) L q - q = wl w ∧ (0 < wl w → b q = wc w 0) := by
  unfold isW at h
  rw [Bool.and_eq_true, decide_eq_true_eq] at h
  refine ⟨h.1, fun h0 => ?_⟩
  have := eqP_true _ h.2 0 h0
  rw [Nat.add_zero] at this
  exact this
theorem wl_v : wl 0 = 4 ∧ wl 1 = 4 ∧ wl 2 = 3 ∧ wl 3 = 7 ∧ wl 4 = 2 ∧ wl 5 = 4 ∧ wc 0 0 = 108 ∧ wc 1 0 = 115 ∧ wc 2 0 = 111 ∧ wc 3 0 = 119 ∧ wc 4 0 = 100 ∧ wc 5 0 = 114 := by decide +kernel
/-- the words are unlike -/
theorem isW_wNo {q w : Nat} (hw : w < 6) : isW b L w q = decide (wNo b L q = w) := by
  obtain ⟨l0, l1, l2, l3, l4, l5, c0, c1, c2, c3, c4, c5⟩ := wl_v
  have k0 := isW_key (b := b) (L := L) (w := 0) (q := q)
  have k1 := isW_key (b := b) (L := L) (w := 1) (q := q)
  have k2 := isW_key (b := b) (L := L) (w := 2) (q := q)
  have k3 := isW_key (b := b) (L := L) (w := 3) (q := q)
  have k4 := isW_key (b := b) (L := L) (w := 4) (q := q)
  have k5 := isW_key (b := b) (L := L) (w := 5) (q := q)
  rw [l0, c0] at k0; rw [l1, c1] at k1; rw [l2, c2] at k2; rw [l3, c3] at k3; rw [l4, c4] at k4; rw [l5, c5] at k5
  unfold wNo
  generalize isW b L 0 q = x0 at *
  generalize isW b L 1 q = x1 at *
  generalize isW b L 2 q = x2 at *
  generalize isW b L 3 q = x3 at *
  generalize isW b L 4 q = x4 at *
  generalize isW b L 5 q = x5 at *
  sorry
end SPL
