/-! PURE: the text's items (the class) -/
def nbh (W : Nat) : Nat := if W = 0 then 0 else if W = 1 then 3 else if W = 3 then 2 else 1
def loN (W i : Nat) : Nat := if W = 5 then 1 else if W = 1 ∧ i = 2 then 1 else 0
def hiN (W i sh : Nat) : Nat := if W = 1 then (if i = 0 then 6 else if i = 1 then 30 else 10) else if W = 2 then sh else if W = 3 then (if i = 0 then 6 else 30) else if W = 4 then 30 else 100
def px (b : Nat → Nat) (L p : Nat) : Nat → Nat
  | 0 => p
  | i + 1 => en b L (tbg b L (px b L p i))
def nk (b : Nat → Nat) (L W sh p i : Nat) : Bool := decide (srt b L (tbg b L (px b L p i)) = 2) && (decide (loN W i ≤ va b L (tbg b L (px b L p i))) && decide (va b L (tbg b L (px b L p i)) < hiN W i sh))
def itN (b : Nat → Nat) (L W sh p : Nat) : Nat → Option Nat
  | 0 => none
  | i + 1 => match itN b L W sh p i with
    | some e => some e
    | none => if nk b L W sh p i = true then none else some (tbg b L (px b L p i))
def itR (b : Nat → Nat) (L W sh p : Nat) : Option Nat := match itN b L W sh p (nbh W) with
  | some e => some e
  | none => if srt b L (tbg b L (px b L p (nbh W))) = 3 then none else some (tbg b L (px b L p (nbh W)))
def may (W n : Nat) (T : Nat → Int32) : Bool := if n = 0 then decide (W = 0) else decide (W ≠ 0) && (decide (W ≠ 6) && (decide (W = 1 → tn T 0 < 5) && decide (W = 3 → tn T 1 < 6)))
def itT (T : Nat → Int32) (W : Nat) (v : Nat → Nat) : Nat → Int32 := if W = 1 then shT T (nI (v 0)) (nI (v 1)) (nI (v 2)) else if W = 2 then up1 T (25 + v 0) 0 else if W = 3 then waT T (nI (v 0)) (nI (v 1)) else if W = 4 then doT T (v 0) else if W = 5 then up1 T 13 (nI (min 9999 (tn T 13 + v 0))) else T
def rdF (b : Nat → Nat) (L : Nat) : Nat → Nat → Nat → (Nat → Int32) → Bool × Nat × (Nat → Int32)
  | 0, _, _, T => (false, 0, T)
  | d + 1, n, p, T => if srt b L (tbg b L p) = 0 ∧ 0 < n then (true, n, T) else if srt b L (tbg b L p) = 1 ∧ may (wNo b L (tbg b L p)) n T = true then (match itR b L (wNo b L (tbg b L p)) (tn T 0) (en b L (tbg b L p)) with
    | some e => (false, e, T)
    | none => rdF b L d (n + 1) (en b L (tbg b L (px b L (en b L (tbg b L p)) (nbh (wNo b L (tbg b L p)))))) (itT T (wNo b L (tbg b L p)) (fun i => va b L (tbg b L (px b L (en b L (tbg b L p)) i))))) else (false, tbg b L p, T)
section ITN
variable {b : Nat → Nat} {L W sh p : Nat}
theorem tbg_le {p : Nat} (hp : p ≤ L) : p ≤ tbg b L p ∧ tbg b L p ≤ L := ⟨(rn_is hp).1, (rn_is hp).2.1⟩
theorem en_le {q : Nat} (hq : q ≤ L) : q ≤ en b L q ∧ en b L q ≤ L := by
  unfold en
  by_cases e : q = L
  · rw [if_pos e]; omega
  · rw [if_neg e]
    have h1 := rn_is (P := isLt b) hq
    have h2 := rn_is (P := isFg b) hq
    split
    · exact ⟨h1.1, h1.2.1⟩
    · split
      · exact ⟨h2.1, h2.2.1⟩
      · omega
theorem en_gt {q : Nat} (hq : q < L) : q < en b L q := by
  unfold en
  rw [if_neg (by omega)]
  by_cases h1 : isLt b q = true
  · rw [if_pos h1]; exact rn_gt hq h1
  · rw [if_neg h1]
    by_cases h2 : isFg b q = true
    · rw [if_pos h2]; exact rn_gt hq h2
    · rw [if_neg h2]; omega
theorem srt_0 {q : Nat} : srt b L q = 0 ↔ q = L := by
  unfold srt
  by_cases e : q = L
  · rw [if_pos e]; exact ⟨fun _ => e, fun _ => rfl⟩
  · rw [if_neg e]
    refine ⟨fun h => ?_, fun h => absurd h e⟩
    split at h
    · omega
    · split at h
      · split at h <;> omega
      · split at h <;> omega
theorem srt_le {q : Nat} : srt b L q ≤ 4 := by
  unfold srt
  split
  · omega
  · split
    · omega
    · split
      · split <;> omega
      · split <;> omega
theorem px_le (hp : p ≤ L) : ∀ i, p ≤ px b L p i ∧ px b L p i ≤ L := by
  intro i
  induction i with
  | zero => exact ⟨Nat.le_refl _, hp⟩
  | succ i ih =>
    have h1 := tbg_le (b := b) ih.2
    have h2 := en_le (b := b) h1.2
    show p ≤ en b L (tbg b L (px b L p i)) ∧ _
    exact ⟨by omega, h2.2⟩
theorem itN_all : ∀ n, (∀ i, i < n → nk b L W sh p i = true) → itN b L W sh p n = none := by
  intro n
  induction n with
  | zero => intro _; rfl
  | succ n ih => intro h; unfold itN; rw [ih (fun i hi => h i (by omega))]; show (if _ then _ else _) = _; rw [if_pos (h n (by omega))]
theorem itN_first {k : Nat} (hk : nk b L W sh p k = false) (hj : ∀ i, i < k → nk b L W sh p i = true) : ∀ n, k < n → itN b L W sh p n = some (tbg b L (px b L p k)) := by
  intro n
  induction n with
  | zero => intro h; omega
  | succ n ih =>
    intro h
    unfold itN
    by_cases e : k = n
    · subst e; rw [itN_all k hj]; show (if _ then _ else _) = _; rw [if_neg (by rw [hk]; decide)]
    · rw [ih (by omega)]
theorem itR_none (h : itR b L W sh p = none) : ∀ i, i < nbh W → nk b L W sh p i = true := by
  rcases firstOf (fun i => !nk b L W sh p i) (nbh W) with hn | ⟨k, hk, hk1, hk2⟩
  · intro i hi; have := hn i hi; simpa using this
  · unfold itR at h
    rw [itN_first (by simpa using hk1) (fun i hi => by have := hk2 i hi; simpa using this) _ hk] at h
    cases h
end ITN
def EqB (h h' : AH) : Prop := (∀ a k, ¬ ((a = 94 ∧ k ≠ 3) ∨ a = 96) → hI h' a k = hI h a k) ∧ (∀ a k, hJ h' a k = hJ h a k) ∧ ∀ a k, hQ h' a k = hQ h a k
theorem EqB.rf {h : AH} : EqB h h := ⟨fun _ _ _ => rfl, fun _ _ => rfl, fun _ _ => rfl⟩
theorem EqB.tr {h h' h'' : AH} (a : EqB h h') (b : EqB h' h'') : EqB h h'' := ⟨fun c d q => (b.1 c d q).trans (a.1 c d q), fun c d => (b.2.1 c d).trans (a.2.1 c d), fun c d => (b.2.2 c d).trans (a.2.2 c d)⟩
theorem EqB.sI {h : AH} {o k : Nat} {v : Int32} (h1 : (o = 94 ∧ k ≠ 3) ∨ o = 96) : EqB h (sI h o k v) := ⟨fun a b q => sI_n (by omega), fun _ _ => rfl, fun _ _ => rfl⟩
theorem EqA.eqb {h h' : AH} (a : EqA h h') : EqB h h' := ⟨fun c d q => a.1 c d (by omega), a.2.1, a.2.2⟩
theorem TX.eqb {b : Nat → Nat} {L : Nat} {h h' : AH} (a : TX b L h) (e : EqB h h') : TX b L h' := ⟨(e.1 _ _ (by omega)).trans a.1, fun k hk => (e.1 _ _ (by omega)).trans (a.2.1 k hk), a.2.2⟩
theorem EqB.eqs {h h' : AH} (a : EqB h h') {l r : Nat} (h1 : r < 94 ∨ 96 < l) : Eqs l r h h' := fun o q1 q2 k => ⟨a.1 o k (by omega), a.2.1 o k, a.2.2 o k⟩
theorem EqB.eqq {h h' : AH} (a : EqB h h') : EqQ h h' := fun o k q => ⟨a.1 o k (by unfold kpt at q; omega), a.2.1 o k, a.2.2 o k⟩
theorem z942 : PC 94 2 = 96 := rfl
theorem z96s : SZ 96 = 3 := rfl
theorem c_nbh : ∀ W, W < 6 → fX5_numbersBehind (nI W) = some (nI (nbh W)) ∧ nbh W ≤ 3 := by decide +kernel
theorem c_lo : ∀ W, W < 6 → ∀ i, i < 3 → fX5_least (nI W) (nI i) = some (nI (loN W i)) := by decide +kernel
theorem c_hi : ∀ W, W < 6 → ∀ i, i < 3 → ∀ sh, sh < 6 → i < nbh W → fX5_most (nI W) (nI i) (nI sh) = some (nI (hiN W i sh) - 1) ∧ hiN W i sh ≤ 100 := by decide +kernel
theorem le_m1 {v n : Nat} (hv : v < 2147483648) (hn : n ≤ 100) : (nI v ≤ nI n - 1) = (v < n) := by
  by_cases e : n = 100
  · subst e
    rw [show nI 100 - 1 = nI 99 by decide, p_le hv (by omega)]
    exact propext ⟨fun h => by omega, fun h => by omega⟩
  · rw [Int32.le_iff_toInt_le, pm1 n (by omega), nI_toInt hv]
    exact propext ⟨fun h => by omega, fun h => by omega⟩
theorem wV_lt {W : Nat} (h : W < 6) : wV W = nI W := if_neg (by omega)
theorem wNo_le {b : Nat → Nat} {L q : Nat} : wNo b L q ≤ 6 := by
  unfold wNo
  split
  · omega
  · split
    · omega
    · split
      · omega
      · split
        · omega
        · split
          · omega
          · split <;> omega
theorem va_lt {b : Nat → Nat} {L q : Nat} (hs2 : srt b L q = 2) (ht4 : ∀ k, k < L → b k < 128) (hq : q ≤ L) : va b L q < 2000 := by
  have hne : q ≠ L := fun e => by rw [srt_0.mpr e] at hs2; omega
  have h3 : q < L := by omega
  have g0 := ht4 q h3
  unfold srt at hs2
  cases hl : isLt b q with
  | true => rw [if_neg hne, if_pos hl] at hs2; omega
  | false =>
    cases hf : isFg b q with
    | false =>
      rw [if_neg hne, if_neg (by rw [hl]; decide), if_neg (by rw [hf]; decide)] at hs2
      split at hs2 <;> omega
    | true =>
      rw [if_neg hne, if_neg (by rw [hl]; decide), if_pos hf] at hs2
      by_cases e : rn (isFg b) L q - q ≤ 2
      · have h6 := rn_gt h3 hf
        have h7 := rn_is (P := isFg b) hq
        unfold va
        by_cases e1 : rn (isFg b) L q - q = 1
        · rw [if_pos e1]; omega
        · have g1 := ht4 (q + 1) (by omega)
          rw [if_neg e1]; omega
      · rw [if_neg e] at hs2; omega
section ITC
variable {b : Nat → Nat} {L : Nat} {h : AH}
/-- the numbers behind a word, and what ends the item -/
theorem c_nums (ht : TX b L h) {W sh p : Nat} (hW : W < 6) (hp : p ≤ L) (e1 : hI h 94 1 = nI W) (e4 : hI h 94 4 = nI p) (es : hI h 84 2 = nI sh) (hsh : sh < 6) : ∃ h1, fX5_takeItem_32 FU 94 84 (nI 0) h = some ((if itR b L W sh p = none then 1 else 0), h1) ∧ (∀ e, itR b L W sh p = some e → hI h1 94 6 = nI e) ∧ (itR b L W sh p = none → hI h1 94 1 = nI W ∧ hI h1 94 4 = nI (en b L (tbg b L (px b L p (nbh W)))) ∧ ∀ i, i < nbh W → hI h1 96 i = nI (va b L (tbg b L (px b L p i)))) ∧ EqB h h1 := by
  obtain ⟨nb1, nb2⟩ := c_nbh W hW
  have t3 := ht.2.2.1
  have n3 : Int32.ofNat 3 = nI 3 := rfl
  have hstep : ∀ i, i < nbh W → ∀ g, hI g 94 4 = nI (px b L p i) → EqB h g → hI g 94 1 = nI W → ∃ g1, (∀ n, fX5_takeItem_32 (n + 1) 94 84 (nI i) g = if nk b L W sh p i = true then fX5_takeItem_32 n 94 84 (nI (i + 1)) (sI g1 96 i (nI (va b L (tbg b L (px b L p i))))) else some (0, g1)) ∧ hI g1 94 4 = nI (px b L p (i + 1)) ∧ hI g1 94 6 = nI (tbg b L (px b L p i)) ∧ EqA g g1 := by
    intro i hi g g4 gE g1'
    have htg := ht.eqb gE
    have hpx := px_le (b := b) hp i
    obtain ⟨g1, r1, r4, r5, r6, r7, r8, rE⟩ := c_advance htg hpx.2 g4
    have x1 : hI g1 94 1 = nI W := (rE.1 _ _ (by omega)).trans g1'
    have x2 : hI g1 84 2 = nI sh := ((rE.1 _ _ (by omega)).trans (gE.1 _ _ (by omega))).trans es
    refine ⟨g1, fun n => ?_, r4, r6, rE⟩
    rw [fX5_takeItem_32, g1', nb1, ob_s, z942, z96s, n3, if_neg (by rw [p_le (by omega) (by omega)]; omega), if_neg (by rw [p_le (by omega) (by omega)]; omega), r1, ob_s, r5, x1, x2]
    have hsl := srt_le (b := b) (L := L) (q := tbg b L (px b L p i))
    by_cases hs2 : srt b L (tbg b L (px b L p i)) = 2
    · have hva := va_lt hs2 ht.2.2.2 (tbg_le hpx.2).2
      obtain ⟨hh1, hh2⟩ := c_hi W hW i (by omega) sh hsh hi
      rw [if_pos (by rw [hs2]; decide), c_lo W hW i (by omega), ob_s, r8 hs2, hh1, ob_s]
      have hlo : loN W i ≤ 1 := by unfold loN; split <;> (try split) <;> omega
      unfold nk
      rw [decide_eq_true hs2, Bool.true_and]
      by_cases q1 : loN W i ≤ va b L (tbg b L (px b L p i))
      · rw [if_neg (by rw [p_lt (by omega) (by omega)]; omega), decide_eq_true q1, Bool.true_and]
        by_cases q2 : va b L (tbg b L (px b L p i)) < hiN W i sh
        · rw [if_pos (by rw [le_m1 (by omega) hh2]; exact q2), decide_eq_true q2, if_pos rfl, inb_nI (by omega), oG_d (by omega), oL_d, oL_d, ix_nI (by omega), p1, nI_add]
        · rw [if_neg (by rw [le_m1 (by omega) hh2]; exact q2), decide_eq_false q2, if_neg (by decide)]
      · rw [if_pos (by rw [p_lt (by omega) (by omega)]; omega), decide_eq_false q1, Bool.false_and, if_neg (by decide)]
    · rw [if_neg (by rw [p2, p_eq (by omega) (by omega)]; exact hs2), if_neg]
      unfold nk
      rw [decide_eq_false hs2, Bool.false_and]
      decide
  rcases firstOf (fun i => !nk b L W sh p i) (nbh W) with hn | ⟨k, hk, hk1, hk2⟩
  · have hall : ∀ i, i < nbh W → nk b L W sh p i = true := fun i hi => by have := hn i hi; simpa using this
    have hitR : itR b L W sh p = if srt b L (tbg b L (px b L p (nbh W))) = 3 then none else some (tbg b L (px b L p (nbh W))) := by
      unfold itR
      rw [itN_all _ hall]
    refine run_rel (fun n (s : Int32 × AH) => fX5_takeItem_32 n 94 84 s.1 s.2) (fun i s => s.1 = nI i ∧ hI s.2 94 4 = nI (px b L p i) ∧ hI s.2 94 1 = nI W ∧ (∀ j, j < i → hI s.2 96 j = nI (va b L (tbg b L (px b L p j)))) ∧ EqB h s.2) (nbh W) (fun r => ∃ h1, r = some ((if itR b L W sh p = none then 1 else 0), h1) ∧ (∀ e, itR b L W sh p = some e → hI h1 94 6 = nI e) ∧ (itR b L W sh p = none → hI h1 94 1 = nI W ∧ hI h1 94 4 = nI (en b L (tbg b L (px b L p (nbh W)))) ∧ ∀ i, i < nbh W → hI h1 96 i = nI (va b L (tbg b L (px b L p i)))) ∧ EqB h h1) ?_ ?_ (nI 0, h) ⟨rfl, e4, e1, fun j hj => by omega, EqB.rf⟩ FU (FU_lt (by omega))
    · rintro n i ⟨s1, g⟩ hi ⟨i1, g4, g1', gV, gE⟩
      simp only at i1 g4 g1' gV gE
      subst i1
      obtain ⟨g1, r1, r4, r6, rE⟩ := hstep i hi g g4 gE g1'
      refine ⟨(nI (i + 1), sI g1 96 i (nI (va b L (tbg b L (px b L p i))))), ?_, rfl, ?_, ?_, fun j hj => ?_, gE.tr (rE.eqb.tr (EqB.sI (by omega)))⟩
      · show fX5_takeItem_32 (n + 1) 94 84 (nI i) g = _
        rw [r1 n, if_pos (hall i hi)]
      · rw [sI_o (by omega)]; exact r4
      · rw [sI_o (by omega)]; exact (rE.1 _ _ (by omega)).trans g1'
      · by_cases e : j = i
        · subst e; rw [sI_e]
        · rw [sI_n (by omega), rE.1 _ _ (by omega)]; exact gV j (by omega)
    · rintro n ⟨s1, g⟩ ⟨i1, g4, g1', gV, gE⟩
      simp only at i1 g4 g1' gV gE
      subst i1
      have htg := ht.eqb gE
      have hpx := px_le (b := b) hp (nbh W)
      obtain ⟨g1, r1, r4, r5, r6, -, -, rE⟩ := c_advance htg hpx.2 g4
      have hsl := srt_le (b := b) (L := L) (q := tbg b L (px b L p (nbh W)))
      refine ⟨g1, ?_, fun e he => ?_, fun he => ⟨(rE.1 _ _ (by omega)).trans g1', r4, fun i hi => (rE.1 _ _ (by omega)).trans (gV i hi)⟩, gE.tr rE.eqb⟩
      · show fX5_takeItem_32 (n + 1) 94 84 (nI (nbh W)) g = _
        rw [fX5_takeItem_32, g1', nb1, ob_s, if_pos (by rw [p_le (by omega) (by omega)]; exact Nat.le_refl _)]
        unfold fX5_takeItem_116
        rw [r1, ob_s, r5, hitR]
        by_cases h3 : srt b L (tbg b L (px b L p (nbh W))) = 3
        · rw [if_pos (by rw [h3]; decide), if_pos h3, if_pos rfl]
        · rw [if_neg (by rw [p3, p_eq (by omega) (by omega)]; exact h3), if_neg h3, if_neg (fun q => by cases q)]
      · rw [hitR] at he
        by_cases h3 : srt b L (tbg b L (px b L p (nbh W))) = 3
        · rw [if_pos h3] at he; cases he
        · rw [if_neg h3] at he
          cases he
          exact r6
  · have hkf : nk b L W sh p k = false := by simpa using hk1
    have hj : ∀ i, i < k → nk b L W sh p i = true := fun i hi => by have := hk2 i hi; simpa using this
    have hitR : itR b L W sh p = some (tbg b L (px b L p k)) := by
      unfold itR
      rw [itN_first hkf hj _ hk]
    refine run_rel (fun n (s : Int32 × AH) => fX5_takeItem_32 n 94 84 s.1 s.2) (fun i s => s.1 = nI i ∧ hI s.2 94 4 = nI (px b L p i) ∧ hI s.2 94 1 = nI W ∧ EqB h s.2) k (fun r => ∃ h1, r = some ((if itR b L W sh p = none then 1 else 0), h1) ∧ (∀ e, itR b L W sh p = some e → hI h1 94 6 = nI e) ∧ (itR b L W sh p = none → hI h1 94 1 = nI W ∧ hI h1 94 4 = nI (en b L (tbg b L (px b L p (nbh W)))) ∧ ∀ i, i < nbh W → hI h1 96 i = nI (va b L (tbg b L (px b L p i)))) ∧ EqB h h1) ?_ ?_ (nI 0, h) ⟨rfl, e4, e1, EqB.rf⟩ FU (FU_lt (by omega))
    · rintro n i ⟨s1, g⟩ hi ⟨i1, g4, g1', gE⟩
      simp only at i1 g4 g1' gE
      subst i1
      obtain ⟨g1, r1, r4, r6, rE⟩ := hstep i (by omega) g g4 gE g1'
      refine ⟨(nI (i + 1), sI g1 96 i (nI (va b L (tbg b L (px b L p i))))), ?_, rfl, ?_, ?_, gE.tr (rE.eqb.tr (EqB.sI (by omega)))⟩
      · show fX5_takeItem_32 (n + 1) 94 84 (nI i) g = _
        rw [r1 n, if_pos (hj i hi)]
      · rw [sI_o (by omega)]; exact r4
      · rw [sI_o (by omega)]; exact (rE.1 _ _ (by omega)).trans g1'
    · rintro n ⟨s1, g⟩ ⟨i1, g4, g1', gE⟩
      simp only at i1 g4 g1' gE
      subst i1
      obtain ⟨g1, r1, r4, r6, rE⟩ := hstep k hk g g4 gE g1'
      refine ⟨g1, ?_, fun e he => ?_, fun he => ?_, gE.tr rE.eqb⟩
      · show fX5_takeItem_32 (n + 1) 94 84 (nI k) g = _
        rw [r1 n, if_neg (by rw [hkf]; decide), hitR, if_neg (fun q => by cases q)]
      · rw [hitR] at he; cases he; exact r6
      · rw [hitR] at he; cases he
theorem c_may {T : Nat → Int32} (hT : WfU T 112) (hR : LaR 84 T h) {W n : Nat} (hW : W ≤ 6) : fX5_mayStand (wV W) (if n = 0 then 1 else 0) 84 h = some (bI (may W n T)) := by
  have n0 := wf_0 hT (by omega)
  have n1 := wf_1 hT (by omega)
  have e2 : hI h 84 2 = nI (tn T 0) := hR.2.2.2.1.trans n0.1
  have e3 : hI h 84 3 = nI (tn T 1) := hR.2.2.2.2.1.trans n1.1
  have f1 : ∀ x, x < 6 → ((5 : Int32) ≤ nI x ↔ ¬ x < 5) := by decide +kernel
  have f2 : ∀ x, x < 7 → ((6 : Int32) ≤ nI x ↔ ¬ x < 6) := by decide +kernel
  unfold fX5_mayStand fX5_mayStand_8 may
  rw [e2, e3]
  by_cases hn : n = 0
  · rw [if_pos hn, if_pos hn, if_neg (by decide), if_neg (by decide)]
    rcases (show W = 0 ∨ W = 1 ∨ W = 2 ∨ W = 3 ∨ W = 4 ∨ W = 5 ∨ W = 6 by omega) with rfl | rfl | rfl | rfl | rfl | rfl | rfl <;> rfl
  · rw [if_neg hn, if_neg hn, if_pos rfl]
    rcases (show W = 0 ∨ W = 1 ∨ W = 2 ∨ W = 3 ∨ W = 4 ∨ W = 5 ∨ W = 6 by omega) with rfl | rfl | rfl | rfl | rfl | rfl | rfl
    · rfl
    · rw [if_neg (show ¬ wV 1 = 0 by decide), if_pos (show wV 1 = 1 by decide)]
      by_cases q : tn T 0 < 5
      · rw [if_neg (fun x => (f1 _ (by omega)).mp x q), decide_eq_true (fun _ => q : 1 = 1 → tn T 0 < 5)]; rfl
      · rw [if_pos ((f1 _ (by omega)).mpr q), decide_eq_false (fun x => q (x rfl) : ¬ (1 = 1 → tn T 0 < 5))]; rfl
    · rfl
    · rw [if_neg (show ¬ wV 3 = 0 by decide), if_neg (show ¬ wV 3 = 1 by decide), if_pos (show wV 3 = 3 by decide)]
      by_cases q : tn T 1 < 6
      · rw [if_neg (fun x => (f2 _ (by omega)).mp x q), decide_eq_true (fun _ => q : 3 = 3 → tn T 1 < 6)]; rfl
      · rw [if_pos ((f2 _ (by omega)).mpr q), decide_eq_false (fun x => q (x rfl) : ¬ (3 = 3 → tn T 1 < 6))]; rfl
    · rfl
    · rfl
    · rfl
end ITC
