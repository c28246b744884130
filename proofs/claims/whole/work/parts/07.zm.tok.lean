/-! PURE: the text's tokens (the class) -/
def rnF (P : Nat → Bool) : Nat → Nat → Nat
  | 0, p => p
  | d + 1, p => if P p = true then rnF P d (p + 1) else p
def rn (P : Nat → Bool) (L p : Nat) : Nat := rnF P (L - p) p
theorem rnF_is {P : Nat → Bool} : ∀ d p, p ≤ rnF P d p ∧ rnF P d p ≤ p + d ∧ (∀ k, p ≤ k → k < rnF P d p → P k = true) ∧ (rnF P d p = p + d ∨ P (rnF P d p) = false) := by
  intro d
  induction d with
  | zero => intro p; exact ⟨Nat.le_refl _, Nat.le_refl _, fun k h1 h2 => by have : rnF P 0 p = p := rfl; omega, Or.inl rfl⟩
  | succ d ih =>
    intro p
    obtain ⟨h1, h2, h3, h4⟩ := ih (p + 1)
    unfold rnF
    cases hp : P p with
    | false => rw [if_neg (by decide)]; exact ⟨Nat.le_refl _, by omega, fun k q1 q2 => by omega, Or.inr hp⟩
    | true =>
      rw [if_pos rfl]
      refine ⟨by omega, by omega, fun k q1 q2 => ?_, ?_⟩
      · by_cases e : k = p
        · rw [e]; exact hp
        · exact h3 k (by omega) q2
      · rcases h4 with h4 | h4
        · exact Or.inl (by omega)
        · exact Or.inr h4
theorem rn_is {P : Nat → Bool} {L p : Nat} (hp : p ≤ L) : p ≤ rn P L p ∧ rn P L p ≤ L ∧ (∀ k, p ≤ k → k < rn P L p → P k = true) ∧ (rn P L p = L ∨ P (rn P L p) = false) := by
  obtain ⟨h1, h2, h3, h4⟩ := rnF_is (P := P) (L - p) p
  refine ⟨h1, by unfold rn; omega, h3, ?_⟩
  rcases h4 with h4 | h4
  · exact Or.inl (by unfold rn; omega)
  · exact Or.inr h4
theorem rn_gt {P : Nat → Bool} {L p : Nat} (hp : p < L) (h : P p = true) : p < rn P L p := by
  obtain ⟨h1, h2, h3, h4⟩ := rn_is (P := P) (L := L) (p := p) (by omega)
  rcases h4 with h4 | h4
  · omega
  · have : rn P L p ≠ p := fun e => by rw [e, h] at h4; exact absurd h4 (by decide)
    omega
def isB32 (b : Nat → Nat) (k : Nat) : Bool := decide (b k = 32)
def isLt (b : Nat → Nat) (k : Nat) : Bool := decide (97 ≤ b k) && decide (b k ≤ 122)
def isFg (b : Nat → Nat) (k : Nat) : Bool := decide (48 ≤ b k) && decide (b k ≤ 57)
/-- where the token begins; where it ends; its sort; its number -/
def tbg (b : Nat → Nat) (L p : Nat) : Nat := rn (isB32 b) L p
def en (b : Nat → Nat) (L q : Nat) : Nat := if q = L then q else if isLt b q = true then rn (isLt b) L q else if isFg b q = true then rn (isFg b) L q else q + 1
def srt (b : Nat → Nat) (L q : Nat) : Nat := if q = L then 0 else if isLt b q = true then 1 else if isFg b q = true then (if rn (isFg b) L q - q ≤ 2 then 2 else 4) else if b q = 59 then 3 else 4
def va (b : Nat → Nat) (L q : Nat) : Nat := if rn (isFg b) L q - q = 1 then b q - 48 else 10 * (b q - 48) + (b (q + 1) - 48)
/-- the six words -/
def WB : List (List Nat) := [[108, 97, 110, 100], [115, 104, 111, 119], [111, 102, 102], [119, 97, 116, 99, 104, 101, 114], [100, 111], [114, 101, 115, 116]]
def wl (w : Nat) : Nat := (WB.getD w []).length
def wc (w i : Nat) : Nat := (WB.getD w []).getD i 0
def eqP (f : Nat → Nat) (b : Nat → Nat) (q : Nat) : Nat → Bool
  | 0 => true
  | i + 1 => eqP f b q i && decide (b (q + i) = f i)
def isW (b : Nat → Nat) (L w q : Nat) : Bool := decide (rn (isLt b) L q - q = wl w) && eqP (wc w) b q (wl w)
def wNo (b : Nat → Nat) (L q : Nat) : Nat := if isW b L 0 q = true then 0 else if isW b L 1 q = true then 1 else if isW b L 2 q = true then 2 else if isW b L 3 q = true then 3 else if isW b L 4 q = true then 4 else if isW b L 5 q = true then 5 else 6
def wV (w : Nat) : Int32 := if w = 6 then -1 else nI w
def TX (b : Nat → Nat) (L : Nat) (h : AH) : Prop := hI h 94 3 = nI L ∧ (∀ k, k < L → hI h 95 k = nI (b k)) ∧ L ≤ 150 ∧ ∀ k, k < L → b k < 128
def EqA (h h' : AH) : Prop := (∀ a k, ¬ (a = 94 ∧ 4 ≤ k ∧ k ≤ 7) → hI h' a k = hI h a k) ∧ (∀ a k, hJ h' a k = hJ h a k) ∧ ∀ a k, hQ h' a k = hQ h a k
theorem EqA.rf {h : AH} : EqA h h := ⟨fun _ _ _ => rfl, fun _ _ => rfl, fun _ _ => rfl⟩
theorem EqA.tr {h h' h'' : AH} (a : EqA h h') (b : EqA h' h'') : EqA h h'' := ⟨fun c d q => (b.1 c d q).trans (a.1 c d q), fun c d => (b.2.1 c d).trans (a.2.1 c d), fun c d => (b.2.2 c d).trans (a.2.2 c d)⟩
theorem EqA.sI {h : AH} {k : Nat} {v : Int32} (h1 : 4 ≤ k) (h2 : k ≤ 7) : EqA h (sI h 94 k v) := ⟨fun a b q => sI_n (by omega), fun _ _ => rfl, fun _ _ => rfl⟩
theorem TX.eqa {b : Nat → Nat} {L : Nat} {h h' : AH} (a : TX b L h) (e : EqA h h') : TX b L h' := ⟨(e.1 _ _ (by omega)).trans a.1, fun k hk => (e.1 _ _ (by omega)).trans (a.2.1 k hk), a.2.2⟩
section TOK
variable {b : Nat → Nat} {L : Nat} {h : AH}
theorem c_byteAt (ht : TX b L h) {k : Nat} (hk : k < 1000) : fX5_byteAt 94 (nI k) h = some (if k < L then nI (b k) else -1) := by
  obtain ⟨t1, t2, t3, t4⟩ := ht
  have n150 : Int32.ofNat 150 = nI 150 := rfl
  unfold fX5_byteAt
  rw [t1, z940, z95s, n150, if_neg (by rw [p0, p_lt (by omega) (by omega)]; omega)]
  by_cases e : k < L
  · rw [if_neg (by rw [p_le (by omega) (by omega)]; omega), if_neg (by rw [p_le (by omega) (by omega)]; omega), if_pos e, inb_nI (by omega), oG_d (by omega), ix_nI (by omega), t2 k e]
  · rw [if_pos (by rw [p_le (by omega) (by omega)]; omega), if_neg e]
theorem c_letterAt (ht : TX b L h) {k : Nat} (hk : k < L) : fX5_isLetterAt 94 (nI k) h = some (bI (isLt b k)) := by
  have t4 := ht.2.2.2 k hk
  have t3 := ht.2.2.1
  have e97 : (97 : Int32) = nI 97 := by decide
  have e122 : (122 : Int32) = nI 122 := by decide
  unfold fX5_isLetterAt isLt
  rw [c_byteAt ht (by omega), if_pos hk, ob_s, ob_s, e97, e122]
  by_cases h1 : 97 ≤ b k
  · rw [if_neg (by rw [p_lt (by omega) (by omega)]; omega), decide_eq_true h1]
    by_cases h2 : b k ≤ 122
    · rw [if_neg (by rw [p_lt (by omega) (by omega)]; omega), decide_eq_true h2]; rfl
    · rw [if_pos (by rw [p_lt (by omega) (by omega)]; omega), decide_eq_false h2]; rfl
  · rw [if_pos (by rw [p_lt (by omega) (by omega)]; omega), decide_eq_false h1]; rfl
theorem c_figureAt (ht : TX b L h) {k : Nat} (hk : k < L) : fX5_isFigureAt 94 (nI k) h = some (bI (isFg b k)) := by
  have t4 := ht.2.2.2 k hk
  have t3 := ht.2.2.1
  have e97 : (48 : Int32) = nI 48 := by decide
  have e122 : (57 : Int32) = nI 57 := by decide
  unfold fX5_isFigureAt isFg
  rw [c_byteAt ht (by omega), if_pos hk, ob_s, ob_s, e97, e122]
  by_cases h1 : 48 ≤ b k
  · rw [if_neg (by rw [p_lt (by omega) (by omega)]; omega), decide_eq_true h1]
    by_cases h2 : b k ≤ 57
    · rw [if_neg (by rw [p_lt (by omega) (by omega)]; omega), decide_eq_true h2]; rfl
    · rw [if_pos (by rw [p_lt (by omega) (by omega)]; omega), decide_eq_false h2]; rfl
  · rw [if_pos (by rw [p_lt (by omega) (by omega)]; omega), decide_eq_false h1]; rfl
theorem c_wordEnd (ht : TX b L h) {q : Nat} (hq : q ≤ L) : fX5_wordEnd 94 (nI q) h = some (nI (rn (isLt b) L q)) := by
  obtain ⟨h1, h2, h3, h4⟩ := rn_is (P := isLt b) hq
  have t3 := ht.2.2.1
  unfold fX5_wordEnd
  refine run_loop (fun n (s : Int32) => fX5_wordEnd_2 h n 94 s) (fun i => nI (q + i)) (rn (isLt b) L q - q) _ (fun n i hi => ?_) (fun n => ?_) FU (FU_lt (by omega))
  · show fX5_wordEnd_2 h (n + 1) 94 (nI (q + i)) = fX5_wordEnd_2 h n 94 (nI (q + (i + 1)))
    rw [fX5_wordEnd_2, ht.1, if_neg (by rw [p_le (by omega) (by omega)]; omega), c_letterAt ht (by omega), ob_s, h3 _ (by omega) (by omega), if_neg (by decide), oL_d, p1, nI_add, Nat.add_assoc]
  · show fX5_wordEnd_2 h (n + 1) 94 (nI (q + (rn (isLt b) L q - q))) = _
    rw [show q + (rn (isLt b) L q - q) = rn (isLt b) L q by omega, fX5_wordEnd_2, ht.1]
    by_cases e : rn (isLt b) L q = L
    · rw [if_pos (by rw [p_le (by omega) (by omega)]; omega)]
    · rw [if_neg (by rw [p_le (by omega) (by omega)]; omega), c_letterAt ht (by omega), ob_s, h4.resolve_left e, if_pos (by decide)]
theorem st_len : ∀ w, w < 6 → sLen w = nI (wl w) ∧ wl w ≤ 7 := by decide +kernel
theorem st_at : ∀ w, w < 6 → ∀ i, i < wl w → sAt w (nI i) = some (nI (wc w i)) ∧ wc w i < 128 := by decide +kernel
theorem eqP_all {f : Nat → Nat} {q : Nat} : ∀ n, (∀ i, i < n → b (q + i) = f i) → eqP f b q n = true := by
  intro n
  induction n with
  | zero => intro _; rfl
  | succ n ih => intro hh; unfold eqP; rw [ih (fun i hi => hh i (by omega)), decide_eq_true (hh n (by omega))]; rfl
theorem eqP_not {f : Nat → Nat} {q k : Nat} (hk : b (q + k) ≠ f k) : ∀ n, k < n → eqP f b q n = false := by
  intro n
  induction n with
  | zero => intro h; omega
  | succ n ih =>
    intro hh
    unfold eqP
    by_cases e : k = n
    · subst e; rw [decide_eq_false hk, Bool.and_false]
    · rw [ih (by omega), Bool.false_and]
theorem c_isWord (ht : TX b L h) {q w : Nat} (hw : w < 6) (hq : q ≤ L) (e4 : hI h 94 4 = nI (rn (isLt b) L q)) (e6 : hI h 94 6 = nI q) : fX5_isWord 94 w h = some (bI (isW b L w q)) := by
  obtain ⟨h1, h2, h3, h4⟩ := rn_is (P := isLt b) hq
  have t3 := ht.2.2.1
  obtain ⟨s1, s2⟩ := st_len w hw
  unfold fX5_isWord isW
  rw [e4, e6, s1, p_sub h1, oG_d hw]
  by_cases e : rn (isLt b) L q - q = wl w
  · rw [if_pos (by rw [e]), decide_eq_true e, Bool.true_and, p0]
    have hin : ∀ n i, i < wl w → fX5_isWord_20 h (n + 1) 94 w (nI i) = if b (q + i) = wc w i then fX5_isWord_20 h n 94 w (nI (i + 1)) else some 0 := by
      intro n i hi
      obtain ⟨s3, s4⟩ := st_at w hw i hi
      have t4 := ht.2.2.2 (q + i) (by omega)
      rw [fX5_isWord_20, oG_d hw, s1, if_neg (by rw [p_le (by omega) (by omega)]; omega), e6, nI_add, c_byteAt ht (by omega), if_pos (by omega), ob_s, s3, ob_s]
      by_cases r : b (q + i) = wc w i
      · rw [if_pos (by rw [r]), if_pos r, oL_d, p1, nI_add]
      · rw [if_neg (by rw [p_eq (by omega) (by omega)]; exact r), if_neg r]
    rcases firstOf (fun i => decide (b (q + i) ≠ wc w i)) (wl w) with hn | ⟨k, hk, hk1, hk2⟩
    · rw [eqP_all _ (fun i hi => by have := hn i hi; simpa using this)]
      refine run_loop (fun n (s : Int32) => fX5_isWord_20 h n 94 w s) (fun i => nI i) (wl w) _ (fun n i hi => ?_) (fun n => ?_) FU (FU_lt (by omega))
      · show fX5_isWord_20 h (n + 1) 94 w (nI i) = fX5_isWord_20 h n 94 w (nI (i + 1))
        rw [hin n i hi, if_pos (by have := hn i hi; simpa using this)]
      · show fX5_isWord_20 h (n + 1) 94 w (nI (wl w)) = _
        rw [fX5_isWord_20, oG_d hw, s1, if_pos (by rw [p_le (by omega) (by omega)]; exact Nat.le_refl _)]; rfl
    · rw [eqP_not (by simpa using hk1) _ hk]
      refine run_loop (fun n (s : Int32) => fX5_isWord_20 h n 94 w s) (fun i => nI i) k _ (fun n i hi => ?_) (fun n => ?_) FU (FU_lt (by omega))
      · show fX5_isWord_20 h (n + 1) 94 w (nI i) = fX5_isWord_20 h n 94 w (nI (i + 1))
        rw [hin n i (by omega), if_pos (by have := hk2 i hi; simpa using this)]
      · show fX5_isWord_20 h (n + 1) 94 w (nI k) = _
        rw [hin n k hk, if_neg (by simpa using hk1)]; rfl
  · rw [if_neg (by rw [p_eq (by omega) (by omega)]; exact e), decide_eq_false e]; rfl
theorem c_wordNumber (ht : TX b L h) {q : Nat} (hq : q ≤ L) (e4 : hI h 94 4 = nI (rn (isLt b) L q)) (e6 : hI h 94 6 = nI q) : fX5_wordNumber 94 h = some (wV (wNo b L q)) := by
  unfold fX5_wordNumber wNo
  rw [c_isWord ht (show 0 < 6 by omega) hq e4 e6, ob_s, c_isWord ht (show 1 < 6 by omega) hq e4 e6, ob_s, c_isWord ht (show 2 < 6 by omega) hq e4 e6, ob_s, c_isWord ht (show 3 < 6 by omega) hq e4 e6, ob_s, c_isWord ht (show 4 < 6 by omega) hq e4 e6, ob_s, c_isWord ht (show 5 < 6 by omega) hq e4 e6, ob_s]
  simp only [chk]
  cases isW b L 0 q <;> cases isW b L 1 q <;> cases isW b L 2 q <;> cases isW b L 3 q <;> cases isW b L 4 q <;> cases isW b L 5 q <;> rfl
def vS (b : Nat → Nat) (q : Nat) : Nat → Int32
  | 0 => 0
  | i + 1 => vS b q i * 10 + nI (b (q + i)) - 48
theorem vS_va {q : Nat} (hq : q < L) (ht4 : ∀ k, k < L → b k < 128) (hf : isFg b q = true) (hs2 : rn (isFg b) L q - q ≤ 2) : vS b q (rn (isFg b) L q - q) = nI (va b L q) := by
  obtain ⟨h1, h2, h3, h4⟩ := rn_is (P := isFg b) (show q ≤ L by omega)
  have h5 := rn_gt hq hf
  have e48 : (48 : Int32) = nI 48 := by decide
  have g : ∀ k, k < L → isFg b k = true → 48 ≤ b k ∧ b k < 128 := by
    intro k hk hh
    unfold isFg at hh
    rw [Bool.and_eq_true, decide_eq_true_eq, decide_eq_true_eq] at hh
    exact ⟨hh.1, ht4 k hk⟩
  have g0 := g q hq hf
  unfold va
  rcases (show rn (isFg b) L q - q = 1 ∨ rn (isFg b) L q - q = 2 by omega) with e | e
  · rw [e, if_pos rfl]
    show (0 : Int32) * 10 + nI (b (q + 0)) - 48 = _
    rw [p10, p0, e48, nI_mul, nI_add, Nat.zero_mul, Nat.zero_add, Nat.add_zero, p_sub (by omega)]
  · have g1 := g (q + 1) (by omega) (h3 _ (by omega) (by omega))
    rw [e, if_neg (by omega)]
    show ((0 : Int32) * 10 + nI (b (q + 0)) - 48) * 10 + nI (b (q + 1)) - 48 = _
    rw [p10, p0, e48, nI_mul, nI_add, Nat.zero_mul, Nat.zero_add, Nat.add_zero, p_sub (by omega), nI_mul, nI_add, p_sub (by omega)]
    congr 1
    omega
theorem c_takeNumber (ht : TX b L h) {q : Nat} (hq : q < L) (hf : isFg b q = true) (e4 : hI h 94 4 = nI q) (e6 : hI h 94 6 = nI q) : ∃ h1, fX5_takeNumber 94 h = some h1 ∧ hI h1 94 4 = nI (rn (isFg b) L q) ∧ hI h1 94 5 = nI (if rn (isFg b) L q - q ≤ 2 then 2 else 4) ∧ hI h1 94 6 = nI q ∧ (rn (isFg b) L q - q ≤ 2 → hI h1 94 7 = nI (va b L q)) ∧ EqA h h1 := by
  obtain ⟨h1, h2, h3, h4⟩ := rn_is (P := isFg b) (show q ≤ L by omega)
  have t3 := ht.2.2.1
  have e48 : (48 : Int32) = nI 48 := by decide
  unfold fX5_takeNumber
  rw [oL_d]
  refine run_ex (fun n (g : AH) => fX5_takeNumber_5 n 94 g) (fun i g => hI g 94 4 = nI (q + i) ∧ hI g 94 6 = nI q ∧ hI g 94 7 = vS b q i ∧ EqA h g) (rn (isFg b) L q - q) _ ?_ ?_ (sI h 94 7 0) ⟨by rw [sI_n (by omega)]; exact e4, by rw [sI_n (by omega)]; exact e6, sI_e, EqA.sI (by omega) (by omega)⟩ FU (FU_lt (by omega))
  · rintro n i g hi ⟨g4, g6, g7, gE⟩
    have htg := ht.eqa gE
    refine ⟨sI (sI g 94 7 (vS b q (i + 1))) 94 4 (nI (q + (i + 1))), ?_, sI_e, ?_, ?_, gE.tr ((EqA.sI (by omega) (by omega)).tr (EqA.sI (by omega) (by omega)))⟩
    · show fX5_takeNumber_5 (n + 1) 94 g = fX5_takeNumber_5 n 94 _
      have e1 : ∀ v, hI (sI g 94 7 v) 94 4 = nI (q + i) := fun v => (sI_n (by omega)).trans g4
      rw [fX5_takeNumber_5, htg.1, g4, if_neg (by rw [p_le (by omega) (by omega)]; omega), c_figureAt htg (by omega), ob_s, h3 _ (by omega) (by omega), if_neg (by decide), c_byteAt htg (by omega), if_pos (by omega), ob_s, oL_d, oL_d, e1, g7, p1, nI_add]
      rfl
    · rw [sI_n (by omega), sI_n (by omega)]; exact g6
    · rw [sI_n (by omega), sI_e]
  · rintro n g ⟨g4, g6, g7, gE⟩
    rw [show q + (rn (isFg b) L q - q) = rn (isFg b) L q by omega] at g4
    have htg := ht.eqa gE
    refine ⟨sI g 94 5 (nI (if rn (isFg b) L q - q ≤ 2 then 2 else 4)), ?_, ?_, sI_e, ?_, fun hr => ?_, gE.tr (EqA.sI (by omega) (by omega))⟩
    · have e63 : fX5_takeNumber_63 94 g = some (sI g 94 5 (nI (if rn (isFg b) L q - q ≤ 2 then 2 else 4))) := by
        unfold fX5_takeNumber_63 fX5_takeNumber_82
        rw [g4, g6, p_sub h1, p2]
        by_cases e : rn (isFg b) L q - q ≤ 2
        · rw [if_neg (by rw [p_lt (by omega) (by omega)]; omega), if_pos e]; rfl
        · rw [if_pos (by rw [p_lt (by omega) (by omega)]; omega), if_neg e]; rfl
      show fX5_takeNumber_5 (n + 1) 94 g = _
      rw [fX5_takeNumber_5, htg.1, g4, e63]
      by_cases e : rn (isFg b) L q = L
      · rw [if_pos (by rw [p_le (by omega) (by omega)]; omega)]
      · rw [if_neg (by rw [p_le (by omega) (by omega)]; omega), c_figureAt htg (by omega), ob_s, h4.resolve_left e, if_pos (by decide)]
    · rw [sI_n (by omega)]; exact g4
    · rw [sI_n (by omega)]; exact g6
    · rw [sI_n (by omega), g7]; exact vS_va hq ht.2.2.2 hf hr
/-- a token on -/
theorem c_advance (ht : TX b L h) {p : Nat} (hp : p ≤ L) (e4 : hI h 94 4 = nI p) : ∃ h1, fX5_advance 94 h = some h1 ∧ hI h1 94 4 = nI (en b L (tbg b L p)) ∧ hI h1 94 5 = nI (srt b L (tbg b L p)) ∧ hI h1 94 6 = nI (tbg b L p) ∧ (srt b L (tbg b L p) = 1 → hI h1 94 7 = wV (wNo b L (tbg b L p))) ∧ (srt b L (tbg b L p) = 2 → hI h1 94 7 = nI (va b L (tbg b L p))) ∧ EqA h h1 := by
  obtain ⟨h1, h2, h3, h4⟩ := rn_is (P := isB32 b) hp
  have t3 := ht.2.2.1
  have e32 : (32 : Int32) = nI 32 := by decide
  unfold fX5_advance
  refine run_ex (fun n (g : AH) => fX5_advance_0 n 94 g) (fun i g => hI g 94 4 = nI (p + i) ∧ EqA h g) (tbg b L p - p) _ ?_ ?_ h ⟨e4, EqA.rf⟩ FU (FU_lt (by unfold tbg; omega))
  · rintro n i g hi ⟨g4, gE⟩
    have hi' : i < rn (isB32 b) L p - p := hi
    have htg := ht.eqa gE
    have hb := h3 (p + i) (by omega) (by omega)
    have hb2 : b (p + i) = 32 := of_decide_eq_true hb
    refine ⟨sI g 94 4 (nI (p + (i + 1))), ?_, sI_e, gE.tr (EqA.sI (by omega) (by omega))⟩
    show fX5_advance_0 (n + 1) 94 g = fX5_advance_0 n 94 _
    rw [fX5_advance_0, htg.1, g4, if_neg (by rw [p_le (by omega) (by omega)]; omega), c_byteAt htg (by omega), if_pos (by omega), ob_s, hb2, if_pos (by decide), oL_d, p1, nI_add, Nat.add_assoc]
  · rintro n g ⟨g4, gE⟩
    have hbe : tbg b L p = rn (isB32 b) L p := rfl
    generalize hq : tbg b L p = q at *
    rw [show p + (q - p) = q by omega] at g4
    have htg := ht.eqa gE
    have e37 : ∃ h1, fX5_advance_37 94 g = some h1 ∧ hI h1 94 4 = nI (en b L q) ∧ hI h1 94 5 = nI (srt b L q) ∧ hI h1 94 6 = nI q ∧ (srt b L q = 1 → hI h1 94 7 = wV (wNo b L q)) ∧ (srt b L q = 2 → hI h1 94 7 = nI (va b L q)) ∧ EqA g h1 := by
      have k4 : ∀ v, hI (sI g 94 6 v) 94 4 = nI q := fun v => (sI_n (by omega)).trans g4
      have kE : EqA g (sI g 94 6 (nI q)) := EqA.sI (by omega) (by omega)
      have htk := htg.eqa kE
      have f0 : bI false = 0 := by decide
      have f1 : ¬ bI true = 0 := by decide
      unfold fX5_advance_37
      rw [oL_d, g4, k4, htk.1]
      by_cases eL : q = L
      · rw [if_neg (by rw [p_lt (by omega) (by omega)]; omega)]
        have s0 : srt b L q = 0 := if_pos eL
        refine ⟨_, rfl, ?_, ?_, ?_, fun r => by omega, fun r => by omega, kE.tr (EqA.sI (by omega) (by omega))⟩
        · rw [sI_n (by omega), k4]; unfold en; rw [if_pos eL]
        · rw [sI_e, s0]; rfl
        · rw [sI_n (by omega), sI_e]
      · have hql : q < L := by omega
        rw [if_pos (by rw [p_lt (by omega) (by omega)]; omega), c_letterAt htk hql, ob_s]
        cases hl : isLt b q with
        | true =>
          rw [if_neg f1]
          have s1 : srt b L q = 1 := by unfold srt; rw [if_neg eL, if_pos hl]
          have en1 : en b L q = rn (isLt b) L q := by unfold en; rw [if_neg eL, if_pos hl]
          have k5 : EqA g (sI (sI g 94 6 (nI q)) 94 5 1) := kE.tr (EqA.sI (by omega) (by omega))
          have hwe := c_wordEnd (htg.eqa k5) (show q ≤ L by omega)
          have k44 : hI (sI (sI g 94 6 (nI q)) 94 5 1) 94 4 = nI q := by rw [sI_n (by omega), k4]
          have k6 : EqA g (sI (sI (sI g 94 6 (nI q)) 94 5 1) 94 4 (nI (rn (isLt b) L q))) := k5.tr (EqA.sI (by omega) (by omega))
          have hwn := c_wordNumber (htg.eqa k6) (show q ≤ L by omega) sI_e (by rw [sI_n (by omega), sI_n (by omega), sI_e])
          rw [oL_d, k44, hwe, ob_s, oL_d, hwn, ob_s, oL_d]
          refine ⟨_, rfl, ?_, ?_, ?_, fun r => sI_e, fun r => by omega, k6.tr (EqA.sI (by omega) (by omega))⟩
          · rw [sI_n (by omega), sI_e, en1]
          · rw [sI_n (by omega), sI_n (by omega), sI_e, s1]; rfl
          · rw [sI_n (by omega), sI_n (by omega), sI_n (by omega), sI_e]
        | false =>
          rw [if_pos f0, c_figureAt htk hql, ob_s]
          cases hf : isFg b q with
          | true =>
            rw [if_neg f1]
            have s1 : srt b L q = if rn (isFg b) L q - q ≤ 2 then 2 else 4 := by unfold srt; rw [if_neg eL, if_neg (by rw [hl]; decide), if_pos hf]
            have en1 : en b L q = rn (isFg b) L q := by unfold en; rw [if_neg eL, if_neg (by rw [hl]; decide), if_pos hf]
            obtain ⟨g1, r1, r2, r3, r4, r5, r6⟩ := c_takeNumber htk hql hf (k4 _) sI_e
            rw [r1, ob_s, en1, s1]
            refine ⟨g1, rfl, r2, r3, r4, fun r => ?_, fun r => ?_, kE.tr r6⟩
            · split at r <;> omega
            · by_cases e2 : rn (isFg b) L q - q ≤ 2
              · exact r5 e2
              · rw [if_neg e2] at r; omega
          | false =>
            have en1 : en b L q = q + 1 := by unfold en; rw [if_neg eL, if_neg (by rw [hl]; decide), if_neg (by rw [hf]; decide)]
            have s1 : srt b L q = if b q = 59 then 3 else 4 := by unfold srt; rw [if_neg eL, if_neg (by rw [hl]; decide), if_neg (by rw [hf]; decide)]
            have e59 : (59 : Int32) = nI 59 := by decide
            have t4 := ht.2.2.2 q hql
            have k44 : ∀ v, hI (sI (sI g 94 6 (nI q)) 94 5 v) 94 4 = nI q := fun v => by rw [sI_n (by omega), k4]
            rw [if_pos f0, c_byteAt htk (by omega), if_pos hql, ob_s, e59, en1, s1]
            unfold fX5_advance_140
            by_cases e59' : b q = 59
            · rw [if_pos (by rw [e59']), if_pos e59', oL_d, oL_d, k44, p1, nI_add]
              exact ⟨_, rfl, sI_e, by rw [sI_n (by omega), sI_e]; rfl, by rw [sI_n (by omega), sI_n (by omega), sI_e], fun r => by omega, fun r => by omega, kE.tr ((EqA.sI (by omega) (by omega)).tr (EqA.sI (by omega) (by omega)))⟩
            · rw [if_neg (by rw [p_eq (by omega) (by omega)]; exact e59'), if_neg e59', oL_d, oL_d, k44, p1, nI_add]
              exact ⟨_, rfl, sI_e, by rw [sI_n (by omega), sI_e]; rfl, by rw [sI_n (by omega), sI_n (by omega), sI_e], fun r => by omega, fun r => by omega, kE.tr ((EqA.sI (by omega) (by omega)).tr (EqA.sI (by omega) (by omega)))⟩
    obtain ⟨g1, r1, r2, r3, r4, r5, r6, r7⟩ := e37
    refine ⟨g1, ?_, r2, r3, r4, r5, r6, gE.tr r7⟩
    show fX5_advance_0 (n + 1) 94 g = _
    rw [fX5_advance_0, htg.1, g4, r1]
    by_cases eL : q = L
    · rw [if_pos (by rw [p_le (by omega) (by omega)]; omega)]
    · have hnb : b q ≠ 32 := by
        intro r
        rcases h4 with h5 | h5
        · omega
        · rw [← hbe] at h5
          exact absurd (show isB32 b q = true from decide_eq_true r) (by rw [h5]; decide)
      have t4 := ht.2.2.2 q (by omega)
      rw [if_neg (by rw [p_le (by omega) (by omega)]; omega), c_byteAt htg (by omega), if_pos (by omega), ob_s, e32, if_neg (by rw [p_eq (by omega) (by omega)]; exact hnb)]
end TOK
