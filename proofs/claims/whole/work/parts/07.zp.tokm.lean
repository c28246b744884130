/-! PURE: the text's tokens (the reference) -/
def TM (b : Nat → Nat) (L : Nat) (h : AH) : Prop := hI h 262 12 = nI L ∧ (∀ k, k < L → hI h 272 k = nI (b k)) ∧ L ≤ 150 ∧ ∀ k, k < L → b k < 128
def EqR (h h' : AH) : Prop := (∀ a k, ¬ ((a = 262 ∧ 13 ≤ k ∧ k ≤ 16) ∨ a = 273 ∨ a = 274) → hI h' a k = hI h a k) ∧ (∀ a k, hJ h' a k = hJ h a k) ∧ ∀ a k, hQ h' a k = hQ h a k
theorem EqR.rf {h : AH} : EqR h h := ⟨fun _ _ _ => rfl, fun _ _ => rfl, fun _ _ => rfl⟩
theorem EqR.tr {h h' h'' : AH} (a : EqR h h') (b : EqR h' h'') : EqR h h'' := ⟨fun c d q => (b.1 c d q).trans (a.1 c d q), fun c d => (b.2.1 c d).trans (a.2.1 c d), fun c d => (b.2.2 c d).trans (a.2.2 c d)⟩
theorem EqR.sI {h : AH} {o k : Nat} {v : Int32} (h1 : (o = 262 ∧ 13 ≤ k ∧ k ≤ 16) ∨ o = 273 ∨ o = 274) : EqR h (sI h o k v) := ⟨fun a b q => sI_n (by omega), fun _ _ => rfl, fun _ _ => rfl⟩
/-- the token's fields alone -/
def EqT (h h' : AH) : Prop := (∀ a k, ¬ (a = 262 ∧ 13 ≤ k ∧ k ≤ 16) → hI h' a k = hI h a k) ∧ (∀ a k, hJ h' a k = hJ h a k) ∧ ∀ a k, hQ h' a k = hQ h a k
theorem EqT.rf {h : AH} : EqT h h := ⟨fun _ _ _ => rfl, fun _ _ => rfl, fun _ _ => rfl⟩
theorem EqT.tr {h h' h'' : AH} (a : EqT h h') (b : EqT h' h'') : EqT h h'' := ⟨fun c d q => (b.1 c d q).trans (a.1 c d q), fun c d => (b.2.1 c d).trans (a.2.1 c d), fun c d => (b.2.2 c d).trans (a.2.2 c d)⟩
theorem EqT.sI {h : AH} {k : Nat} {v : Int32} (h1 : 13 ≤ k) (h2 : k ≤ 16) : EqT h (sI h 262 k v) := ⟨fun a b q => sI_n (by omega), fun _ _ => rfl, fun _ _ => rfl⟩
theorem EqT.eqr {h h' : AH} (a : EqT h h') : EqR h h' := ⟨fun c d q => a.1 c d (by omega), a.2.1, a.2.2⟩
theorem TM.eqr {b : Nat → Nat} {L : Nat} {h h' : AH} (a : TM b L h) (e : EqR h h') : TM b L h' := ⟨(e.1 _ _ (by omega)).trans a.1, fun k hk => (e.1 _ _ (by omega)).trans (a.2.1 k hk), a.2.2⟩
def TK (b : Nat → Nat) (L q : Nat) (h : AH) : Prop := hI h 262 13 = nI q ∧ hI h 262 14 = nI (en b L q - q) ∧ hI h 262 15 = nI (srt b L q) ∧ (srt b L q = 2 → hI h 262 16 = nI (va b L q))
section TKM
variable {b : Nat → Nat} {L : Nat} {h : AH}
theorem m_small {k : Nat} (hk : b k < 128) : fX9_isSmall (nI (b k)) = some (bI (isLt b k)) := by
  unfold fX9_isSmall isLt
  rw [show fX9_in (nI (b k)).toInt64 (97 : Int64) (122 : Int64) = some (bI (wi (nI (b k)) (nI 97) (nI 122))) from m_in (lo := 97) (hi := 122), ob_s, oG_of (bI_B _), wi_n (by omega) (by omega) (by omega)]
theorem m_fig {k : Nat} (hk : b k < 128) : fX9_isFigure (nI (b k)) = some (bI (isFg b k)) := by
  unfold fX9_isFigure isFg
  rw [show fX9_in (nI (b k)).toInt64 (48 : Int64) (57 : Int64) = some (bI (wi (nI (b k)) (nI 48) (nI 57))) from m_in (lo := 48) (hi := 57), ob_s, oG_of (bI_B _), wi_n (by omega) (by omega) (by omega)]
/-- a run of letters, of figures -/
theorem m_run {P : Nat → Bool} {t q : Nat} (ht : TM b L h) (hq : q < L) (hP : P q = true) (e13 : hI h 262 13 = nI q) (e14 : hI h 262 14 = nI 1) (e15 : hI h 262 15 = nI t) (hstep : ∀ k, k < L → ∀ n g, hI g 262 15 = nI t → (if (hI g 262 15) = (1 : Int32) then ob (fX9_isSmall (nI (b k))) fun v20 => fX9_lookAt_193 (fX9_lookAt_136 n) 262 v20 g else ob (fX9_isFigure (nI (b k))) fun v17 => fX9_lookAt_193 (fX9_lookAt_136 n) 262 v17 g) = fX9_lookAt_193 (fX9_lookAt_136 n) 262 (bI (P k)) g) : ∃ g, fX9_lookAt_136 FU 262 1 h = fX9_lookAt_215 262 g ∧ hI g 262 13 = nI q ∧ hI g 262 14 = nI (rn P L q - q) ∧ hI g 262 15 = nI t ∧ hI g 262 16 = hI h 262 16 ∧ EqT h g := by
  obtain ⟨r1, r2, r3, r4⟩ := rn_is (P := P) (show q ≤ L by omega)
  have r5 := rn_gt hq hP
  have t3 := ht.2.2.1
  have f1 : ¬ (1 : Int32) = 0 := by decide
  have body : ∀ n i g, q + i < L → hI g 262 13 = nI q → hI g 262 14 = nI i → hI g 262 15 = nI t → EqT h g → fX9_lookAt_136 (n + 1) 262 1 g = fX9_lookAt_193 (fX9_lookAt_136 n) 262 (bI (P (q + i))) g := by
    intro n i g hi g13 g14 g15 gE
    have htg := ht.eqr gE.eqr
    rw [fX9_lookAt_136, if_neg f1, htg.1, g13, g14, nI_add, if_neg (by rw [p_le (by omega) (by omega)]; omega), q211, q211s, inb_nI (by omega), oG_d (by omega), oL_d, ix_nI (by omega), htg.2.1 _ hi]
    exact hstep (q + i) hi n g g15
  have go : ∀ n i g, hI g 262 14 = nI i → fX9_lookAt_193 (fX9_lookAt_136 n) 262 (bI true) g = fX9_lookAt_136 n 262 1 (sI g 262 14 (nI (i + 1))) := by
    intro n i g g14
    unfold fX9_lookAt_193 fX9_lookAt_208
    rw [if_neg (by decide), oL_d, g14, p1, nI_add]
    rfl
  have stop : ∀ n i g, hI g 262 14 = nI i → fX9_lookAt_193 (fX9_lookAt_136 n) 262 (bI false) g = fX9_lookAt_136 n 262 0 (sI g 262 14 (nI i)) := by
    intro n i g g14
    unfold fX9_lookAt_193 fX9_lookAt_208
    rw [if_pos (by decide), oL_d, g14, p0, nI_add, Nat.add_zero]
    rfl
  by_cases eL : rn P L q = L
  · refine run_rel (fun n (s : AH) => fX9_lookAt_136 n 262 1 s) (fun i s => hI s 262 13 = nI q ∧ hI s 262 14 = nI (i + 1) ∧ hI s 262 15 = nI t ∧ hI s 262 16 = hI h 262 16 ∧ EqT h s) (rn P L q - q - 1) (fun r => ∃ g, r = fX9_lookAt_215 262 g ∧ hI g 262 13 = nI q ∧ hI g 262 14 = nI (rn P L q - q) ∧ hI g 262 15 = nI t ∧ hI g 262 16 = hI h 262 16 ∧ EqT h g) ?_ ?_ h ⟨e13, e14, e15, rfl, EqT.rf⟩ FU (FU_lt (by omega))
    · rintro n i g hi ⟨g13, g14, g15, g16, gE⟩
      refine ⟨sI g 262 14 (nI (i + 1 + 1)), ?_, by rw [sI_n (by omega)]; exact g13, sI_e, by rw [sI_n (by omega)]; exact g15, by rw [sI_n (by omega)]; exact g16, gE.tr (EqT.sI (by omega) (by omega))⟩
      show fX9_lookAt_136 (n + 1) 262 1 g = fX9_lookAt_136 n 262 1 _
      rw [body n (i + 1) g (by omega) g13 g14 g15 gE, r3 _ (by omega) (by omega), go n _ g g14]
    · rintro n g ⟨g13, g14, g15, g16, gE⟩
      rw [show rn P L q - q - 1 + 1 = rn P L q - q by omega] at g14
      refine ⟨g, ?_, g13, g14, g15, g16, gE⟩
      show fX9_lookAt_136 (n + 1) 262 1 g = _
      have htg := ht.eqr gE.eqr
      rw [fX9_lookAt_136, if_neg f1, htg.1, g13, g14, nI_add, if_pos (by rw [p_le (by omega) (by omega)]; omega)]
  · have hPf := r4.resolve_left eL
    refine run_rel (fun n (s : Int32 × AH) => fX9_lookAt_136 n 262 s.1 s.2) (fun i s => s.1 = (if i < rn P L q - q then 1 else 0) ∧ hI s.2 262 13 = nI q ∧ hI s.2 262 14 = nI (if i < rn P L q - q then i + 1 else i) ∧ hI s.2 262 15 = nI t ∧ hI s.2 262 16 = hI h 262 16 ∧ EqT h s.2) (rn P L q - q) (fun r => ∃ g, r = fX9_lookAt_215 262 g ∧ hI g 262 13 = nI q ∧ hI g 262 14 = nI (rn P L q - q) ∧ hI g 262 15 = nI t ∧ hI g 262 16 = hI h 262 16 ∧ EqT h g) ?_ ?_ (1, h) ⟨by rw [if_pos (by omega)], e13, by rw [if_pos (by omega)]; exact e14, e15, rfl, EqT.rf⟩ FU (FU_lt (by omega))
    · rintro n i ⟨s1, g⟩ hi ⟨i1, g13, g14, g15, g16, gE⟩
      simp only at i1 g13 g14 g15 g16 gE
      rw [if_pos hi] at i1 g14
      subst i1
      by_cases e : i + 1 < rn P L q - q
      · refine ⟨(1, sI g 262 14 (nI (i + 1 + 1))), ?_, by rw [if_pos e], by rw [sI_n (by omega)]; exact g13, by rw [sI_e, if_pos e], by rw [sI_n (by omega)]; exact g15, by rw [sI_n (by omega)]; exact g16, gE.tr (EqT.sI (by omega) (by omega))⟩
        show fX9_lookAt_136 (n + 1) 262 1 g = fX9_lookAt_136 n 262 1 _
        rw [body n (i + 1) g (by omega) g13 g14 g15 gE, r3 _ (by omega) (by omega), go n _ g g14]
      · refine ⟨(0, sI g 262 14 (nI (i + 1))), ?_, by rw [if_neg e], by rw [sI_n (by omega)]; exact g13, by rw [sI_e, if_neg e], by rw [sI_n (by omega)]; exact g15, by rw [sI_n (by omega)]; exact g16, gE.tr (EqT.sI (by omega) (by omega))⟩
        show fX9_lookAt_136 (n + 1) 262 1 g = fX9_lookAt_136 n 262 0 _
        rw [body n (i + 1) g (by omega) g13 g14 g15 gE, show q + (i + 1) = rn P L q by omega, hPf, stop n _ g g14]
    · rintro n ⟨s1, g⟩ ⟨i1, g13, g14, g15, g16, gE⟩
      simp only at i1 g13 g14 g15 g16 gE
      rw [if_neg (Nat.lt_irrefl _)] at i1 g14
      subst i1
      refine ⟨g, ?_, g13, g14, g15, g16, gE⟩
      show fX9_lookAt_136 (n + 1) 262 0 g = _
      rw [fX9_lookAt_136, if_pos rfl]
/-- the end of a token -/
theorem m_la274 {g : AH} {t r : Nat} (g14 : hI g 262 14 = nI r) (g15 : hI g 262 15 = nI t) (ht : t < 5) (hr : r < 1000) : fX9_lookAt_274 262 g = some (sI g 262 15 (nI (if t = 2 ∧ 2 < r then 4 else t))) := by
  unfold fX9_lookAt_274 fX9_lookAt_295 fX9_lookAt_299
  rw [g14, g15]
  by_cases e : t = 2
  · rw [if_pos (by rw [e]; decide)]
    by_cases e2 : 2 < r
    · rw [if_neg (by rw [p2, p_le (by omega) (by omega)]; omega), if_pos ⟨e, e2⟩]; rfl
    · rw [if_pos (by rw [p2, p_le (by omega) (by omega)]; omega), if_neg (fun q => e2 q.2)]; rfl
  · rw [if_neg (by rw [p2, p_eq (by omega) (by omega)]; exact e), if_neg (fun q => e q.1)]; rfl
theorem m_la215 {g : AH} {t r q : Nat} (htm : TM b L g) (g13 : hI g 262 13 = nI q) (g14 : hI g 262 14 = nI r) (g15 : hI g 262 15 = nI t) (ht : t < 5) (h2 : t ≠ 2) (hr : 0 < r) (hr2 : r < 1000) : fX9_lookAt_215 262 g = some (sI g 262 15 (nI t)) := by
  unfold fX9_lookAt_215
  rw [p0]
  refine run_loop (fun n (s : Int32) => fX9_lookAt_218 n 262 s g) (fun i => nI i) 0 _ (fun n i hi => by omega) (fun n => ?_) FU (FU_lt (by omega))
  show fX9_lookAt_218 (n + 1) 262 (nI 0) g = _
  rw [fX9_lookAt_218, g14, g15, if_neg (by rw [p_le (by omega) (by omega)]; omega), if_neg (by decide), if_neg (by rw [p2, p_eq (by omega) (by omega)]; exact h2), m_la274 g14 g15 ht hr2, if_neg (fun q => h2 q.1)]
theorem m_la215n {g : AH} {q : Nat} (htm : TM b L g) (hq : q < L) (hf : isFg b q = true) (g13 : hI g 262 13 = nI q) (g14 : hI g 262 14 = nI (rn (isFg b) L q - q)) (g15 : hI g 262 15 = nI 2) (g16 : hI g 262 16 = nI 0) : ∃ g1, fX9_lookAt_215 262 g = some g1 ∧ hI g1 262 13 = nI q ∧ hI g1 262 14 = nI (rn (isFg b) L q - q) ∧ hI g1 262 15 = nI (if rn (isFg b) L q - q ≤ 2 then 2 else 4) ∧ hI g1 262 16 = nI (va b L q) ∧ EqT g g1 := by
  obtain ⟨r1, r2, r3, r4⟩ := rn_is (P := isFg b) (show q ≤ L by omega)
  have r5 := rn_gt hq hf
  have t3 := htm.2.2.1
  have e48 : (48 : Int32) = nI 48 := by decide
  have dg : ∀ k, q ≤ k → k < rn (isFg b) L q → 48 ≤ b k ∧ b k < 128 := by
    intro k h1 h2
    have := r3 k h1 h2
    unfold isFg at this
    rw [Bool.and_eq_true, decide_eq_true_eq, decide_eq_true_eq] at this
    exact ⟨this.1, htm.2.2.2 k (by omega)⟩
  obtain ⟨N, hN⟩ : ∃ N : Nat, N = min (rn (isFg b) L q - q) 2 := ⟨_, rfl⟩
  have hva : (if N = 0 then 0 else if N = 1 then b q - 48 else 10 * (b q - 48) + (b (q + 1) - 48)) = va b L q := by
    unfold va
    by_cases e : rn (isFg b) L q - q = 1
    · rw [if_pos e, if_neg (by omega), if_pos (by omega)]
    · rw [if_neg e, if_neg (by omega), if_neg (by omega)]
  unfold fX9_lookAt_215
  rw [p0]
  refine run_ex (fun n (s : Int32 × AH) => fX9_lookAt_218 n 262 s.1 s.2) (fun i s => s.1 = nI i ∧ hI s.2 262 13 = nI q ∧ hI s.2 262 14 = nI (rn (isFg b) L q - q) ∧ hI s.2 262 15 = nI 2 ∧ hI s.2 262 16 = nI (if i = 0 then 0 else if i = 1 then b q - 48 else 10 * (b q - 48) + (b (q + 1) - 48)) ∧ EqT g s.2) N _ ?_ ?_ (nI 0, g) ⟨rfl, g13, g14, g15, g16, EqT.rf⟩ FU (FU_lt (by omega))
  · rintro n i ⟨s1, x⟩ hi ⟨i1, x13, x14, x15, x16, xE⟩
    simp only at i1 x13 x14 x15 x16 xE
    subst i1
    have htx := htm.eqr xE.eqr
    have hd := dg (q + i) (by omega) (by omega)
    refine ⟨(nI (i + 1), sI x 262 16 (nI (if i + 1 = 0 then 0 else if i + 1 = 1 then b q - 48 else 10 * (b q - 48) + (b (q + 1) - 48)))), ?_, rfl, by rw [sI_n (by omega)]; exact x13, by rw [sI_n (by omega)]; exact x14, by rw [sI_n (by omega)]; exact x15, sI_e, xE.tr (EqT.sI (by omega) (by omega))⟩
    show fX9_lookAt_218 (n + 1) 262 (nI i) x = fX9_lookAt_218 n 262 (nI (i + 1)) _
    rw [fX9_lookAt_218, x14, x15, x13, x16, if_neg (by rw [p_le (by omega) (by omega)]; omega), if_neg (by rw [p2, p_le (by omega) (by omega)]; omega), if_pos (by decide), nI_add, q211, q211s, inb_nI (by omega), oG_d (by omega), oL_d, oL_d, ix_nI (by omega), htx.2.1 _ (by omega), p10, e48, p1, nI_mul, nI_add, nI_add, p_sub (by omega)]
    congr 2
    rcases (show i = 0 ∨ i = 1 by omega) with rfl | rfl
    · rw [if_pos rfl, if_neg (by omega), if_pos rfl]
      congr 1
      simp
    · have hd0 := dg q (by omega) (by omega)
      rw [if_neg (by omega), if_pos rfl, if_neg (by omega), if_neg (by omega)]
      congr 1
      omega
  · rintro n ⟨s1, x⟩ ⟨i1, x13, x14, x15, x16, xE⟩
    simp only at i1 x13 x14 x15 x16 xE
    subst i1
    rw [hva] at x16
    refine ⟨sI x 262 15 (nI (if rn (isFg b) L q - q ≤ 2 then 2 else 4)), ?_, by rw [sI_n (by omega)]; exact x13, by rw [sI_n (by omega)]; exact x14, sI_e, by rw [sI_n (by omega)]; exact x16, xE.tr (EqT.sI (by omega) (by omega))⟩
    show fX9_lookAt_218 (n + 1) 262 (nI N) x = _
    have h274 := m_la274 x14 x15 (by omega) (by omega)
    have e1 : (if (2 : Nat) = 2 ∧ 2 < rn (isFg b) L q - q then 4 else 2) = (if rn (isFg b) L q - q ≤ 2 then 2 else 4) := by
      by_cases e : rn (isFg b) L q - q ≤ 2
      · rw [if_pos e, if_neg (by omega)]
      · rw [if_neg e, if_pos (by omega)]
    rw [e1] at h274
    rw [fX9_lookAt_218, x14, h274]
    by_cases e : rn (isFg b) L q - q ≤ N
    · rw [if_pos (by rw [p_le (by omega) (by omega)]; exact e)]
    · rw [if_neg (by rw [p_le (by omega) (by omega)]; exact e), if_pos (by rw [p2, p_le (by omega) (by omega)]; omega)]
/-- the token from a place on -/
theorem m_lookAt (ht : TM b L h) {p : Nat} (hp : p ≤ L) : ∃ h1, fX9_lookAt 262 (nI p) h = some h1 ∧ TK b L (tbg b L p) h1 ∧ EqT h h1 := by
  obtain ⟨r1, r2, r3, r4⟩ := rn_is (P := isB32 b) hp
  have t3 := ht.2.2.1
  unfold fX9_lookAt
  rw [oL_d]
  refine run_ex (fun n (g : AH) => fX9_lookAt_5 n 262 g) (fun i g => hI g 262 13 = nI (p + i) ∧ EqT h g) (tbg b L p - p) _ ?_ ?_ (sI h 262 13 (nI p)) ⟨sI_e, EqT.sI (by omega) (by omega)⟩ FU (FU_lt (by unfold tbg; omega))
  · rintro n i g hi ⟨g13, gE⟩
    have hi' : i < rn (isB32 b) L p - p := hi
    have htg := ht.eqr gE.eqr
    have hb2 : b (p + i) = 32 := of_decide_eq_true (r3 (p + i) (by omega) (by omega))
    refine ⟨sI g 262 13 (nI (p + (i + 1))), ?_, sI_e, gE.tr (EqT.sI (by omega) (by omega))⟩
    show fX9_lookAt_5 (n + 1) 262 g = fX9_lookAt_5 n 262 _
    rw [fX9_lookAt_5, htg.1, g13, if_neg (by rw [p_le (by omega) (by omega)]; omega), q211, q211s, inb_nI (by omega), oG_d (by omega), ix_nI (by omega), htg.2.1 _ (by omega), hb2, if_pos (by decide), oL_d, p1, nI_add, Nat.add_assoc]
  · rintro n g ⟨g13, gE⟩
    have hbe : tbg b L p = rn (isB32 b) L p := rfl
    generalize hq : tbg b L p = q at *
    rw [show p + (q - p) = q by omega] at g13
    have htg := ht.eqr gE.eqr
    have e43 : ∃ h1, fX9_lookAt_43 262 g = some h1 ∧ TK b L q h1 ∧ EqT g h1 := by
      have k12 : ∀ x y z, hI (sI (sI (sI g 262 14 x) 262 15 y) 262 16 z) 262 12 = nI L := fun x y z => by rw [sI_n (by omega), sI_n (by omega), sI_n (by omega)]; exact htg.1
      have k13 : ∀ x y z, hI (sI (sI (sI g 262 14 x) 262 15 y) 262 16 z) 262 13 = nI q := fun x y z => by rw [sI_n (by omega), sI_n (by omega), sI_n (by omega)]; exact g13
      have kE : ∀ x y z, EqT g (sI (sI (sI g 262 14 x) 262 15 y) 262 16 z) := fun x y z => (EqT.sI (by omega) (by omega)).tr ((EqT.sI (by omega) (by omega)).tr (EqT.sI (by omega) (by omega)))
      unfold fX9_lookAt_43
      rw [oL_d, oL_d, oL_d, k12, k13]
      by_cases eL : q = L
      · rw [if_pos (by rw [eL])]
        have s0 : srt b L q = 0 := if_pos eL
        refine ⟨_, rfl, ⟨k13 _ _ _, ?_, ?_, fun r => by omega⟩, kE _ _ _⟩
        · rw [sI_n (by omega), sI_n (by omega), sI_e]; unfold en; rw [if_pos eL, Nat.sub_self]; rfl
        · rw [sI_n (by omega), sI_e, s0]; rfl
      · have hql : q < L := by omega
        have t4 := ht.2.2.2 q hql
        have k272 : hI (sI (sI (sI g 262 14 0) 262 15 0) 262 16 0) 272 q = nI (b q) := by rw [sI_o (by omega), sI_o (by omega), sI_o (by omega)]; exact htg.2.1 q hql
        rw [if_neg (by rw [p_eq (by omega) (by omega)]; exact eL), q211, q211s, inb_nI (by omega), oG_d (by omega), oL_d, ix_nI (by omega), k272, m_small t4, ob_s, m_fig t4, ob_s]
        have h114 : ∀ t : Nat, t < 5 → fX9_lookAt_114 262 262 (nI t) (sI (sI (sI g 262 14 0) 262 15 0) 262 16 0) = fX9_lookAt_135 262 (if 3 ≤ t then 0 else 1) (sI (sI (sI (sI (sI g 262 14 0) 262 15 0) 262 16 0) 262 15 (nI t)) 262 14 (nI 1)) := by
          intro t ht5
          unfold fX9_lookAt_114
          rw [oL_d, oL_d, sI_n (by omega), sI_e, p1]
          by_cases e : 3 ≤ t
          · rw [if_pos (by rw [p3, p_le (by omega) (by omega)]; exact e), if_pos e]
          · rw [if_neg (by rw [p3, p_le (by omega) (by omega)]; exact e), if_neg e]
        have jE : ∀ t : Nat, EqT g (sI (sI (sI (sI (sI g 262 14 0) 262 15 0) 262 16 0) 262 15 (nI t)) 262 14 (nI 1)) := fun t => (kE _ _ _).tr ((EqT.sI (by omega) (by omega)).tr (EqT.sI (by omega) (by omega)))
        have j13 : ∀ t : Nat, hI (sI (sI (sI (sI (sI g 262 14 0) 262 15 0) 262 16 0) 262 15 (nI t)) 262 14 (nI 1)) 262 13 = nI q := fun t => by rw [sI_n (by omega), sI_n (by omega), k13]
        have j15 : ∀ t : Nat, hI (sI (sI (sI (sI (sI g 262 14 0) 262 15 0) 262 16 0) 262 15 (nI t)) 262 14 (nI 1)) 262 15 = nI t := fun t => by rw [sI_n (by omega), sI_e]
        have j16 : ∀ t : Nat, hI (sI (sI (sI (sI (sI g 262 14 0) 262 15 0) 262 16 0) 262 15 (nI t)) 262 14 (nI 1)) 262 16 = nI 0 := fun t => by rw [sI_n (by omega), sI_n (by omega), sI_e]; rfl
        have one : ∀ t : Nat, 3 ≤ t → t < 5 → en b L q = q + 1 → srt b L q = t → ∃ h1, fX9_lookAt_135 262 0 (sI (sI (sI (sI (sI g 262 14 0) 262 15 0) 262 16 0) 262 15 (nI t)) 262 14 (nI 1)) = some h1 ∧ TK b L q h1 ∧ EqT g h1 := by
          intro t ht3 ht5 hen hst
          refine ⟨_, ?_, ⟨?_, ?_, sI_e.trans (by rw [hst]), fun r => by omega⟩, (jE t).tr (EqT.sI (k := 15) (v := nI t) (by omega) (by omega))⟩
          · unfold fX9_lookAt_135
            refine run_loop (fun n (s : AH) => fX9_lookAt_136 n 262 0 s) (fun i => sI (sI (sI (sI (sI g 262 14 0) 262 15 0) 262 16 0) 262 15 (nI t)) 262 14 (nI 1)) 0 _ (fun n i hi => by omega) (fun n => ?_) FU (FU_lt (by omega))
            show fX9_lookAt_136 (n + 1) 262 0 _ = _
            rw [fX9_lookAt_136, if_pos rfl]
            exact m_la215 (htg.eqr (jE t).eqr) (j13 t) sI_e (j15 t) ht5 (by omega) (by omega) (by omega)
          · rw [sI_n (by omega)]; exact j13 t
          · rw [sI_n (by omega), sI_e, hen]; congr 1; omega
        cases hl : isLt b q with
        | true =>
          rw [if_neg (by decide)]
          have s1 : srt b L q = 1 := by unfold srt; rw [if_neg eL, if_pos hl]
          have en1 : en b L q = rn (isLt b) L q := by unfold en; rw [if_neg eL, if_pos hl]
          have := h114 1 (by omega)
          rw [p1, this, if_neg (by omega)]
          unfold fX9_lookAt_135
          obtain ⟨x, x1, x13, x14, x15, x16, xE⟩ := m_run (P := isLt b) (t := 1) (htg.eqr (jE 1).eqr) hql hl (j13 1) sI_e (j15 1) (fun k hk n g' e => by
            rw [e, if_pos (by decide), m_small (ht.2.2.2 k hk), ob_s])
          have hrl := rn_is (P := isLt b) (show q ≤ L by omega)
          have hrg := rn_gt hql hl
          rw [x1, m_la215 ((htg.eqr (jE 1).eqr).eqr xE.eqr) x13 x14 x15 (by omega) (by omega) (by omega) (by omega)]
          refine ⟨_, rfl, ⟨?_, ?_, sI_e.trans (by rw [s1]), fun r => by omega⟩, ((jE 1).tr xE).tr (EqT.sI (by omega) (by omega))⟩
          · rw [sI_n (by omega)]; exact x13
          · rw [sI_n (by omega), en1]; exact x14
        | false =>
          rw [if_pos (by decide)]
          cases hf : isFg b q with
          | true =>
            rw [if_neg (by decide)]
            have s1 : srt b L q = if rn (isFg b) L q - q ≤ 2 then 2 else 4 := by unfold srt; rw [if_neg eL, if_neg (by rw [hl]; decide), if_pos hf]
            have en1 : en b L q = rn (isFg b) L q := by unfold en; rw [if_neg eL, if_neg (by rw [hl]; decide), if_pos hf]
            have := h114 2 (by omega)
            rw [p2, this, if_neg (by omega)]
            unfold fX9_lookAt_135
            obtain ⟨x, x1, x13, x14, x15, x16, xE⟩ := m_run (P := isFg b) (t := 2) (htg.eqr (jE 2).eqr) hql hf (j13 2) sI_e (j15 2) (fun k hk n g' e => by
              rw [e, if_neg (by decide), m_fig (ht.2.2.2 k hk), ob_s])
            obtain ⟨y, y1, y13, y14, y15, y16, yE⟩ := m_la215n ((htg.eqr (jE 2).eqr).eqr xE.eqr) hql hf x13 x14 x15 (x16.trans (j16 2))
            rw [x1]
            exact ⟨y, y1, ⟨y13, by rw [en1]; exact y14, by rw [s1]; exact y15, fun _ => y16⟩, ((jE 2).tr xE).tr yE⟩
          | false =>
            have en1 : en b L q = q + 1 := by unfold en; rw [if_neg eL, if_neg (by rw [hl]; decide), if_neg (by rw [hf]; decide)]
            have s1 : srt b L q = if b q = 59 then 3 else 4 := by unfold srt; rw [if_neg eL, if_neg (by rw [hl]; decide), if_neg (by rw [hf]; decide)]
            have e59 : (59 : Int32) = nI 59 := by decide
            rw [if_pos (by decide), e59]
            by_cases e59' : b q = 59
            · have := h114 3 (by omega)
              rw [if_pos (by rw [e59']), p3, this, if_pos (by omega)]
              exact one 3 (by omega) (by omega) en1 (by rw [s1, if_pos e59'])
            · have := h114 4 (by omega)
              rw [if_neg (by rw [p_eq (by omega) (by omega)]; exact e59'), p4, this, if_pos (by omega)]
              exact one 4 (by omega) (by omega) en1 (by rw [s1, if_neg e59'])
    obtain ⟨g1, k1, k2, k3⟩ := e43
    refine ⟨g1, ?_, k2, gE.tr k3⟩
    show fX9_lookAt_5 (n + 1) 262 g = _
    rw [fX9_lookAt_5, htg.1, g13, k1]
    by_cases eL : q = L
    · rw [if_pos (by rw [p_le (by omega) (by omega)]; omega)]
    · have hnb : b q ≠ 32 := by
        intro r
        rcases r4 with h5 | h5
        · omega
        · rw [← hbe] at h5
          exact absurd (show isB32 b q = true from decide_eq_true r) (by rw [h5]; decide)
      have t4 := ht.2.2.2 q (by omega)
      have e32 : (32 : Int32) = nI 32 := by decide
      rw [if_neg (by rw [p_le (by omega) (by omega)]; omega), q211, q211s, inb_nI (by omega), oG_d (by omega), ix_nI (by omega), htg.2.1 _ (by omega), e32, if_neg (by rw [p_eq (by omega) (by omega)]; exact hnb)]
theorem m_behind (ht : TM b L h) {q : Nat} (hq : q ≤ L) (hk : TK b L q h) : ∃ h1, fX9_goBehind 262 h = some h1 ∧ TK b L (tbg b L (en b L q)) h1 ∧ EqT h h1 := by
  have hen := en_le (b := b) hq
  have t3 := ht.2.2.1
  obtain ⟨g, r1, r2, r3⟩ := m_lookAt ht hen.2
  refine ⟨g, ?_, r2, r3⟩
  unfold fX9_goBehind
  rw [hk.1, hk.2.1, nI_add, show q + (en b L q - q) = en b L q by omega, r1, ob_s]
end TKM
