/-! PURE: a row more on a sheet -/
def av (a1 a2 a3 a4 a5 : Int32) (k : Nat) : Int32 := if k = 0 then a1 else if k = 1 then a2 else if k = 2 then a3 else if k = 3 then a4 else a5
section AD
variable {h : AH} {o n : Nat} {a1 a2 a3 a4 a5 : Int32}
theorem adH_c : hI (adH h o n a1 a2 a3 a4 a5) o 1 = nI (n + 1) := sI_e
theorem adH_v {k : Nat} (hk : k < 5) : hI (adH h o n a1 a2 a3 a4 a5) (o + 1) (5 * n + k) = av a1 a2 a3 a4 a5 k := by
  unfold adH av
  rw [sI_o (by omega)]
  rcases (show k = 0 ∨ k = 1 ∨ k = 2 ∨ k = 3 ∨ k = 4 by omega) with rfl | rfl | rfl | rfl | rfl
  · rw [sI_n (by omega), sI_n (by omega), sI_n (by omega), sI_n (by omega), show n * 5 = 5 * n + 0 by omega, sI_e]; rfl
  · rw [sI_n (by omega), sI_n (by omega), sI_n (by omega), show n * 5 + 1 = 5 * n + 1 by omega, sI_e]; rfl
  · rw [sI_n (by omega), sI_n (by omega), show n * 5 + 2 = 5 * n + 2 by omega, sI_e]; rfl
  · rw [sI_n (by omega), show n * 5 + 3 = 5 * n + 3 by omega, sI_e]; rfl
  · rw [show n * 5 + 4 = 5 * n + 4 by omega, sI_e]; rfl
theorem adH_n {a b : Nat} (h1 : ¬ (a = o ∧ b = 1)) (h2 : ¬ (a = o + 1 ∧ 5 * n ≤ b ∧ b < 5 * n + 5)) : hI (adH h o n a1 a2 a3 a4 a5) a b = hI h a b := by
  unfold adH
  rw [sI_n (by omega), sI_n (by omega), sI_n (by omega), sI_n (by omega), sI_n (by omega), sI_n (by omega)]
end AD
section ADT
variable {T : Nat → Int32} {i : Nat} {v : Nat → Int32}
theorem adT_c : adT T i v (2 + i) = nI (tn T (2 + i) + 1) := if_pos rfl
theorem adT_v (hi : i < 3) {k : Nat} (hk : k < wd i) : adT T i v (bs i + wd i * tn T (2 + i) + k) = v k := by
  unfold adT
  rw [if_neg (by unfold bs; split <;> (try split) <;> omega), if_pos (by omega), show bs i + wd i * tn T (2 + i) + k - (bs i + wd i * tn T (2 + i)) = k by omega]
theorem adT_n {a : Nat} (h1 : a ≠ 2 + i) (h2 : ¬ (bs i + wd i * tn T (2 + i) ≤ a ∧ a < bs i + wd i * tn T (2 + i) + wd i)) : adT T i v a = T a := by
  unfold adT
  rw [if_neg h1, if_neg h2]
theorem adT_agr (hi : i < 3) (hn : tn T (2 + i) < 6) : ∀ k, k < 304 → (k < 2 ∨ (4 < k ∧ k < 46) ∨ 112 ≤ k) → adT T i v k = T k := by
  intro k hk hk2
  refine adT_n (by omega) ?_
  unfold bs wd
  rcases (show i = 0 ∨ i = 1 ∨ i = 2 by omega) with rfl | rfl | rfl <;> simp at hn ⊢ <;> omega
theorem adT_wf (hi : i < 3) (hn : tn T (2 + i) < 6) (hT : WfU T 304) (hv : ∀ k, k < wd i → ∃ x, v k = nI x ∧ x ≤ HB (bs i + wd i * tn T (2 + i) + k) ∧ x < 2147483648) : WfU (adT T i v) 304 := by
  intro k hk hb
  by_cases h1 : k = 2 + i
  · subst h1
    have e := adT_c (T := T) (i := i) (v := v)
    unfold tn
    rw [e, ix_nI (by omega)]
    refine ⟨rfl, ?_⟩
    have : HB (2 + i) = 6 := by rcases (show i = 0 ∨ i = 1 ∨ i = 2 by omega) with rfl | rfl | rfl <;> rfl
    omega
  · by_cases h2 : bs i + wd i * tn T (2 + i) ≤ k ∧ k < bs i + wd i * tn T (2 + i) + wd i
    · obtain ⟨x, e1, e2, e3⟩ := hv (k - (bs i + wd i * tn T (2 + i))) (by omega)
      have e := adT_v (T := T) (v := v) hi (show k - (bs i + wd i * tn T (2 + i)) < wd i by omega)
      rw [show bs i + wd i * tn T (2 + i) + (k - (bs i + wd i * tn T (2 + i))) = k by omega] at e e2
      unfold tn
      rw [e, e1, ix_nI e3]
      exact ⟨rfl, e2⟩
    · have e := adT_n (v := v) h1 h2
      unfold tn
      rw [e]
      exact hT k hk hb
theorem sh_add {h : AH} {a1 a2 a3 a4 a5 : Int32} (hi : i < 3) (hn : tn T (2 + i) < 6) (hall : ∀ j, j < 3 → tn T (2 + j) ≤ 6) (hv : ∀ k, k < wd i → v k = av a1 a2 a3 a4 a5 k) (hs : ∀ j, j < 3 → ShR 1 j T h) : ∀ j, j < 3 → ShR 1 j (adT T i v) (adH h (76 + 2 * i) (tn T (2 + i)) a1 a2 a3 a4 a5) := by
  intro j hj
  obtain ⟨s1, s2⟩ := hs j hj
  have hw5 : wd j ≤ 5 := by unfold wd; split <;> (try split) <;> omega
  by_cases e : j = i
  · subst e
    refine ⟨?_, fun r hr k hk => ?_⟩
    · rw [adT_c, show 1 + 75 + 2 * j = 76 + 2 * j by omega, adH_c]
    · have hr2 : r < tn T (2 + j) + 1 := by
        unfold tn at hr
        rw [adT_c, ix_nI (by omega)] at hr
        exact hr
      rw [show 1 + 76 + 2 * j = 76 + 2 * j + 1 by omega]
      by_cases er : r = tn T (2 + j)
      · rw [er, adH_v (by omega), adT_v hj hk, hv k hk]
      · rw [adH_n (by omega) (by omega), adT_n, ← s2 r (by omega) k hk, show 1 + 76 + 2 * j = 76 + 2 * j + 1 by omega]
        · unfold bs; split <;> (try split) <;> omega
        · have hr3 : r < tn T (2 + j) := by omega
          generalize tn T (2 + j) = n at hr3 ⊢
          clear hr hr2 er
          rcases (show j = 0 ∨ j = 1 ∨ j = 2 by omega) with rfl | rfl | rfl <;> simp [wd, bs] at hk ⊢ <;> omega
  · have e2 : adT T i v (2 + j) = T (2 + j) := by
      refine adT_n (by omega) ?_
      have : 46 ≤ bs i := by unfold bs; split <;> (try split) <;> omega
      omega
    refine ⟨?_, fun r hr k hk => ?_⟩
    · rw [e2, adH_n (by omega) (by omega)]; exact s1
    · rw [tn_c e2] at hr
      have := hall j hj
      rw [adH_n (by omega) (by omega), s2 r hr k hk, adT_n]
      · unfold bs; split <;> (try split) <;> omega
      · rcases (show i = 0 ∨ i = 1 ∨ i = 2 by omega) with rfl | rfl | rfl <;> rcases (show j = 0 ∨ j = 1 ∨ j = 2 by omega) with rfl | rfl | rfl <;> simp [wd, bs] at * <;> omega
end ADT
theorem WfS.wT {S : ST} (hW : WfS S) {T : Nat → Int32} (h : WfU T 304) : WfS (wT S T) := ⟨h, hW.2⟩
theorem go_add {S : ST} {h : AH} {i : Nat} {v : Nat → Int32} {a1 a2 a3 a4 a5 : Int32} {f9 : AH → Option (Int32 × AH)} (hW : WfS S) (hC : CR S h) (hM : MR S h) (hi : i < 3) (hn : tn (sT S) (2 + i) < 6) (hv : ∀ k, k < wd i → v k = av a1 a2 a3 a4 a5 k) (hwf : ∀ k, k < wd i → ∃ x, v k = nI x ∧ x ≤ HB (bs i + wd i * tn (sT S) (2 + i) + k) ∧ x < 2147483648) (e9 : ∀ h1, MR S h1 → ∃ h2, f9 h1 = some (nI (tn (sT S) (2 + i) + 1), h2) ∧ (∀ k, k < 304 → hI h2 263 k = adT (sT S) i v k) ∧ EqN h1 h2 ∧ Eqs 0 261 h1 h2) : GO S (ob2 (fX6_add (76 + 2 * i) a1 a2 a3 a4 a5 h) fun v h => some (v, h)) f9 := by
  have hT := hW.1
  have c := wf_cnt hT
  have hall : ∀ j, j < 3 → tn (sT S) (2 + j) ≤ 6 := by
    intro j hj
    rcases (show j = 0 ∨ j = 1 ∨ j = 2 by omega) with rfl | rfl | rfl
    · exact c.2.2.1.2
    · exact c.2.2.2.1.2
    · exact c.2.2.2.2.1.2
  have hcn : sT S (2 + i) = nI (tn (sT S) (2 + i)) := by
    rcases (show i = 0 ∨ i = 1 ∨ i = 2 by omega) with rfl | rfl | rfl
    · exact c.2.2.1.1
    · exact c.2.2.2.1.1
    · exact c.2.2.2.2.1.1
  have hsh := hC.1.shR
  have hkd : KD (76 + 2 * i) = 5 := by rcases (show i = 0 ∨ i = 1 ∨ i = 2 by omega) with rfl | rfl | rfl <;> rfl
  have hn1 : hI h (76 + 2 * i) 1 = nI (tn (sT S) (2 + i)) := by
    have := (hsh i hi).1
    rw [show 1 + 75 + 2 * i = 76 + 2 * i by omega, hcn] at this
    exact this
  refine GO.act hM (hW.wT (adT_wf hi hn hT hwf)) (nI (tn (sT S) (2 + i) + 1)) ⟨_, by rw [c_add hkd hn1 hn]; rfl, ?_, ?_⟩ (fun h1 hM1 => ?_)
  · refine hC.cou hW (hC.1.sh hC.2.2.2.1.1 c.1.2 c.2.1.2 c.2.2.2.2.2.1.2 ?_ (adT_agr hi hn) (sh_add hi hn hall hv hsh)) hC.2.2.2.1.1 ?_
    · exact fun a q1 q2 k => ⟨adH_n (by omega) (by omega), rfl, rfl⟩
    · exact fun a k q1 q2 => ⟨adH_n (by omega) (by omega), rfl, rfl⟩
  · exact fun a q1 q2 k => ⟨adH_n (by omega) (by omega), rfl, rfl⟩
  · obtain ⟨h2, r2, r3, r4, r5⟩ := e9 h1 hM1
    exact ⟨h2, r2, hM1.row r3 r4, r5⟩
