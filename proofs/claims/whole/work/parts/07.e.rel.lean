/-! PURE: the state that both hold. T: the reference's row; K: its kept rows; F: which are kept; X: refused; A, E: the fraction; B, L: the text -/
abbrev ST : Type := (Nat → Int32) × (Nat → Int32) × (Nat → Int32) × (Nat → Int32) × Int64 × Int64 × (Nat → Int32) × Nat
def sT (S : ST) : Nat → Int32 := S.1
def sK (S : ST) : Nat → Int32 := S.2.1
def sF (S : ST) : Nat → Int32 := S.2.2.1
def sX (S : ST) : Nat → Int32 := S.2.2.2.1
def sA (S : ST) : Int64 := S.2.2.2.2.1
def sE (S : ST) : Int64 := S.2.2.2.2.2.1
def sB (S : ST) : Nat → Int32 := S.2.2.2.2.2.2.1
def sL (S : ST) : Nat := S.2.2.2.2.2.2.2
def wT (S : ST) (T : Nat → Int32) : ST := (T, S.2)
def up1 (f : Nat → Int32) (k : Nat) (v : Int32) : Nat → Int32 := fun a => if a = k then v else f a
theorem up1_e {f : Nat → Int32} {k : Nat} {v : Int32} : up1 f k v k = v := if_pos rfl
theorem up1_n {f : Nat → Int32} {k a : Nat} {v : Int32} (h : a ≠ k) : up1 f k v a = f a := if_neg h
def bump (S : ST) (i : Nat) : ST := (S.1, S.2.1, S.2.2.1, up1 (sX S) i (sX S i + 1), S.2.2.2.2)
/-- the row as it was ahead of the j-th that may be undone -/
def TP (T : Nat → Int32) (j : Nat) : Nat → Int32 := fun k => if 6 ≤ k ∧ k < 30 then T (112 + 24 * j + (k - 6)) else T k
/-- a county of the class, at the object c -/
def CouR (c : Nat) (T : Nat → Int32) (h : AH) : Prop := LaR (c + 1) T h ∧ hI h (c + 9) 1 = T 5 ∧ (∀ j, j < tn T 5 → LaR (hQ h (c + 10) j) (TP T j) h) ∧
  hI h (c + 75) 1 = T 2 ∧ (∀ j, j < tn T 2 → ∀ i, i < 2 → hI h (c + 76) (5 * j + i) = T (46 + 2 * j + i)) ∧
  hI h (c + 77) 1 = T 3 ∧ (∀ j, j < tn T 3 → ∀ i, i < 5 → hI h (c + 78) (5 * j + i) = T (58 + 5 * j + i)) ∧
  hI h (c + 79) 1 = T 4 ∧ (∀ j, j < tn T 4 → ∀ i, i < 4 → hI h (c + 80) (5 * j + i) = T (88 + 4 * j + i))
def PasQ (c : Nat) (h : AH) : Prop := (∀ j, j < 8 → ∃ i, i < 8 ∧ hQ h (c + 10) j = c + 11 + 8 * i) ∧ ∀ j, j < 8 → ∀ j', j' < 8 → hQ h (c + 10) j = hQ h (c + 10) j' → j = j'
def kcn (i : Nat) : Nat := if i = 0 then 100 else 181
def WfS (S : ST) : Prop := WfU (sT S) 304 ∧ (∀ i, i < 2 → sF S i = 1 → WfU (fun k => sK S (304 * i + k)) 304) ∧ sL S ≤ 150 ∧ (∀ k, k < sL S → ∃ n, sB S k = nI n ∧ n < 128) ∧ ∀ i, i < 2 → sF S i = 0 ∨ sF S i = 1
def CR (S : ST) (h : AH) : Prop := CouR 1 (sT S) h ∧ (∀ i, i < 2 → sF S i = 1 → CouR (kcn i) (fun k => sK S (304 * i + k)) h) ∧ (∀ i, i < 2 → hI h 83 i = sF S i) ∧ (PasQ 1 h ∧ PasQ 100 h ∧ PasQ 181 h) ∧ (∀ i, i < 2 → hQ h 82 i = kcn i) ∧
  (∀ i, i < 3 → hI h 0 (10 + i) = sX S i) ∧ hJ h 0 8 = sA S ∧ hJ h 0 9 = sE S ∧ (∀ k, k < sL S → hI h 95 k = sB S k) ∧ hI h 94 3 = nI (sL S)
def MR (S : ST) (h : AH) : Prop := ArR 263 304 (sT S) h ∧ ArR 264 608 (sK S) h ∧ (∀ i, i < 2 → hI h 265 i = sF S i) ∧ (∀ i, i < 3 → hI h 266 i = sX S i) ∧ hJ h 262 4 = sA S ∧ hJ h 262 5 = sE S ∧ (∀ k, k < sL S → hI h 272 k = sB S k) ∧ hI h 262 12 = nI (sL S)
def RR (h : AH) : Prop := ∃ S, WfS S ∧ CR S h ∧ MR S h
/-- what no call may touch in passing: all but the class's scratch -/
def kpt (o k : Nat) : Prop := o < 84 ∨ 99 < o ∨ o = 95 ∨ (o = 94 ∧ k = 3)
def EqQ (h h' : AH) : Prop := ∀ o k, kpt o k → hI h' o k = hI h o k ∧ hJ h' o k = hJ h o k ∧ hQ h' o k = hQ h o k
theorem EqQ.rf {h : AH} : EqQ h h := fun _ _ _ => ⟨rfl, rfl, rfl⟩
theorem EqQ.tr {h h' h'' : AH} (a : EqQ h h') (b : EqQ h' h'') : EqQ h h'' := fun o k q => ⟨(b o k q).1.trans (a o k q).1, (b o k q).2.1.trans (a o k q).2.1, (b o k q).2.2.trans (a o k q).2.2⟩
theorem EqQ.eqs {h h' : AH} (a : EqQ h h') {lo hi : Nat} (hh : hi < 84 ∨ 99 < lo) : Eqs lo hi h h' := fun o h1 h2 k => a o k (by unfold kpt; omega)
theorem EqQ.row {h : AH} {o n : Nat} {f : Nat → Int32} (h1 : 84 ≤ o) (h2 : o ≤ 99) (h3 : o ≠ 95) (h4 : o ≠ 94) : EqQ h (rowS h o f n) := fun a b q => ⟨rowS_n (by unfold kpt at q; omega), rfl, rfl⟩
theorem EqQ.sI {h : AH} {o k : Nat} {v : Int32} (h1 : 84 ≤ o) (h2 : o ≤ 99) (h3 : o ≠ 95) (h4 : o = 94 → k ≠ 3) : EqQ h (sI h o k v) := fun a b q => ⟨sI_n (by unfold kpt at q; omega), rfl, rfl⟩
theorem gz_eqq {h : AH} {T : Nat → Int32} {set t : Nat} : EqQ h (gz h T set t) := EqQ.row (by omega) (by omega) (by omega) (by omega)
theorem PasQ.eqs {c : Nat} {h h' : AH} (a : PasQ c h) (he : ∀ j, j < 8 → hQ h' (c + 10) j = hQ h (c + 10) j) : PasQ c h' := by
  refine ⟨fun j hj => ?_, fun j hj j' hj' e => ?_⟩
  · rw [he j hj]; exact a.1 j hj
  · rw [he j hj, he j' hj'] at e; exact a.2 j hj j' hj' e
theorem CouR.eqs {c : Nat} {T : Nat → Int32} {h h' : AH} (a : CouR c T h) (hq : PasQ c h) (h5 : tn T 5 ≤ 8) (he : Eqs (c + 1) (c + 80) h h') : CouR c T h' := by
  obtain ⟨a1, a2, a3, a4, a5, a6, a7, a8, a9⟩ := a
  refine ⟨a1.eqs (he.sub (by omega) (by omega)), ?_, fun j hj => ?_, ?_, fun j hj i hi => ?_, ?_, fun j hj i hi => ?_, ?_, fun j hj i hi => ?_⟩
  · rw [(he _ (by omega) (by omega) _).1]; exact a2
  · obtain ⟨i, hi, e⟩ := hq.1 j (by omega)
    rw [(he (c + 10) (by omega) (by omega) _).2.2]
    exact (a3 j hj).eqs (he.sub (by omega) (by omega))
  · rw [(he _ (by omega) (by omega) _).1]; exact a4
  · rw [(he _ (by omega) (by omega) _).1]; exact a5 j hj i hi
  · rw [(he _ (by omega) (by omega) _).1]; exact a6
  · rw [(he _ (by omega) (by omega) _).1]; exact a7 j hj i hi
  · rw [(he _ (by omega) (by omega) _).1]; exact a8
  · rw [(he _ (by omega) (by omega) _).1]; exact a9 j hj i hi
theorem wf_cnt {T : Nat → Int32} (h : WfU T 304) : (T 0 = nI (tn T 0) ∧ tn T 0 ≤ 5) ∧ (T 1 = nI (tn T 1) ∧ tn T 1 ≤ 6) ∧ (T 2 = nI (tn T 2) ∧ tn T 2 ≤ 6) ∧ (T 3 = nI (tn T 3) ∧ tn T 3 ≤ 6) ∧ (T 4 = nI (tn T 4) ∧ tn T 4 ≤ 6) ∧ (T 5 = nI (tn T 5) ∧ tn T 5 ≤ 8) ∧ T 13 = nI (tn T 13) ∧ tn T 13 ≤ 9999 :=
  ⟨h 0 (by omega) (by decide), h 1 (by omega) (by decide), h 2 (by omega) (by decide), h 3 (by omega) (by decide), h 4 (by omega) (by decide), h 5 (by omega) (by decide), h 13 (by omega) (by decide)⟩
theorem kcn_eq (i : Nat) : kcn i = 100 ∨ kcn i = 181 := by unfold kcn; split <;> simp
theorem CR.eqq {S : ST} {h h' : AH} (hW : WfS S) (a : CR S h) (he : EqQ h h') : CR S h' := by
  obtain ⟨a1, a2, a3, ⟨a4, a5, a6⟩, a7, a8, a9, a10, a11, a12⟩ := a
  have f5 := (wf_cnt hW.1).2.2.2.2.2.1.2
  refine ⟨a1.eqs a4 f5 (he.eqs (by omega)), fun i hi hf => ?_, fun i hi => ?_, ⟨a4.eqs fun j _ => (he _ j (by unfold kpt; omega)).2.2, a5.eqs fun j _ => (he _ j (by unfold kpt; omega)).2.2, a6.eqs fun j _ => (he _ j (by unfold kpt; omega)).2.2⟩, fun i hi => ?_, fun i hi => ?_, ?_, ?_, fun k hk => ?_, ?_⟩
  · have f6 := (wf_cnt (hW.2.1 i hi hf)).2.2.2.2.2.1.2
    rcases kcn_eq i with e | e
    · exact (a2 i hi hf).eqs (by rw [e]; exact a5) f6 (he.eqs (by omega))
    · exact (a2 i hi hf).eqs (by rw [e]; exact a6) f6 (he.eqs (by omega))
  · rw [(he 83 i (by unfold kpt; omega)).1]; exact a3 i hi
  · rw [(he 82 i (by unfold kpt; omega)).2.2]; exact a7 i hi
  · rw [(he 0 _ (by unfold kpt; omega)).1]; exact a8 i hi
  · rw [(he 0 _ (by unfold kpt; omega)).2.1]; exact a9
  · rw [(he 0 _ (by unfold kpt; omega)).2.1]; exact a10
  · rw [(he 95 k (by unfold kpt; omega)).1]; exact a11 k hk
  · rw [(he 94 3 (by unfold kpt; omega)).1]; exact a12
theorem MR.eqs {S : ST} {h h' : AH} (a : MR S h) (he : Eqs 262 272 h h') : MR S h' := by
  obtain ⟨a1, a2, a3, a4, a5, a6, a7, a8⟩ := a
  refine ⟨a1.eqs (he.sub (by omega) (by omega)), a2.eqs (he.sub (by omega) (by omega)), fun i hi => ?_, fun i hi => ?_, ?_, ?_, fun k hk => ?_, ?_⟩
  · rw [(he 265 (by omega) (by omega) i).1]; exact a3 i hi
  · rw [(he 266 (by omega) (by omega) i).1]; exact a4 i hi
  · rw [(he 262 (by omega) (by omega) _).2.1]; exact a5
  · rw [(he 262 (by omega) (by omega) _).2.1]; exact a6
  · rw [(he 272 (by omega) (by omega) k).1]; exact a7 k hk
  · rw [(he 262 (by omega) (by omega) _).1]; exact a8
theorem CR.eqs {S : ST} {h h' : AH} (hW : WfS S) (a : CR S h) (he : Eqs 0 261 h h') : CR S h' := by
  obtain ⟨a1, a2, a3, ⟨a4, a5, a6⟩, a7, a8, a9, a10, a11, a12⟩ := a
  have f5 := (wf_cnt hW.1).2.2.2.2.2.1.2
  refine ⟨a1.eqs a4 f5 (he.sub (by omega) (by omega)), fun i hi hf => ?_, fun i hi => ?_, ⟨a4.eqs fun j _ => (he _ (by omega) (by omega) j).2.2, a5.eqs fun j _ => (he _ (by omega) (by omega) j).2.2, a6.eqs fun j _ => (he _ (by omega) (by omega) j).2.2⟩, fun i hi => ?_, fun i hi => ?_, ?_, ?_, fun k hk => ?_, ?_⟩
  · have f6 := (wf_cnt (hW.2.1 i hi hf)).2.2.2.2.2.1.2
    rcases kcn_eq i with e | e
    · exact (a2 i hi hf).eqs (by rw [e]; exact a5) f6 (he.sub (by omega) (by omega))
    · exact (a2 i hi hf).eqs (by rw [e]; exact a6) f6 (he.sub (by omega) (by omega))
  · rw [(he 83 (by omega) (by omega) i).1]; exact a3 i hi
  · rw [(he 82 (by omega) (by omega) i).2.2]; exact a7 i hi
  · rw [(he 0 (by omega) (by omega) _).1]; exact a8 i hi
  · rw [(he 0 (by omega) (by omega) _).2.1]; exact a9
  · rw [(he 0 (by omega) (by omega) _).2.1]; exact a10
  · rw [(he 95 (by omega) (by omega) k).1]; exact a11 k hk
  · rw [(he 94 (by omega) (by omega) 3).1]; exact a12
/-- both go on to S' -/
theorem RR.go {S' : ST} {h1 h2 : AH} (hW : WfS S') (hC : CR S' h1) (hM : MR S' h2) (he : Eqs 0 261 h1 h2) : RR h2 := ⟨S', hW, hC.eqs hW he, hM⟩
/-! refused -/
theorem c_refuse {S : ST} {h : AH} (hW : WfS S) (hC : CR S h) {v : Int32} {i : Nat} (hv : (v = -2 ∧ i = 0) ∨ (v = -3 ∧ i = 1) ∨ (v = -4 ∧ i = 2)) : ∃ h1, fX8_refuse 0 v h = some (v, h1) ∧ CR (bump S i) h1 ∧ Eqs 262 274 h h1 := by
  have key : ∀ i, i < 3 → CR (bump S i) (sI h 0 (10 + i) (hI h 0 (10 + i) + 1)) := by
    intro i hi
    obtain ⟨a1, a2, a3, ⟨a4, a5, a6⟩, a7, a8, a9, a10, a11, a12⟩ := hC
    have f5 := (wf_cnt hW.1).2.2.2.2.2.1.2
    have he : Eqs 1 261 h (sI h 0 (10 + i) (hI h 0 (10 + i) + 1)) := Eqs.sI (by omega)
    refine ⟨a1.eqs a4 f5 (he.sub (by omega) (by omega)), fun i hi hf => ?_, fun i hi => ?_, ⟨a4, a5, a6⟩, a7, fun j hj => ?_, a9, a10, fun k hk => ?_, ?_⟩
    · have f6 := (wf_cnt (hW.2.1 i hi hf)).2.2.2.2.2.1.2
      rcases kcn_eq i with e | e
      · exact (a2 i hi hf).eqs (by rw [e]; exact a5) f6 (he.sub (by omega) (by omega))
      · exact (a2 i hi hf).eqs (by rw [e]; exact a6) f6 (he.sub (by omega) (by omega))
    · rw [sI_o (by omega)]; exact a3 i hi
    · show hI _ 0 (10 + j) = up1 (sX S) i (sX S i + 1) j
      by_cases hji : j = i
      · subst hji
        rw [sI_e, up1_e, a8 j hj]
      · rw [sI_n (by omega), up1_n hji]
        exact a8 j hj
    · rw [sI_o (by omega)]; exact a11 k hk
    · rw [sI_o (by omega)]; exact a12
  have ee : ∀ k v, Eqs 262 274 h (sI h 0 k v) := fun k v => Eqs.sI (by omega)
  unfold fX8_refuse
  rcases hv with ⟨rfl, rfl⟩ | ⟨rfl, rfl⟩ | ⟨rfl, rfl⟩
  · exact ⟨_, rfl, key 0 (by omega), ee _ _⟩
  · exact ⟨_, rfl, key 1 (by omega), ee _ _⟩
  · exact ⟨_, rfl, key 2 (by omega), ee _ _⟩
theorem m_ref {S : ST} {h : AH} (hM : MR S h) (i : Nat) (hi : i < 3) : MR (bump S i) (sI h 266 i (hI h 266 i + 1)) ∧ Eqs 0 261 h (sI h 266 i (hI h 266 i + 1)) := by
  obtain ⟨a1, a2, a3, a4, a5, a6, a7, a8⟩ := hM
  refine ⟨⟨a1.eqs (Eqs.sI (by omega)), a2.eqs (Eqs.sI (by omega)), fun i hi => ?_, fun j hj => ?_, a5, a6, fun k hk => ?_, ?_⟩, Eqs.sI (by omega)⟩
  · rw [sI_o (by omega)]; exact a3 i hi
  · show hI _ 266 j = up1 (sX S) i (sX S i + 1) j
    by_cases hji : j = i
    · subst hji
      rw [sI_e, up1_e, a4 j hj]
    · rw [sI_n (by omega), up1_n hji]
      exact a4 j hj
  · rw [sI_o (by omega)]; exact a7 k hk
  · rw [sI_o (by omega)]; exact a8
theorem m_bad {h : AH} (v : Int32) : fX9_bad 262 v h = some (v, sI h 266 0 (hI h 266 0 + 1)) := rfl
theorem m_no {h : AH} : fX9_no 262 h = some (-3, sI h 266 1 (hI h 266 1 + 1)) := rfl
theorem m_full {h : AH} : fX9_full 262 h = some (-4, sI h 266 2 (hI h 266 2 + 1)) := rfl
theorem WfS.bump {S : ST} (h : WfS S) (i : Nat) : WfS (bump S i) := h
