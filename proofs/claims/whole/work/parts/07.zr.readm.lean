/-! PURE: the text's items (the reference, 2) -/
section TAK
variable {b : Nat → Nat} {L : Nat} {h : AH}
theorem ArR.eqv {T : Nat → Int32} {h h' : AH} (a : ArR 273 112 T h) (e : ∀ k, hI h' 273 k = hI h 273 k) : ArR 273 112 T h' := ⟨a.1, a.2.1, fun k hk => (e k).trans (a.2.2 k hk)⟩
/-- what the taking of an item says: fl the flag, m how many numbers were asked -/
def TKS (b : Nat → Nat) (L W sh q : Nat) (T : Nat → Int32) (h : AH) (r : Option (Int32 × AH)) : Prop := ∃ h1, r = some ((if itN b L W sh (en b L q) (nbh W) = none then 1 else 0), h1) ∧ EqR h h1 ∧ (∀ e, itN b L W sh (en b L q) (nbh W) = some e → hI h1 262 13 = nI e) ∧ (itN b L W sh (en b L q) (nbh W) = none → TK b L (tbg b L (px b L (en b L q) (nbh W))) h1 ∧ ArR 273 112 (itT T W (fun i => va b L (tbg b L (px b L (en b L q) i)))) h1)
theorem TKS.bad {W sh q i : Nat} {T : Nat → Int32} {g : AH} (hi : i < nbh W) (hn : nk b L W sh (en b L q) i = false) (hj : ∀ j, j < i → nk b L W sh (en b L q) j = true) (hk : hI g 262 13 = nI (tbg b L (px b L (en b L q) i))) (hE : EqR h g) : TKS b L W sh q T h (some (0, g)) := by
  have e := itN_first hn hj (nbh W) hi
  refine ⟨g, by rw [e, if_neg (fun r => by cases r)], hE, fun x hx => ?_, fun hx => ?_⟩
  · rw [e] at hx; cases hx; exact hk
  · rw [e] at hx; cases hx
theorem TKS.good {W sh q : Nat} {T : Nat → Int32} {g : AH} (hn : ∀ j, j < nbh W → nk b L W sh (en b L q) j = true) (hk : TK b L (tbg b L (px b L (en b L q) (nbh W))) g) (hA : ArR 273 112 (itT T W (fun i => va b L (tbg b L (px b L (en b L q) i)))) g) (hE : EqR h g) : TKS b L W sh q T h (some (1, g)) := by
  have e := itN_all _ hn
  exact ⟨g, by rw [e, if_pos rfl], hE, fun x hx => (by rw [e] at hx; cases hx), fun _ => ⟨hk, hA⟩⟩
theorem nk_v {W sh p i : Nat} (h : nk b L W sh p i = true) : va b L (tbg b L (px b L p i)) < hiN W i sh := by
  unfold nk at h
  rw [Bool.and_eq_true, Bool.and_eq_true, decide_eq_true_eq, decide_eq_true_eq, decide_eq_true_eq] at h
  exact h.2.2
theorem m_takesShow {T : Nat → Int32} {q : Nat} (ht : TM b L h) (hT : WfU T 112) (hA : ArR 273 112 T h) (hq : q ≤ L) (hk : TK b L q h) (h5 : tn T 0 < 5) : TKS b L 1 (tn T 0) q T h (fX9_takesShow 262 h) := by
  have hen := (en_le (b := b) hq).2
  have r0 := (hA.2.2 0 (by omega)).trans (wf_0 hT (by omega)).1
  obtain ⟨g, a1, a2, a3⟩ := m_behind ht hq hk
  have htg := ht.eqr a3.eqr
  have e1 : (0 : Int32) = nI 0 ∧ (0 : Int32) = nI (loN 1 0) ∧ (5 : Int32) = nI (hiN 1 0 (tn T 0)) - 1 := ⟨by decide, by decide, by show _ = nI 6 - 1; decide⟩
  have e2 : (1 : Int32) = nI 1 ∧ (0 : Int32) = nI (loN 1 1) ∧ (29 : Int32) = nI (hiN 1 1 (tn T 0)) - 1 := ⟨by decide, by decide, by show _ = nI 30 - 1; decide⟩
  have e3 : (2 : Int32) = nI 2 ∧ (1 : Int32) = nI (loN 1 2) ∧ (9 : Int32) = nI (hiN 1 2 (tn T 0)) - 1 := ⟨by decide, by decide, by show _ = nI 10 - 1; decide⟩
  obtain ⟨t1, f1⟩ := m_takes (W := 1) (sh := tn T 0) (p := en b L q) (i := 0) htg hen (by omega) a2 (by show 6 ≤ 100; omega)
  have i0 : inb (0 : Int32) 112 = true := by decide
  have x0 : ix (0 : Int32) = 0 := by decide
  have e0 : fX9_takesShow 262 h = ob2 (fX9_takes 262 (nI 0) (nI (loN 1 0)) (nI (hiN 1 0 (tn T 0)) - 1) g) fun v5 h4 => if v5 = 0 then some ((0 : Int32), h4) else ob2 (fX9_takes 262 (nI 1) (nI (loN 1 1)) (nI (hiN 1 1 (tn T 0)) - 1) h4) fun v8 h7 => if v8 = 0 then some ((0 : Int32), h7) else ob2 (fX9_takes 262 (nI 2) (nI (loN 1 2)) (nI (hiN 1 2 (tn T 0)) - 1) h7) fun v11 h10 => if v11 = 0 then some ((0 : Int32), h10) else ob (fX9_layShow 273 (hI h10 274 0) (hI h10 274 1) (hI h10 274 2) h10) fun h13 => some ((1 : Int32), h13) := by
    unfold fX9_takesShow
    rw [q217, q217s, i0, oG_T, x0, r0, if_neg (by rw [p5, p_eq (by omega) (by omega)]; omega), a1, ob_s, ← e1.2.1, ← e1.2.2, ← e2.2.1, ← e2.2.2, ← e3.2.1, ← e3.2.2, ← e1.1, ← e2.1, ← e3.1]
    rfl
  rw [e0]
  cases n0 : nk b L 1 (tn T 0) (en b L q) 0 with
  | false =>
    rw [f1 n0, ob2_s, if_pos rfl]
    exact TKS.bad (by decide) n0 (fun j hj => by omega) a2.1 a3.eqr
  | true =>
    obtain ⟨g1, b1, b2, b3, bE⟩ := t1 n0
    rw [b1, ob2_s, if_neg (by decide)]
    obtain ⟨t2, f2⟩ := m_takes (W := 1) (sh := tn T 0) (p := en b L q) (i := 1) (htg.eqr bE.eqr) hen (by omega) b2 (by show 30 ≤ 100; omega)
    cases n1 : nk b L 1 (tn T 0) (en b L q) 1 with
    | false =>
      rw [f2 n1, ob2_s, if_pos rfl]
      exact TKS.bad (by decide) n1 (fun j hj => by rw [show j = 0 by omega]; exact n0) b2.1 (a3.eqr.tr bE.eqr)
    | true =>
      obtain ⟨g2, c1, c2, c3, cE⟩ := t2 n1
      rw [c1, ob2_s, if_neg (by decide)]
      obtain ⟨t3, f3⟩ := m_takes (W := 1) (sh := tn T 0) (p := en b L q) (i := 2) ((htg.eqr bE.eqr).eqr cE.eqr) hen (by omega) c2 (by show 10 ≤ 100; omega)
      cases n2 : nk b L 1 (tn T 0) (en b L q) 2 with
      | false =>
        rw [f3 n2, ob2_s, if_pos rfl]
        exact TKS.bad (by decide) n2 (fun j hj => by rcases (show j = 0 ∨ j = 1 by omega) with rfl | rfl <;> assumption) c2.1 ((a3.eqr.tr bE.eqr).tr cE.eqr)
      | true =>
        obtain ⟨g3, d1, d2, d3, dE⟩ := t3 n2
        have hA3 : ArR 273 112 T g3 := (((hA.eqv (fun k => a3.1 _ _ (by omega))).eqv (fun k => bE.1 _ _ (by omega))).eqv (fun k => cE.1 _ _ (by omega))).eqv (fun k => dE.1 _ _ (by omega))
        have v0 : hI g3 274 0 = nI (va b L (tbg b L (px b L (en b L q) 0))) := ((dE.1 _ _ (by omega)).trans (cE.1 _ _ (by omega))).trans b3
        have v1 : hI g3 274 1 = nI (va b L (tbg b L (px b L (en b L q) 1))) := (dE.1 _ _ (by omega)).trans c3
        obtain ⟨g4, l1, l2, lE⟩ := m_layShow (k := nI (va b L (tbg b L (px b L (en b L q) 0)))) (c := nI (va b L (tbg b L (px b L (en b L q) 1)))) (l := nI (va b L (tbg b L (px b L (en b L q) 2)))) hT (show 46 ≤ 112 by omega) hA3 (by omega) h5
        rw [d1, ob2_s, if_neg (by decide), v0, v1, d3, l1, ob_s]
        refine TKS.good (fun j hj => ?_) (d2.eqt (lE.1 _ _ (by omega) (by omega)) (lE.1 _ _ (by omega) (by omega)) (lE.1 _ _ (by omega) (by omega)) (lE.1 _ _ (by omega) (by omega))) l2 ((((a3.eqr.tr bE.eqr).tr cE.eqr).tr dE.eqr).tr ⟨fun a k r => lE.1 _ _ (by omega) (by omega), lE.2.1, lE.2.2⟩)
        have hj3 : j < 3 := hj
        rcases (show j = 0 ∨ j = 1 ∨ j = 2 by omega) with rfl | rfl | rfl <;> assumption
theorem m_takesWatcher {T : Nat → Int32} {q : Nat} (ht : TM b L h) (hT : WfU T 112) (hA : ArR 273 112 T h) (hq : q ≤ L) (hk : TK b L q h) (h5 : tn T 1 < 6) : TKS b L 3 (tn T 0) q T h (fX9_takesWatcher 262 h) := by
  have hen := (en_le (b := b) hq).2
  have r0 := (hA.2.2 1 (by omega)).trans (wf_1 hT (by omega)).1
  obtain ⟨g, a1, a2, a3⟩ := m_behind ht hq hk
  have htg := ht.eqr a3.eqr
  have e1 : (0 : Int32) = nI 0 ∧ (0 : Int32) = nI (loN 3 0) ∧ (5 : Int32) = nI (hiN 3 0 (tn T 0)) - 1 := ⟨by decide, by decide, by show _ = nI 6 - 1; decide⟩
  have e2 : (1 : Int32) = nI 1 ∧ (0 : Int32) = nI (loN 3 1) ∧ (29 : Int32) = nI (hiN 3 1 (tn T 0)) - 1 := ⟨by decide, by decide, by show _ = nI 30 - 1; decide⟩
  obtain ⟨t1, f1⟩ := m_takes (W := 3) (sh := tn T 0) (p := en b L q) (i := 0) htg hen (by omega) a2 (by show 6 ≤ 100; omega)
  have i0 : inb (1 : Int32) 112 = true := by decide
  have x0 : ix (1 : Int32) = 1 := by decide
  have e0 : fX9_takesWatcher 262 h = ob2 (fX9_takes 262 (nI 0) (nI (loN 3 0)) (nI (hiN 3 0 (tn T 0)) - 1) g) fun v5 h4 => if v5 = 0 then some ((0 : Int32), h4) else ob2 (fX9_takes 262 (nI 1) (nI (loN 3 1)) (nI (hiN 3 1 (tn T 0)) - 1) h4) fun v8 h7 => if v8 = 0 then some ((0 : Int32), h7) else ob (fX9_layWatcher 273 (hI h7 274 0) (hI h7 274 1) h7) fun h13 => some ((1 : Int32), h13) := by
    unfold fX9_takesWatcher
    rw [q217, q217s, i0, oG_T, x0, r0, if_neg (by rw [p6, p_eq (by omega) (by omega)]; omega), a1, ob_s, ← e1.2.1, ← e1.2.2, ← e2.2.1, ← e2.2.2, ← e1.1, ← e2.1]
    rfl
  rw [e0]
  cases n0 : nk b L 3 (tn T 0) (en b L q) 0 with
  | false =>
    rw [f1 n0, ob2_s, if_pos rfl]
    exact TKS.bad (by decide) n0 (fun j hj => by omega) a2.1 a3.eqr
  | true =>
    obtain ⟨g1, b1, b2, b3, bE⟩ := t1 n0
    rw [b1, ob2_s, if_neg (by decide)]
    obtain ⟨t2, f2⟩ := m_takes (W := 3) (sh := tn T 0) (p := en b L q) (i := 1) (htg.eqr bE.eqr) hen (by omega) b2 (by show 30 ≤ 100; omega)
    cases n1 : nk b L 3 (tn T 0) (en b L q) 1 with
    | false =>
      rw [f2 n1, ob2_s, if_pos rfl]
      exact TKS.bad (by decide) n1 (fun j hj => by rw [show j = 0 by omega]; exact n0) b2.1 (a3.eqr.tr bE.eqr)
    | true =>
      obtain ⟨g2, c1, c2, c3, cE⟩ := t2 n1
      have hA3 : ArR 273 112 T g2 := ((hA.eqv (fun k => a3.1 _ _ (by omega))).eqv (fun k => bE.1 _ _ (by omega))).eqv (fun k => cE.1 _ _ (by omega))
      have v0 : hI g2 274 0 = nI (va b L (tbg b L (px b L (en b L q) 0))) := (cE.1 _ _ (by omega)).trans b3
      obtain ⟨g4, l1, l2, lE⟩ := m_layWatcher (k := nI (va b L (tbg b L (px b L (en b L q) 0)))) (c := nI (va b L (tbg b L (px b L (en b L q) 1)))) hT (show 46 ≤ 112 by omega) hA3 (by omega) h5
      rw [c1, ob2_s, if_neg (by decide), v0, c3, l1, ob_s]
      refine TKS.good (fun j hj => ?_) (c2.eqt (lE.1 _ _ (by omega) (by omega)) (lE.1 _ _ (by omega) (by omega)) (lE.1 _ _ (by omega) (by omega)) (lE.1 _ _ (by omega) (by omega))) l2 (((a3.eqr.tr bE.eqr).tr cE.eqr).tr ⟨fun a k r => lE.1 _ _ (by omega) (by omega), lE.2.1, lE.2.2⟩)
      have hj3 : j < 2 := hj
      rcases (show j = 0 ∨ j = 1 by omega) with rfl | rfl <;> assumption
theorem m_takesOff {T : Nat → Int32} {q : Nat} (ht : TM b L h) (hT : WfU T 112) (hA : ArR 273 112 T h) (hq : q ≤ L) (hk : TK b L q h) : TKS b L 2 (tn T 0) q T h (fX9_takesOff 262 h) := by
  have hen := (en_le (b := b) hq).2
  have n0' := (wf_0 hT (by omega))
  obtain ⟨g, a1, a2, a3⟩ := m_behind ht hq hk
  have htg := ht.eqr a3.eqr
  have hAg : ArR 273 112 T g := hA.eqv (fun k => a3.1 _ _ (by omega))
  have r0 := (hAg.2.2 0 (by omega)).trans n0'.1
  have e1 : (0 : Int32) = nI 0 ∧ (0 : Int32) = nI (loN 2 0) := ⟨by decide, by decide⟩
  obtain ⟨t1, f1⟩ := m_takes (W := 2) (sh := tn T 0) (p := en b L q) (i := 0) htg hen (by omega) a2 (by show tn T 0 ≤ 100; omega)
  have i0 : inb (0 : Int32) 112 = true := by decide
  have i1 : inb (0 : Int32) 3 = true := by decide
  have x0 : ix (0 : Int32) = 0 := by decide
  have e0 : fX9_takesOff 262 h = ob2 (fX9_takes 262 (nI 0) (nI (loN 2 0)) (nI (hiN 2 0 (tn T 0)) - 1) g) fun v5 h4 => if v5 = 0 then some ((0 : Int32), h4) else oG (inb ((25 : Int32) + (hI h4 274 0)) 112) (oL (sI h4 273 (ix ((25 : Int32) + (hI h4 274 0))) (0 : Int32)) fun h6 => some ((1 : Int32), h6)) := by
    unfold fX9_takesOff
    rw [a1, ob_s, q217, q217s, i0, oG_T, x0, r0, q218, q218s, i1, ← e1.2]
    rfl
  rw [e0]
  cases n0 : nk b L 2 (tn T 0) (en b L q) 0 with
  | false =>
    rw [f1 n0, ob2_s, if_pos rfl]
    exact TKS.bad (by decide) n0 (fun j hj => by omega) a2.1 a3.eqr
  | true =>
    obtain ⟨g1, b1, b2, b3, bE⟩ := t1 n0
    have hv : va b L (tbg b L (px b L (en b L q) 0)) < tn T 0 := nk_v n0
    have hA3 : ArR 273 112 T g1 := hAg.eqv (fun k => bE.1 _ _ (by omega))
    have p25' : (25 : Int32) = nI 25 := by decide
    rw [b1, ob2_s, if_neg (by decide), b3, p25', nI_add, inb_nI (by omega), oG_d (by omega), oL_d, ix_nI (by omega)]
    have lE : EqR g1 (sI g1 273 (25 + va b L (tbg b L (px b L (en b L q) 0))) 0) := EqR.sI (by omega)
    refine TKS.good (fun j hj => ?_) (b2.eqt (sI_o (by omega)) (sI_o (by omega)) (sI_o (by omega)) (sI_o (by omega))) ⟨rfl, rfl, ?_⟩ ((a3.eqr.tr bE.eqr).tr lE)
    · have hj3 : j < 1 := hj
      rw [show j = 0 by omega]; exact n0
    · exact sI_up hA3.2.2
theorem m_takesDo {T : Nat → Int32} {q : Nat} (ht : TM b L h) (hT : WfU T 112) (hA : ArR 273 112 T h) (hq : q ≤ L) (hk : TK b L q h) : TKS b L 4 (tn T 0) q T h (fX9_takesDo 262 h) := by
  have hen := (en_le (b := b) hq).2
  obtain ⟨g, a1, a2, a3⟩ := m_behind ht hq hk
  have htg := ht.eqr a3.eqr
  have hAg : ArR 273 112 T g := hA.eqv (fun k => a3.1 _ _ (by omega))
  have e1 : (0 : Int32) = nI 0 ∧ (0 : Int32) = nI (loN 4 0) ∧ (29 : Int32) = nI (hiN 4 0 (tn T 0)) - 1 := ⟨by decide, by decide, by show _ = nI 30 - 1; decide⟩
  obtain ⟨t1, f1⟩ := m_takes (W := 4) (sh := tn T 0) (p := en b L q) (i := 0) htg hen (by omega) a2 (by show 30 ≤ 100; omega)
  have i1 : inb (0 : Int32) 3 = true := by decide
  have x0 : ix (0 : Int32) = 0 := by decide
  have e0 : fX9_takesDo 262 h = ob2 (fX9_takes 262 (nI 0) (nI (loN 4 0)) (nI (hiN 4 0 (tn T 0)) - 1) g) fun v5 h4 => if v5 = 0 then some ((0 : Int32), h4) else ob2 (fX9_goDoing 273 (hI h4 274 0) h4) fun v8 h7 => if v8 < 0 then some ((0 : Int32), h7) else some ((1 : Int32), h7) := by
    unfold fX9_takesDo
    rw [a1, ob_s, q218, q218s, i1, q217, ← e1.2.1, ← e1.2.2, x0]
    rfl
  rw [e0]
  cases n0 : nk b L 4 (tn T 0) (en b L q) 0 with
  | false =>
    rw [f1 n0, ob2_s, if_pos rfl]
    exact TKS.bad (by decide) n0 (fun j hj => by omega) a2.1 a3.eqr
  | true =>
    obtain ⟨g1, b1, b2, b3, bE⟩ := t1 n0
    have hv : va b L (tbg b L (px b L (en b L q) 0)) < 30 := nk_v n0
    have hA3 : ArR 273 112 T g1 := hAg.eqv (fun k => bE.1 _ _ (by omega))
    obtain ⟨g4, l1, l2, lE⟩ := m_doing hT (show 46 ≤ 112 by omega) hA3 (by omega) hv
    have hwl := who_lt hT (show 46 ≤ 112 by omega) (cell := va b L (tbg b L (px b L (en b L q) 0))) (set := onT T) (t := tn T 13 % 12)
    rw [b1, ob2_s, if_neg (by decide), b3, l1, ob2_s, if_neg (by rw [p0, p_lt (by omega) (by omega)]; omega)]
    refine TKS.good (fun j hj => ?_) (b2.eqt (lE.1 _ _ (by omega) (by omega)) (lE.1 _ _ (by omega) (by omega)) (lE.1 _ _ (by omega) (by omega)) (lE.1 _ _ (by omega) (by omega))) l2 ((a3.eqr.tr bE.eqr).tr ⟨fun a k r => lE.1 _ _ (by omega) (by omega), lE.2.1, lE.2.2⟩)
    have hj3 : j < 1 := hj
    rw [show j = 0 by omega]; exact n0
theorem m_takesRest {T : Nat → Int32} {q : Nat} (ht : TM b L h) (hT : WfU T 112) (hA : ArR 273 112 T h) (hq : q ≤ L) (hk : TK b L q h) : TKS b L 5 (tn T 0) q T h (fX9_takesRest 262 h) := by
  have hen := (en_le (b := b) hq).2
  have n13 := wf_13 hT (show 46 ≤ 112 by omega)
  obtain ⟨g, a1, a2, a3⟩ := m_behind ht hq hk
  have htg := ht.eqr a3.eqr
  have hAg : ArR 273 112 T g := hA.eqv (fun k => a3.1 _ _ (by omega))
  have e1 : (0 : Int32) = nI 0 ∧ (1 : Int32) = nI (loN 5 0) ∧ (99 : Int32) = nI (hiN 5 0 (tn T 0)) - 1 := ⟨by decide, by decide, by show _ = nI 100 - 1; decide⟩
  obtain ⟨t1, f1⟩ := m_takes (W := 5) (sh := tn T 0) (p := en b L q) (i := 0) htg hen (by omega) a2 (by show 100 ≤ 100; omega)
  have i1 : inb (0 : Int32) 3 = true := by decide
  have x0 : ix (0 : Int32) = 0 := by decide
  have e0 : fX9_takesRest 262 h = ob2 (fX9_takes 262 (nI 0) (nI (loN 5 0)) (nI (hiN 5 0 (tn T 0)) - 1) g) fun v5 h4 => if v5 = 0 then some ((0 : Int32), h4) else ob (fX9_goRest 273 (hI h4 274 0) h4) fun h7 => some ((1 : Int32), h7) := by
    unfold fX9_takesRest
    rw [a1, ob_s, q218, q218s, i1, q217, ← e1.2.1, ← e1.2.2, x0]
    rfl
  rw [e0]
  cases n0 : nk b L 5 (tn T 0) (en b L q) 0 with
  | false =>
    rw [f1 n0, ob2_s, if_pos rfl]
    exact TKS.bad (by decide) n0 (fun j hj => by omega) a2.1 a3.eqr
  | true =>
    obtain ⟨g1, b1, b2, b3, bE⟩ := t1 n0
    have hv : va b L (tbg b L (px b L (en b L q) 0)) < 100 := nk_v n0
    have hA3 : ArR 273 112 T g1 := hAg.eqv (fun k => bE.1 _ _ (by omega))
    have r13 := (hA3.2.2 13 (by omega)).trans n13.1
    have p13 : (13 : Int32) = nI 13 := by decide
    have hgr : fX9_goRest 273 (nI (va b L (tbg b L (px b L (en b L q) 0)))) g1 = some (sI g1 273 13 (nI (min 9999 (tn T 13 + va b L (tbg b L (px b L (en b L q) 0)))))) := by
      unfold fX9_goRest fX9_goRest_27
      rw [q217s, p13, inb_nI (by omega), oG_d (by omega), ix_nI (by omega), r13, nI_add, p9999]
      by_cases e : tn T 13 + va b L (tbg b L (px b L (en b L q) 0)) ≤ 9999
      · rw [if_pos (by rw [p_le (by omega) (by omega)]; exact e), oG_d (by omega), oG_d (by omega), oL_d, show min 9999 (tn T 13 + va b L (tbg b L (px b L (en b L q) 0))) = tn T 13 + va b L (tbg b L (px b L (en b L q) 0)) by omega]
      · rw [if_neg (by rw [p_le (by omega) (by omega)]; exact e), oG_d (by omega), oL_d, show min 9999 (tn T 13 + va b L (tbg b L (px b L (en b L q) 0))) = 9999 by omega]
    rw [b1, ob2_s, if_neg (by decide), b3, hgr, ob_s]
    have lE : EqR g1 (sI g1 273 13 (nI (min 9999 (tn T 13 + va b L (tbg b L (px b L (en b L q) 0)))))) := EqR.sI (by omega)
    refine TKS.good (fun j hj => ?_) (b2.eqt (sI_o (by omega)) (sI_o (by omega)) (sI_o (by omega)) (sI_o (by omega))) ⟨rfl, rfl, ?_⟩ ((a3.eqr.tr bE.eqr).tr lE)
    · have hj3 : j < 1 := hj
      rw [show j = 0 by omega]; exact n0
    · exact sI_up hA3.2.2
end TAK
