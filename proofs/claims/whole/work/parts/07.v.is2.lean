/-! PURE: is (2) -/
theorem m_kinds {S : ST} {h : AH} (hM : MR S h) (hW : WfS S) {s : Nat} (hs1 : s < 5) : fX9_kindsOf 262 (nI s) h = some (nI (kL (apN (sT S) s) (okN (sT S)) (tn (sT S) 3))) := by
  obtain ⟨N, hN⟩ : ∃ N : Nat, N = 6 := ⟨6, rfl⟩
  rw [← kL_kR, ← hN]
  unfold fX9_kindsOf
  refine run_loop (fun n (x : Int32 × Int32) => fX9_kindsOf_4 h n 262 (nI s) x.1 x.2) (fun i => (nI (kR (apN (sT S) s) (okN (sT S)) (tn (sT S) 3) i), nI i)) N _ (fun n i hi => ?_) (fun n => ?_) FU (FU_lt (by omega))
  · show fX9_kindsOf_4 h (n + 1) 262 (nI s) (nI (kR (apN (sT S) s) (okN (sT S)) (tn (sT S) 3) i)) (nI i) = fX9_kindsOf_4 h n 262 (nI s) (nI (kR (apN (sT S) s) (okN (sT S)) (tn (sT S) 3) (i + 1))) (nI (i + 1))
    rw [fX9_kindsOf_4, if_neg (by rw [p6, p_le (by omega) (by omega)]; omega), m_kindsI hM hW hs1 (by omega), kR]
    unfold fX9_kindsOf_121
    cases kF (apN (sT S) s) (okN (sT S)) i (tn (sT S) 3) with
    | false =>
      rw [if_pos (show bI false = 0 by decide), oL_d, oL_d, if_neg (by decide), p0, p1, nI_add, p_or, Nat.or_zero]
    | true =>
      rw [if_neg (show ¬ bI true = 0 by decide), oL_d, oL_d, if_pos rfl, p1, nI_add, p_shl (by omega), p_or, Nat.one_mul]
  · show fX9_kindsOf_4 h (n + 1) 262 (nI s) _ (nI N) = _
    rw [fX9_kindsOf_4, if_pos (by rw [hN]; decide)]
theorem op_is : OP_is RR := by
  rintro a1 h ⟨S, hW, hC, hM⟩
  have hT := hW.1
  have n0 := (wf_cnt hT).1.2
  refine GO.out (S := S) (f9 := fun h1 => fX9_is 262 a1 h1) ?_
  unfold fX8_is fX9_is
  simp only [z00, z10]
  refine GO.chk (c_hasShow hT (show 46 ≤ 304 by omega) hC.1.1) (fun h1 hM1 => m_isShow hM1 hW) (fun _ => GO.bad hW hC hM (fun h1 q => rf8 q) (fun h1 => rfl)) (fun b1 => ?_)
  obtain ⟨s, rfl, hs1⟩ := hs_nI (by omega) b1
  refine GO.ask hW hC hM _ ⟨h, by rw [c_kinds hT (hC.1.shR 1 (by omega)) (show s < 5 by omega), ob_s], EqQ.rf⟩ (fun h1 hM1 => ⟨h1, ?_, hM1, Eqs.rf⟩)
  show ob (fX9_kindsOf 262 (nI s) h1) _ = _
  rw [m_kinds hM1 hW (show s < 5 by omega), ob_s]
