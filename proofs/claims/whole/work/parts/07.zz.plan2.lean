/-! PURE: plan (2) -/
theorem m_45 {P : Option (Int32 × AH) → Prop} {k84 : Nat → Int32 → Int32 → Int32 → Int32 → AH → Option (Int32 × AH)} {S : ST} {g : AH} {n k : Nat} {x2 x4 : Int32} {gk : Nat → Nat} (hM : MR S g) (hW : WfS S) (hn : n ≤ 4) (hk : k < n) (hg : hI g 268 k = nI (gk k) ∧ gk k < 30) (hP : ∀ g', EqO 269 269 269 g g' → (∀ t, t < 24 → hI g' 269 (24 * k + t) = bI (opn (sT S) (gk k) t)) → (∀ j, j < 24 * k → hI g' 269 j = hI g 269 j) → P (k84 262 x2 (nI n) x4 (nI k) g')) : P (fX9_plan_45 k84 FU 262 x2 (nI n) x4 (nI k) (nI 0) g) := by
  refine run_rel (fun m (x : Int32 × AH) => fX9_plan_45 k84 m 262 x2 (nI n) x4 (nI k) x.1 x.2) (fun i x => x.1 = nI i ∧ EqO 269 269 269 g x.2 ∧ (∀ t, t < i → hI x.2 269 (24 * k + t) = bI (opn (sT S) (gk k) t)) ∧ ∀ j, j < 24 * k → hI x.2 269 j = hI g 269 j) 24 P ?_ ?_ (nI 0, g) ⟨rfl, EqO.rf, fun t ht => absurd ht (Nat.not_lt_zero t), fun _ _ => rfl⟩ FU (FU_lt (by omega))
  · rintro m i ⟨s1, g1⟩ hi ⟨i1, i2, i3, i4⟩
    simp only at i1 i2 i3 i4
    subst i1
    have hM1 : MR S g1 := hM.eqm (EqO.m 269 269 (by omega) (by omega) (by omega) i2)
    refine ⟨(nI (i + 1), sI g1 269 (24 * k + i) (bI (opn (sT S) (gk k) i))), ?_, rfl, i2.tr (EqO.sI (by omega)), fun t ht => ?_, fun j hj => ?_⟩
    · show fX9_plan_45 k84 (m + 1) 262 x2 (nI n) x4 (nI k) (nI i) g1 = fX9_plan_45 k84 m 262 x2 (nI n) x4 (nI k) (nI (i + 1)) (sI g1 269 (24 * k + i) (bI (opn (sT S) (gk k) i)))
      rw [fX9_plan_45, p24, if_neg (by rw [p_le (by omega) (by omega)]; omega), q27, q27s, inb_nI (by omega), oG_d (by omega), ix_nI (by omega), i2.1 268 k (by omega) (by omega), hg.1, m_unseenIn hM1 hW hg.2 hi, ob_s, q28, q28s, nI_mul, nI_add, inb_nI (by omega), oG_d (by omega), oG_of (bI_B _), oL_d, ix_nI (by omega), p1, nI_add, oL_d]
    · show hI (sI g1 269 (24 * k + i) (bI (opn (sT S) (gk k) i))) 269 (24 * k + t) = _
      by_cases e : t = i
      · rw [e, sI_e]
      · rw [sI_n (by omega)]; exact i3 t (by omega)
    · show hI (sI g1 269 (24 * k + i) (bI (opn (sT S) (gk k) i))) 269 j = _
      rw [sI_n (by omega)]; exact i4 j hj
  · rintro m ⟨s1, g1⟩ ⟨i1, i2, i3, i4⟩
    simp only at i1 i2 i3 i4
    subst i1
    show P (fX9_plan_45 k84 (m + 1) 262 x2 (nI n) x4 (nI k) (nI 24) g1)
    rw [fX9_plan_45, if_pos (by decide)]
    exact hP g1 i2 i3 i4
theorem m_free {S : ST} {h : AH} {n : Nat} {a2 : Int32} {gk : Nat → Nat} (hM : MR S h) (hW : WfS S) (hn : n ≤ 4) (hg : ∀ k, k < n → hI h 268 k = nI (gk k) ∧ gk k < 30) : ∃ h2, fX9_plan_29 FU 262 a2 (nI n) (nI 1) (nI 0) h = fX9_plan_97 FU 262 a2 (nI n) (nI (24 ^ n)) (nI 1000000) (nI 0) h2 ∧ EqO 269 269 269 h h2 ∧ FrH (fun k => opS (sT S) (gk k) 24) n h2 := by
  refine run_rel (fun m (x : Int32 × Int32 × AH) => fX9_plan_29 m 262 a2 (nI n) x.1 x.2.1 x.2.2) (fun i x => x.1 = nI (24 ^ i) ∧ x.2.1 = nI i ∧ EqO 269 269 269 h x.2.2 ∧ FrH (fun k => opS (sT S) (gk k) 24) i x.2.2) n (fun R => ∃ h2, R = fX9_plan_97 FU 262 a2 (nI n) (nI (24 ^ n)) (nI 1000000) (nI 0) h2 ∧ EqO 269 269 269 h h2 ∧ FrH (fun k => opS (sT S) (gk k) 24) n h2) ?_ ?_ (nI 1, nI 0, h) ⟨rfl, rfl, EqO.rf, fun k hk => absurd hk (Nat.not_lt_zero k)⟩ FU (FU_lt (by omega))
  · rintro m i ⟨s1, s2, g⟩ hi ⟨i1, i2, i3, i4⟩
    simp only at i1 i2 i3 i4
    subst i1; subst i2
    have hM1 : MR S g := hM.eqm (EqO.m 269 269 (by omega) (by omega) (by omega) i3)
    have hgi : hI g 268 i = nI (gk i) ∧ gk i < 30 := ⟨by rw [i3.1 268 i (by omega) (by omega)]; exact (hg i hi).1, (hg i hi).2⟩
    show ∃ s', fX9_plan_29 (m + 1) 262 a2 (nI n) (nI (24 ^ i)) (nI i) g = _ ∧ _
    rw [fX9_plan_29, if_neg (by rw [p_le (by omega) (by omega)]; omega), p24, nI_mul, ← Nat.pow_succ, oL_D, p0]
    refine m_45 (P := fun R => ∃ s' : Int32 × Int32 × AH, R = fX9_plan_29 m 262 a2 (nI n) s'.1 s'.2.1 s'.2.2 ∧ s'.1 = nI (24 ^ (i + 1)) ∧ s'.2.1 = nI (i + 1) ∧ EqO 269 269 269 h s'.2.2 ∧ FrH (fun k => opS (sT S) (gk k) 24) (i + 1) s'.2.2) (gk := gk) hM1 hW hn hi hgi (fun g' w1 w2 w3 => ?_)
    refine ⟨(nI (24 ^ (i + 1)), nI (i + 1), g'), ?_, rfl, rfl, i3.tr w1, fun k hk t ht => ?_⟩
    · rw [p1, nI_add, oL_D]
    · show hI g' 269 (24 * k + t) = bI ((opS (sT S) (gk k) 24).testBit t)
      by_cases e : k = i
      · rw [e, w2 t ht, opS_bit 24 t ht]
      · rw [w3 _ (by omega)]; exact i4 k (by omega) t ht
  · rintro m ⟨s1, s2, g⟩ ⟨i1, i2, i3, i4⟩
    simp only at i1 i2 i3 i4
    subst i1; subst i2
    refine ⟨g, ?_, i3, i4⟩
    show fX9_plan_29 (m + 1) 262 a2 (nI n) (nI (24 ^ n)) (nI n) g = _
    rw [fX9_plan_29, if_pos (by rw [p_le (by omega) (by omega)]; exact Nat.le_refl _)]
    unfold fX9_plan_90
    rw [pM, p0]
theorem mid_nI {a : Int32} {n : Nat} (hn : n ≤ 4) (h1 : (-1 : Int32) ≤ a) (h2 : ¬ a = -1) (h3 : ¬ nI n ≤ a) : ∃ i, a = nI i ∧ i < n := by
  have e1 := Int32.le_iff_toInt_le.mp h1
  rw [show (-1 : Int32).toInt = -1 by decide] at e1
  have e2 : ¬ a.toInt = -1 := fun q => h2 (Int32.toInt_inj.mp (by rw [q]; decide))
  have e3 : ¬ (n : Int) ≤ a.toInt := fun q => h3 (Int32.le_iff_toInt_le.mpr (by rw [nI_toInt (by omega)]; exact q))
  refine ⟨a.toInt.toNat, Int32.toInt_inj.mp ?_, by omega⟩
  rw [nI_toInt (by omega)]
  omega
theorem op_plan : OP_plan RR := by
  rintro a1 a2 h ⟨S, hW, hC, hM⟩
  have hT := hW.1
  have hLa : LaR 2 (sT S) h := hC.1.1
  have hbad : GO S (fX8_plan_14 0 h) (fun h1 => fX9_plan_16 262 h1) := GO.bad (v := (-10 : Int32)) hW hC hM (fun h1 q => by unfold fX8_plan_14; rw [q]; rfl) (fun h1 => rfl)
  refine GO.out (S := S) (f9 := fun h1 => fX9_plan 262 a1 a2 h1) ?_
  rcases cells_all a1 with ⟨c1, c2⟩ | ⟨a, n, n0, n4, ha, rfl, c1, c2, hd⟩
  · refine hbad.cng ?_ (fun h1 m1 => ?_)
    · unfold fX8_plan; rw [c1, ob_S, if_pos rfl]
    · show fX9_plan 262 a1 a2 h1 = _
      unfold fX9_plan; rw [c2 h1, ob2_S, if_pos rfl]
  · -- the model's goals
    have hdw : dw n = nI (n - 1) := by
      obtain ⟨n, rfl⟩ : ∃ m, n = m + 1 := ⟨n - 1, by omega⟩
      rfl
    have goals : ∀ h1, MR S h1 → ∃ h2, fX9_layGoals 262 (nI a) h1 = some (nI n, h2) ∧ MR S h2 ∧ EqO 268 268 268 h1 h2 ∧ ∀ k, k < n → hI h2 268 k = nI (gkf n a k) ∧ gkf n a k < 30 := by
      intro h1 m1
      obtain ⟨h2, r1, r2, r3, -⟩ := m_goals n0 n4 ha hd n (Nat.le_refl _) FU (FU_lt (by omega)) h1
      rw [Nat.sub_self, Nat.pow_zero, Nat.div_one, hdw] at r1
      refine ⟨h2, ?_, m1.eqm (EqO.m 268 268 (by omega) (by omega) (by omega) r2), r2, fun k hk => ⟨r3 k hk, ?_⟩⟩
      · rw [c2 h1]
        unfold fX9_layGoals_43
        rw [p1, p_sub (by omega), oL_D]
        exact r1
      · have := hd k hk
        unfold gkf
        omega
    have hnm : ¬ nI n = (-1 : Int32) := n_neg (by omega)
    have hn00 : ¬ nI n = (0 : Int32) := by rw [p0, p_eq (by omega) (by omega)]; omega
    by_cases hm1 : (-1 : Int32) ≤ a2
    · -- the class's course
      obtain ⟨h8, t1, t2, t3, t4, -⟩ := c_fill (a2 := a2) hT hLa n4 ha hd n (Nat.le_refl _) FU (FU_lt (by omega)) (sI h 97 1 (nI n)) (EqQ.sI (by omega) (by omega) (by omega) (by omega))
      rw [Nat.sub_self, Nat.pow_zero, Nat.div_one, hdw] at t1
      have e8 : fX8_plan 0 (nI a) a2 h = fX8_plan_89 0 a2 (nI n) h8 := by
        unfold fX8_plan
        rw [c1, ob_S, if_neg hn00, if_pos hm1, z06, oL_D, p1, p_sub (by omega), oL_D]
        exact t1
      have hP : PlC (fun k => opS (sT S) (gkf n a k) 24) n h8 := ⟨n4, by rw [t3 1, sI_e], fun k hk => ⟨t4 k hk, opS_lt 24⟩⟩
      have e9 : ∀ h1, MR S h1 → ∃ so h2, fX9_plan 262 (nI a) a2 h1 = fX9_plan_171 262 a2 (nI n) (nI so) h2 ∧ MR S h2 ∧ Eqs 0 261 h1 h2 ∧ so ≤ 1000000 ∧ InvC (fun k => opS (sT S) (gkf n a k) 24) n so h2 (24 ^ n) := by
        intro h1 m1
        obtain ⟨h2, g1, g2, g3, g4⟩ := goals h1 m1
        obtain ⟨h3, u1, u2, u3⟩ := m_free (a2 := a2) (gk := gkf n a) g2 hW n4 g4
        obtain ⟨so, h4, w1, w2, w3, w4⟩ := m_codes (a2 := a2) n0 n4 u3
        refine ⟨so, h4, ?_, (g2.eqm (EqO.m 269 269 (by omega) (by omega) (by omega) u2)).eqm (EqO.m 270 271 (by omega) (by omega) (by omega) w2), (g3.eqs (by omega) (by omega)).tr ((u2.eqs (by omega) (by omega)).tr (w2.eqs (by omega) (by omega))), w3, w4⟩
        unfold fX9_plan
        rw [g1, ob2_S, if_neg hnm, if_pos hm1, p1, p0, u1, w1]
      generalize hA : (fun k => opS (sT S) (gkf n a k) 24) = A at hP e9
      by_cases hs24 : sLa A n < 24
      · obtain ⟨y1, y2, y3, y4⟩ := sLa_good hs24
        -- what the model finds
        have fnd : ∀ so h2, so ≤ 1000000 → InvC A n so h2 (24 ^ n) → so = sLa A n + 1 ∧ ∀ k, k < n → hI h2 271 k = nI (gsp A n (sLa A n) k) := by
          intro so h2 _ hi
          rcases hi with ⟨-, q⟩ | ⟨b, b1, b2, b3, b4, b5, b6⟩
          · exact absurd y3 (q _ y2)
          · have x1 := b5 _ y2 y3
            have x2 := (gC_soon n0 b2).1
            refine ⟨by omega, fun k hk => ?_⟩
            rw [b4 k hk, first_is hs24 b1 b2 (by omega) (fun c' hc hg => by rw [← b3]; exact b6 c' hc hg) k hk]
        have r8 : fX8_plan 0 (nI a) a2 h = if a2 = (-1 : Int32) then some (nI (sLa A n + 1), h8) else if nI n ≤ a2 then some ((-5 : Int32), h8) else ob (fX4_stepOf 97 a2 (nI (sLa A n)) h8) fun v11 => some (v11, h8) := by
          rw [e8]
          unfold fX8_plan_89
          rw [z06, c_soonest hP, ob_S, if_pos hs24, if_neg (n_neg (by omega)), show nI (sLa A n) + (1 : Int32) = nI (sLa A n + 1) by rw [p1, nI_add]]
        have r9 : ∀ h1, MR S h1 → ∃ h2, MR S h2 ∧ Eqs 0 261 h1 h2 ∧ (∀ k, k < n → hI h2 271 k = nI (gsp A n (sLa A n) k)) ∧ fX9_plan 262 (nI a) a2 h1 = if a2 = (-1 : Int32) then some (nI (sLa A n + 1), h2) else if nI n ≤ a2 then some ((-5 : Int32), h2) else oG (inb a2 (SZ (PC 262 10))) (some ((hI h2 (PC 262 10) (ix a2)), h2)) := by
          intro h1 m1
          obtain ⟨so, h2, f1, f2, f3, f4, f5⟩ := e9 h1 m1
          obtain ⟨f6, f7⟩ := fnd so h2 f4 f5
          refine ⟨h2, f2, f3, f7, ?_⟩
          rw [f1, f6]
          unfold fX9_plan_171
          rw [if_neg (by rw [pM, p_eq (by omega) (by omega)]; omega)]
        by_cases em : a2 = (-1 : Int32)
        · refine GO.ask hW hC hM (nI (sLa A n + 1)) ⟨h8, by rw [r8, if_pos em], t2⟩ (fun h1 m1 => ?_)
          obtain ⟨h2, f1, f2, -, f3⟩ := r9 h1 m1
          exact ⟨h2, by rw [f3, if_pos em], f1, f2⟩
        · by_cases en : nI n ≤ a2
          · refine GO.ask hW hC hM (-5) ⟨h8, by rw [r8, if_neg em, if_pos en], t2⟩ (fun h1 m1 => ?_)
            obtain ⟨h2, f1, f2, -, f3⟩ := r9 h1 m1
            exact ⟨h2, by rw [f3, if_neg em, if_pos en], f1, f2⟩
          · obtain ⟨i, rfl, hi⟩ := mid_nI n4 hm1 em en
            refine GO.ask hW hC hM (nI (gsp A n (sLa A n) i)) ⟨h8, ?_, t2⟩ (fun h1 m1 => ?_)
            · rw [r8, if_neg em, if_neg en, c_stepOf hP hi hs24 y1, ob_S]
              rfl
            · obtain ⟨h2, f1, f2, f4, f3⟩ := r9 h1 m1
              refine ⟨h2, ?_, f1, f2⟩
              rw [f3, if_neg em, if_neg en, q2a, q2as, inb_nI (by omega), oG_d (by omega), ix_nI (by omega), f4 i hi]
      · refine GO.ask hW hC hM (-1) ⟨h8, ?_, t2⟩ (fun h1 m1 => ?_)
        · rw [e8]
          unfold fX8_plan_89
          rw [z06, c_soonest hP, ob_S, if_neg hs24, if_pos rfl]
        · obtain ⟨so, h2, f1, f2, f3, f4, f5⟩ := e9 h1 m1
          have hso : so = 1000000 := by
            rcases f5 with ⟨q, -⟩ | ⟨b, b1, b2, -⟩
            · exact q
            · exact absurd (gC_soon n0 b2).2 hs24
          refine ⟨h2, ?_, f2, f3⟩
          rw [f1, hso]
          unfold fX9_plan_171
          rw [if_pos (show nI 1000000 = (1000000 : Int32) from pM.symm)]
    · -- an i that is none
      obtain ⟨h1, r1, hC1, he1⟩ := c_refuse hW hC (v := -2) (i := 0) (Or.inl ⟨rfl, rfl⟩)
      have hM1 := hM.eqs (he1.sub (by omega) (by omega))
      obtain ⟨h2, g1, g2, g3, -⟩ := goals h1 hM1
      obtain ⟨hM2, he2⟩ := m_ref g2 0 (by omega)
      refine ⟨(-10 : Int32), h1, _, ?_, hM1, ?_, RR.go (hW.bump 0) hC1 hM2 ((g3.eqs (by omega) (by omega)).tr he2)⟩
      · unfold fX8_plan
        rw [c1, ob_S, if_neg hn00, if_neg hm1]
        unfold fX8_plan_14
        rw [r1]
        rfl
      · show fX9_plan 262 (nI a) a2 h1 = _
        unfold fX9_plan
        rw [g1, ob2_S, if_neg hnm, if_neg hm1]
        unfold fX9_plan_16
        rw [m_bad]
        rfl
