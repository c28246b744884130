/-! PURE: land, show, watcher -/
def begT (T : Nat → Int32) : Nat → Int32 := fun k => if k < 112 then 0 else T k
theorem begT_wf {T : Nat → Int32} {m : Nat} (hT : WfU T m) : WfU (begT T) m := by
  intro k hk hb
  by_cases e : k < 112
  · have q : begT T k = nI 0 := if_pos e
    unfold tn
    rw [q, ix_nI (by omega)]
    exact ⟨rfl, Nat.zero_le _⟩
  · have q : begT T k = T k := if_neg e
    unfold tn
    rw [q]
    exact hT k hk hb
theorem m_begin {o n : Nat} {T : Nat → Int32} {h : AH} (hR : ArR o n T h) (hn : 112 ≤ n) : ∃ h1, fX9_begin o h = some h1 ∧ ArR o n (begT T) h1 ∧ EqO o o o h h1 := by
  obtain ⟨hk, hsz, hr⟩ := hR
  unfold fX9_begin
  rw [p0]
  refine run_cnt (fun n (c0 : Int32) (x : AH) => fX9_begin_2 n o c0 x) (fun q x => EqO o o o h x ∧ ∀ k, k < n → hI x o k = if k < q then 0 else T k) 112 _ ?_ ?_ h ⟨EqO.rf, fun k hk => by rw [if_neg (by omega)]; exact hr k hk⟩ FU (FU_lt (by omega))
  · rintro n q hh hq1 ⟨iE, iB⟩
    show ∃ s' : AH, fX9_begin_2 (n + 1) o (nI q) hh = fX9_begin_2 n o (nI (q + 1)) s' ∧ _
    rw [fX9_begin_2]
    simp (disch := omega) only [hsz, p0, p1, p2, p3, p4, p5, p6, p7, p8, p9, p10, p11, p12, p14, p19, p23, p24, p25, p29, p30, p31, p35, p40, p46, p58, p60, p88, p99, p100, p112, p150, p9999, nI_add, nI_mul, ix_nI, p_sub, p_div, p_rem, p_shl, p_shr, p_and, p_or, inb_nI, p_le, if_neg, decide_eq_true, oG_t, oL_d]
    refine ⟨_, rfl, iE.tr (EqO.sI (by omega)), fun k hk => ?_⟩
    by_cases e : k = q
    · subst e
      rw [sI_e, if_pos (by omega)]
    · rw [sI_n (by omega), iB k hk]
      by_cases e2 : k < q
      · rw [if_pos e2, if_pos (by omega)]; rfl
      · rw [if_neg e2, if_neg (by omega)]
  · rintro n hh ⟨iE, iB⟩
    refine ⟨hh, ?_, ⟨hk, hsz, iB⟩, iE⟩
    show fX9_begin_2 (n + 1) o (nI 112) hh = _
    rw [fX9_begin_2, if_pos (by decide)]
theorem op_land : OP_land RR := by
  rintro h ⟨S, hW, hC, hM⟩
  have hT := hW.1
  have w := wf_cnt hT
  have hq := hC.2.2.2.1.1
  have z11' : PC 1 1 = 10 := rfl
  have t0 : tn (begT (sT S)) 0 = 0 := rfl
  have t1 : tn (begT (sT S)) 1 = 0 := rfl
  have t5 : tn (begT (sT S)) 5 = 0 := rfl
  have t2 : tn (begT (sT S)) 2 = 0 := rfl
  have t3 : tn (begT (sT S)) 3 = 0 := rfl
  have t4 : tn (begT (sT S)) 4 = 0 := rfl
  refine GO.out (S := S) (f9 := fun h1 => fX9_land 262 h1) ?_
  have he : EqO 1 81 1 h (sI (sI (sI (sI (sI (sI (sI (sI h 2 0 0) 2 1 0) 2 2 0) 2 3 0) 10 1 0) 76 1 0) 78 1 0) 80 1 0) := (EqO.sI (by omega)).tr ((EqO.sI (by omega)).tr ((EqO.sI (by omega)).tr ((EqO.sI (by omega)).tr ((EqO.sI (by omega)).tr ((EqO.sI (by omega)).tr ((EqO.sI (by omega)).tr (EqO.sI (by omega))))))))
  refine GO.act hM (hW.wT (begT_wf hT)) (sT S 1) ⟨sI (sI (sI (sI (sI (sI (sI (sI h 2 0 0) 2 1 0) 2 2 0) 2 3 0) 10 1 0) 76 1 0) 78 1 0) 80 1 0, ?_, hC.cou hW ?_ (hq.eqs fun _ _ => rfl) ?_, ?_⟩ (fun h1 m1 => ?_)
  · unfold fX8_land fX0_makeEmpty fX2_makeEmpty
    simp only [z00, z10, z11', z12, z13, z14, oL_d, ob_s]
    rw [hC.1.1.2.2.2.2.1]
  · refine ⟨⟨rfl, ?_, ?_, ?_, ?_, fun s q => by rw [t0] at q; omega, fun s q => by rw [t1] at q; omega⟩, ?_, fun s q => by rw [t5] at q; omega, ?_, fun s q => by rw [t2] at q; omega, ?_, fun s q => by rw [t3] at q; omega, ?_, fun s q => by rw [t4] at q; omega⟩ <;> simp (disch := omega) only [sI_n, sI_e] <;> rfl
  · exact fun o k q r => ⟨he.1 _ _ (by omega) (by omega), he.2.1 _ _, he.2.2 _ _⟩
  · exact he.eqs (by omega) (by omega)
  · obtain ⟨g, r1, a1, E1⟩ := m_begin (n := 304) m1.1 (by omega)
    refine ⟨g, ?_, m1.row a1.2.2 E1.eqn, E1.eqs (by omega) (by omega)⟩
    show fX9_land 262 h1 = _
    unfold fX9_land
    rw [m_manyW m1 hW, ob_s, q20, r1, ob_s, w.2.1.1]
/-- a show more; a watcher more -/
def shT (T : Nat → Int32) (k c l : Int32) : Nat → Int32 := up1 (up1 (up1 (up1 (up1 T (30 + tn T 0) k) (14 + tn T 0) c) (35 + tn T 0) l) (25 + tn T 0) 1) 0 (nI (tn T 0 + 1))
def waT (T : Nat → Int32) (k c : Int32) : Nat → Int32 := up1 (up1 (up1 (up1 T (40 + tn T 1) k) (19 + tn T 1) c) (6 + tn T 1) 0) 1 (nI (tn T 1 + 1))
theorem WfU.upx {T : Nat → Int32} {m k : Nat} {v : Int32} (hT : WfU T m) (hv : HB k = 10000) : WfU (up1 T k v) m := by
  intro a ha hb
  by_cases h : a = k
  · subst h; omega
  · have e : up1 T k v a = T a := up1_n h
    unfold tn
    rw [e]
    exact hT a ha hb
theorem shT_wf {T : Nat → Int32} {m : Nat} (hT : WfU T m) (hs1 : tn T 0 < 5) {k c l : Nat} (hk : k < 6) (hc : c < 30) (hl : l < 10) : WfU (shT T (nI k) (nI c) (nI l)) m := by
  obtain ⟨b1, b2, b3, b4⟩ := hb_stands _ hs1
  unfold shT
  rw [p1]
  exact ((((hT.up (by omega) (by omega)).up (by omega) (by omega)).up (by omega) (by omega)).up (by omega) (by omega)).up (by show _ ≤ 5; omega) (by omega)
theorem hb_know : ∀ w, w < 6 → HB (6 + w) = 10000 := by decide +kernel
theorem waT_wf {T : Nat → Int32} {m : Nat} (hT : WfU T m) (hs1 : tn T 1 < 6) {k c : Nat} (hk : k < 6) (hc : c < 30) : WfU (waT T (nI k) (nI c)) m := by
  obtain ⟨b1, b2⟩ := hb_at _ hs1
  have b3 := hb_know _ hs1
  unfold waT
  exact (((hT.up (by omega) (by omega)).up (by omega) (by omega)).upx b3).up (by show _ ≤ 6; omega) (by omega)
theorem c_addShow {la : Nat} {T : Nat → Int32} {h : AH} {m : Nat} {k c l : Int32} (hT : WfU T m) (hm : 46 ≤ m) (hR : LaR la T h) (hs1 : tn T 0 < 5) : ∃ h1, fX2_addShow la k c l h = some (nI (tn T 0), h1) ∧ LaR la (shT T k c l) h1 ∧ EqO la (la + 7) la h h1 := by
  have n0 := wf_0 hT hm
  have n1 := wf_1 hT hm
  obtain ⟨hk, a0, a1, a2, a3, hsh, hws⟩ := hR
  obtain ⟨u4, u5, u6, u7, u8, u9, u10⟩ := pcs hk
  have z4 : SZ (la + 1) = 5 := by rw [← u4]; exact sz_X2_4 hk
  have z5 : SZ (la + 2) = 5 := by rw [← u5]; exact sz_X2_5 hk
  have z6 : SZ (la + 3) = 5 := by rw [← u6]; exact sz_X2_6 hk
  have z7 : SZ (la + 4) = 5 := by rw [← u7]; exact sz_X2_7 hk
  have a2' : hI h la 2 = nI (tn T 0) := a2.trans n0.1
  refine ⟨sI (sI (sI (sI (sI h (la + 1) (tn T 0) k) (la + 2) (tn T 0) c) (la + 3) (tn T 0) l) (la + 4) (tn T 0) 1) la 2 (nI (tn T 0 + 1)), ?_, ⟨hk, ?_, ?_, ?_, ?_, fun s q => ?_, fun w q => ?_⟩, (EqO.sI (by omega)).tr ((EqO.sI (by omega)).tr ((EqO.sI (by omega)).tr ((EqO.sI (by omega)).tr (EqO.sI (by omega)))))⟩
  · unfold fX2_addShow
    rw [if_pos (by rw [a2', p5, p_lt (by omega) (by omega)]; exact hs1)]
    simp (disch := omega) only [u4, u5, u6, u7, z4, z5, z6, z7, a2', sI_n, p0, p1, p2, p3, p4, p5, p6, p7, p8, p9, p10, p11, p12, p14, p19, p23, p24, p25, p29, p30, p31, p35, p40, p46, p58, p60, p88, p99, p100, p112, p150, p9999, nI_add, nI_mul, ix_nI, p_sub, p_div, p_rem, p_shl, p_shr, p_and, p_or, inb_nI, decide_eq_true, oG_t, oL_d]
  · rw [sI_n (by omega), sI_o (by omega), sI_o (by omega), sI_o (by omega), sI_o (by omega)]
    unfold shT
    rw [up1_n (by omega), up1_n (by omega), up1_n (by omega), up1_n (by omega), up1_n (by omega)]; exact a0
  · rw [sI_n (by omega), sI_o (by omega), sI_o (by omega), sI_o (by omega), sI_o (by omega)]
    unfold shT
    rw [up1_n (by omega), up1_n (by omega), up1_n (by omega), up1_n (by omega), up1_n (by omega)]; exact a1
  · rw [sI_e]; exact up1_e.symm
  · rw [sI_n (by omega), sI_o (by omega), sI_o (by omega), sI_o (by omega), sI_o (by omega)]
    unfold shT
    rw [up1_n (by omega), up1_n (by omega), up1_n (by omega), up1_n (by omega), up1_n (by omega)]; exact a3
  · have t0 : tn (shT T k c l) 0 = tn T 0 + 1 := by unfold shT; rw [tn_up (by omega), if_pos rfl]
    rw [t0] at q
    rw [u4, u5, u6, u7]
    unfold shT
    by_cases e : s = tn T 0
    · rw [e]
      simp (disch := omega) only [sI_n, sI_e, up1_n, up1_e, and_self]
    · have hh := hsh s (by omega)
      rw [u4, u5, u6, u7] at hh
      simp (disch := omega) only [sI_n, up1_n]
      exact hh
  · have t1 : tn (shT T k c l) 1 = tn T 1 := by
      refine tn_c ?_
      unfold shT
      rw [up1_n (by omega), up1_n (by omega), up1_n (by omega), up1_n (by omega), up1_n (by omega)]
    rw [t1] at q
    have hh := hws w q
    rw [u8, u9, u10] at hh ⊢
    unfold shT
    simp (disch := omega) only [sI_n, up1_n]
    exact hh
theorem c_addWatcher {la : Nat} {T : Nat → Int32} {h : AH} {m : Nat} {k c : Int32} (hT : WfU T m) (hm : 46 ≤ m) (hR : LaR la T h) (hs1 : tn T 1 < 6) : ∃ h1, fX2_addWatcher la k c h = some (nI (tn T 1), h1) ∧ LaR la (waT T k c) h1 ∧ EqO la (la + 7) la h h1 := by
  have n0 := wf_0 hT hm
  have n1 := wf_1 hT hm
  obtain ⟨hk, a0, a1, a2, a3, hsh, hws⟩ := hR
  obtain ⟨u4, u5, u6, u7, u8, u9, u10⟩ := pcs hk
  have z8 : SZ (la + 5) = 6 := by rw [← u8]; exact sz_X2_8 hk
  have z9 : SZ (la + 6) = 6 := by rw [← u9]; exact sz_X2_9 hk
  have z10 : SZ (la + 7) = 6 := by rw [← u10]; exact sz_X2_10 hk
  have a3' : hI h la 3 = nI (tn T 1) := a3.trans n1.1
  refine ⟨sI (sI (sI (sI h (la + 5) (tn T 1) k) (la + 6) (tn T 1) c) (la + 7) (tn T 1) 0) la 3 (nI (tn T 1 + 1)), ?_, ⟨hk, ?_, ?_, ?_, ?_, fun s q => ?_, fun w q => ?_⟩, (EqO.sI (by omega)).tr ((EqO.sI (by omega)).tr ((EqO.sI (by omega)).tr (EqO.sI (by omega))))⟩
  · unfold fX2_addWatcher
    rw [if_pos (by rw [a3', p6, p_lt (by omega) (by omega)]; exact hs1)]
    simp (disch := omega) only [u8, u9, u10, z8, z9, z10, a3', sI_n, p0, p1, p2, p3, p4, p5, p6, p7, p8, p9, p10, p11, p12, p14, p19, p23, p24, p25, p29, p30, p31, p35, p40, p46, p58, p60, p88, p99, p100, p112, p150, p9999, nI_add, nI_mul, ix_nI, p_sub, p_div, p_rem, p_shl, p_shr, p_and, p_or, inb_nI, decide_eq_true, oG_t, oL_d]
  · rw [sI_n (by omega), sI_o (by omega), sI_o (by omega), sI_o (by omega)]
    unfold waT
    rw [up1_n (by omega), up1_n (by omega), up1_n (by omega), up1_n (by omega)]; exact a0
  · rw [sI_n (by omega), sI_o (by omega), sI_o (by omega), sI_o (by omega)]
    unfold waT
    rw [up1_n (by omega), up1_n (by omega), up1_n (by omega), up1_n (by omega)]; exact a1
  · rw [sI_n (by omega), sI_o (by omega), sI_o (by omega), sI_o (by omega)]
    unfold waT
    rw [up1_n (by omega), up1_n (by omega), up1_n (by omega), up1_n (by omega)]; exact a2
  · rw [sI_e]; exact up1_e.symm
  · have t0 : tn (waT T k c) 0 = tn T 0 := by
      refine tn_c ?_
      unfold waT
      rw [up1_n (by omega), up1_n (by omega), up1_n (by omega), up1_n (by omega)]
    rw [t0] at q
    have hh := hsh s q
    rw [u4, u5, u6, u7] at hh ⊢
    unfold waT
    simp (disch := omega) only [sI_n, up1_n]
    exact hh
  · have t1 : tn (waT T k c) 1 = tn T 1 + 1 := by unfold waT; rw [tn_up (by omega), if_pos rfl]
    rw [t1] at q
    rw [u8, u9, u10]
    unfold waT
    by_cases e : w = tn T 1
    · rw [e]
      simp (disch := omega) only [sI_n, sI_e, up1_n, up1_e, and_self]
    · have hh := hws w (by omega)
      rw [u8, u9, u10] at hh
      simp (disch := omega) only [sI_n, up1_n]
      exact hh
theorem sI_up {o n key : Nat} {T : Nat → Int32} {h : AH} {v : Int32} (a : ∀ k, k < n → hI h o k = T k) : ∀ k, k < n → hI (sI h o key v) o k = up1 T key v k := by
  intro k hk
  by_cases e : k = key
  · subst e; rw [sI_e, up1_e]
  · rw [sI_n (fun q => e q.2), up1_n e]; exact a k hk
theorem m_layShow {o n : Nat} {T : Nat → Int32} {h : AH} {m : Nat} {k c l : Int32} (hT : WfU T m) (hm : 46 ≤ m) (hR : ArR o n T h) (hn : 46 ≤ n) (hs1 : tn T 0 < 5) : ∃ h1, fX9_layShow o k c l h = some h1 ∧ ArR o n (shT T k c l) h1 ∧ EqO o o o h h1 := by
  obtain ⟨hk, hsz, hr⟩ := hR
  have r0 := (hr 0 (by omega)).trans (wf_0 hT hm).1
  refine ⟨sI (sI (sI (sI (sI h o (30 + tn T 0) k) o (14 + tn T 0) c) o (35 + tn T 0) l) o (25 + tn T 0) 1) o 0 (nI (tn T 0 + 1)), ?_, ⟨hk, hsz, sI_up (sI_up (sI_up (sI_up (sI_up hr))))⟩, (EqO.sI (by omega)).tr ((EqO.sI (by omega)).tr ((EqO.sI (by omega)).tr ((EqO.sI (by omega)).tr (EqO.sI (by omega)))))⟩
  unfold fX9_layShow
  simp (disch := omega) only [hsz, r0, sI_n, p0, p1, p2, p3, p4, p5, p6, p7, p8, p9, p10, p11, p12, p14, p19, p23, p24, p25, p29, p30, p31, p35, p40, p46, p58, p60, p88, p99, p100, p112, p150, p9999, nI_add, nI_mul, ix_nI, p_sub, p_div, p_rem, p_shl, p_shr, p_and, p_or, inb_nI, decide_eq_true, oG_t, oL_d]
theorem m_layWatcher {o n : Nat} {T : Nat → Int32} {h : AH} {m : Nat} {k c : Int32} (hT : WfU T m) (hm : 46 ≤ m) (hR : ArR o n T h) (hn : 46 ≤ n) (hs1 : tn T 1 < 6) : ∃ h1, fX9_layWatcher o k c h = some h1 ∧ ArR o n (waT T k c) h1 ∧ EqO o o o h h1 := by
  obtain ⟨hk, hsz, hr⟩ := hR
  have r0 := (hr 1 (by omega)).trans (wf_1 hT hm).1
  have q1 : ix (1 : Int32) = 1 := rfl
  refine ⟨sI (sI (sI (sI h o (40 + tn T 1) k) o (19 + tn T 1) c) o (6 + tn T 1) 0) o 1 (nI (tn T 1 + 1)), ?_, ⟨hk, hsz, sI_up (sI_up (sI_up (sI_up hr)))⟩, (EqO.sI (by omega)).tr ((EqO.sI (by omega)).tr ((EqO.sI (by omega)).tr (EqO.sI (by omega))))⟩
  unfold fX9_layWatcher
  simp (disch := omega) only [hsz, r0, sI_n, p0, p1, p2, p3, p4, p5, p6, p7, p8, p9, p10, p11, p12, p14, p19, p23, p24, p25, p29, p30, p31, p35, p40, p46, p58, p60, p88, p99, p100, p112, p150, p9999, nI_add, nI_mul, ix_nI, p_sub, p_div, p_rem, p_shl, p_shr, p_and, p_or, inb_nI, decide_eq_true, oG_t, oL_d]
/-- a show, a watcher comes: nothing may be undone -/
theorem go_more {S : ST} {h g : AH} {f8 : Option (Int32 × AH)} {f9 : AH → Option (Int32 × AH)} {T' : Nat → Int32} {v : Int32} (hW : WfS S) (hC : CR S h) (hM : MR S h) (hT' : WfU T' 304) (e' : ∀ k, ((2 ≤ k ∧ k ≤ 4) ∨ (46 ≤ k ∧ k < 112)) → T' k = sT S k) (e8 : f8 = some (v, g)) (l8 : LaR 2 T' g) (E8 : EqO 2 9 2 (sI h 10 1 0) g) (e9 : ∀ h1, MR S h1 → ∃ h2, f9 h1 = some (v, h2) ∧ (∀ k, k < 304 → hI h2 263 k = up1 T' 5 0 k) ∧ EqO 263 263 263 h1 h2) : GO S f8 f9 := by
  have hT := hW.1
  have w := wf_cnt hT
  have hq := hC.2.2.2.1.1
  have hT2 : WfU (up1 T' 5 (nI 0)) 304 := hT'.up (by omega) (by omega)
  have t5 : tn (up1 T' 5 0) 5 = 0 := by unfold tn; rw [up1_e]; rfl
  have c' := wf_cnt hT'
  refine GO.act hM (hW.wT (T := up1 T' 5 0) hT2) v ⟨g, e8, hC.cou hW ?_ (hq.eqs fun j _ => E8.2.2 _ _) ?_, ?_⟩ (fun h1 m1 => ?_)
  · refine hC.1.la w.2.2.1.2 w.2.2.2.1.2 w.2.2.2.2.1.2 ((Eqs.sI (by omega)).tr (E8.eqs (by omega) (by omega))) (fun k hk => by rw [up1_n (by omega)]; exact e' k hk) ?_ ?_ (fun j hj => by rw [t5] at hj; omega)
    · exact l8.agr c'.1.2 c'.2.1.2 (fun k hk hk2 => up1_n (by omega))
    · rw [E8.1 _ _ (by omega) (by omega), up1_e]; exact sI_e
  · exact fun o k q r => ⟨(E8.1 _ _ (by omega) (by omega)).trans (sI_o (by omega)), E8.2.1 _ _, E8.2.2 _ _⟩
  · exact (Eqs.sI (by omega)).tr (E8.eqs (by omega) (by omega))
  · obtain ⟨h2, r2, r3, r4⟩ := e9 h1 m1
    exact ⟨h2, r2, m1.row r3 r4.eqn, r4.eqs (by omega) (by omega)⟩
theorem shT_n {T : Nat → Int32} {k c l : Int32} {a : Nat} (n0 : tn T 0 ≤ 4) (h : (1 ≤ a ∧ a < 14) ∨ 40 ≤ a) : shT T k c l a = T a := by
  unfold shT
  rw [up1_n (by omega), up1_n (by omega), up1_n (by omega), up1_n (by omega), up1_n (by omega)]
theorem waT_n {T : Nat → Int32} {k c : Int32} {a : Nat} (n1 : tn T 1 ≤ 5) (h : a = 0 ∨ (2 ≤ a ∧ a < 6) ∨ 46 ≤ a) : waT T k c a = T a := by
  unfold waT
  rw [up1_n (by omega), up1_n (by omega), up1_n (by omega), up1_n (by omega)]
theorem op_show : OP_show RR := by
  rintro a1 a2 a3 h ⟨S, hW, hC, hM⟩
  have hT := hW.1
  have w := wf_cnt hT
  have hbad : GO S (fX8_show_21 0 h) (fun h1 => fX9_show_31 262 h1) := GO.bad hW hC hM (fun h1 q => by unfold fX8_show_21; exact rf8 q) (fun h1 => rfl)
  refine GO.out (S := S) (f9 := fun h1 => fX9_show 262 a1 a2 a3 h1) ?_
  unfold fX8_show fX9_show
  simp only [z00, z10, z11]
  refine GO.chk c_isKind (fun h1 hM1 => m05) (fun _ => hbad) (fun b1 => ?_)
  refine GO.chk c_isCell (fun h1 hM1 => m_isCell) (fun _ => hbad) (fun b2 => ?_)
  refine GO.chk c_isLoud (fun h1 hM1 => m19) (fun _ => hbad) (fun b3 => ?_)
  obtain ⟨x, rfl, -, hx⟩ := wi_nI (a := a1) (lo := 0) (hi := 5) (by omega) (by omega) b1
  obtain ⟨y, rfl, -, hy⟩ := wi_nI (a := a2) (lo := 0) (hi := 29) (by omega) (by omega) b2
  obtain ⟨z, rfl, -, hz⟩ := wi_nI (a := a3) (lo := 1) (hi := 9) (by omega) (by omega) b3
  have f2 : hI h 2 2 = nI (tn (sT S) 0) := hC.1.1.2.2.2.1.trans w.1.1
  show GO S (if hI h 2 2 < (5 : Int32) then _ else _) _
  by_cases e : tn (sT S) 0 < 5
  · rw [if_pos (by rw [f2, p5, p_lt (by omega) (by omega)]; exact e), oL_d]
    have hl : LaR 2 (sT S) (sI h 10 1 0) := hC.1.1.eqs (Eqs.sI (by omega))
    obtain ⟨g, r1, l1, E1⟩ := c_addShow (k := nI x) (c := nI y) (l := nI z) hT (show 46 ≤ 304 by omega) hl e
    have hw2 := shT_wf hT e (show x < 6 by omega) (show y < 30 by omega) (show z < 10 by omega)
    refine go_more (v := nI (tn (sT S) 0)) hW hC hM hw2 (fun k hk => shT_n (by omega) (by omega)) (by rw [r1]; rfl) l1 E1 (fun h1 m1 => ?_)
    obtain ⟨g2, r2, l2, E2⟩ := m_layShow (k := nI x) (c := nI y) (l := nI z) hT (show 46 ≤ 304 by omega) m1.1 (by omega) e
    refine ⟨sI g2 263 5 0, ?_, sI_up l2.2.2, E2.tr (EqO.sI (by omega))⟩
    have r0 : hI (sI g2 263 5 (nI 0)) 263 0 = nI (tn (sT S) 0 + 1) := by rw [sI_n (by omega), l2.2.2 0 (by omega)]; exact up1_e
    show ob (fX9_many 262 h1) _ = _
    rw [m_many m1 hW, ob_s]
    unfold fX9_many
    simp (disch := omega) only [q20, q20s, p0, p1, p2, p3, p4, p5, p6, p7, p8, p9, p10, p11, p12, p14, p19, p23, p24, p25, p29, p30, p31, p35, p40, p46, p58, p60, p88, p99, p100, p112, p150, p9999, nI_add, nI_mul, ix_nI, p_sub, p_div, p_rem, p_shl, p_shr, p_and, p_or, inb_nI, p_eq, if_neg, decide_eq_true, oG_t, oL_d, r2, ob_s, r0, Nat.add_sub_cancel]
  · rw [if_neg (by rw [f2, p5, p_lt (by omega) (by omega)]; exact e)]
    refine GO.full hW hC hM (fun h1 q => rf84 q) (fun h1 => rfl) |>.cng rfl (fun h1 m1 => ?_)
    show ob (fX9_many 262 h1) _ = _
    rw [m_many m1 hW, ob_s, show tn (sT S) 0 = 5 by omega, if_pos (by decide)]
    rfl
theorem op_watcher : OP_watcher RR := by
  rintro a1 a2 h ⟨S, hW, hC, hM⟩
  have hT := hW.1
  have w := wf_cnt hT
  have hbad : GO S (fX8_watcher_14 0 h) (fun h1 => fX9_watcher_19 262 h1) := GO.bad hW hC hM (fun h1 q => by unfold fX8_watcher_14; exact rf8 q) (fun h1 => rfl)
  refine GO.out (S := S) (f9 := fun h1 => fX9_watcher 262 a1 a2 h1) ?_
  unfold fX8_watcher fX9_watcher
  simp only [z00, z10, z11]
  refine GO.chk c_isKind (fun h1 hM1 => m05) (fun _ => hbad) (fun b1 => ?_)
  refine GO.chk c_isCell (fun h1 hM1 => m_isCell) (fun _ => hbad) (fun b2 => ?_)
  obtain ⟨x, rfl, -, hx⟩ := wi_nI (a := a1) (lo := 0) (hi := 5) (by omega) (by omega) b1
  obtain ⟨y, rfl, -, hy⟩ := wi_nI (a := a2) (lo := 0) (hi := 29) (by omega) (by omega) b2
  have f2 : hI h 2 3 = nI (tn (sT S) 1) := hC.1.1.2.2.2.2.1.trans w.2.1.1
  show GO S (if hI h 2 3 < (6 : Int32) then _ else _) _
  by_cases e : tn (sT S) 1 < 6
  · rw [if_pos (by rw [f2, p6, p_lt (by omega) (by omega)]; exact e), oL_d]
    have hl : LaR 2 (sT S) (sI h 10 1 0) := hC.1.1.eqs (Eqs.sI (by omega))
    obtain ⟨g, r1, l1, E1⟩ := c_addWatcher (k := nI x) (c := nI y) hT (show 46 ≤ 304 by omega) hl e
    have hw2 := waT_wf hT e (show x < 6 by omega) (show y < 30 by omega)
    refine go_more (v := nI (tn (sT S) 1)) hW hC hM hw2 (fun k hk => waT_n (by omega) (by omega)) (by rw [r1]; rfl) l1 E1 (fun h1 m1 => ?_)
    obtain ⟨g2, r2, l2, E2⟩ := m_layWatcher (k := nI x) (c := nI y) hT (show 46 ≤ 304 by omega) m1.1 (by omega) e
    refine ⟨sI g2 263 5 0, ?_, sI_up l2.2.2, E2.tr (EqO.sI (by omega))⟩
    have r0 : hI (sI g2 263 5 (nI 0)) 263 1 = nI (tn (sT S) 1 + 1) := by rw [sI_n (by omega), l2.2.2 1 (by omega)]; exact up1_e
    show ob (fX9_manyWatchers 262 h1) _ = _
    rw [m_manyW m1 hW, ob_s]
    unfold fX9_manyWatchers
    simp (disch := omega) only [q20, q20s, p0, p1, p2, p3, p4, p5, p6, p7, p8, p9, p10, p11, p12, p14, p19, p23, p24, p25, p29, p30, p31, p35, p40, p46, p58, p60, p88, p99, p100, p112, p150, p9999, nI_add, nI_mul, ix_nI, p_sub, p_div, p_rem, p_shl, p_shr, p_and, p_or, inb_nI, p_eq, if_neg, decide_eq_true, oG_t, oL_d, r2, ob_s, r0, Nat.add_sub_cancel]
  · rw [if_neg (by rw [f2, p6, p_lt (by omega) (by omega)]; exact e)]
    refine GO.full hW hC hM (fun h1 q => rf84 q) (fun h1 => rfl) |>.cng rfl (fun h1 m1 => ?_)
    show ob (fX9_manyWatchers 262 h1) _ = _
    rw [m_manyW m1 hW, ob_s, show tn (sT S) 1 = 6 by omega, if_pos (by decide)]
    rfl
