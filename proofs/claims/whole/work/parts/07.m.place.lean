/-! PURE: a show put elsewhere -/
def wth (T : Nat → Int32) (s c : Nat) : Nat → Int32 := up1 (up1 T (25 + s) 1) (14 + s) (nI c)
def clr (a s : Nat) : Nat := if a.testBit s = true then a - 2 ^ s else a
theorem c_clr : ∀ a, a < 32 → ∀ s, s < 5 → nI a &&& (jshl (nI 1) (nI s) ^^^ (-nI 1)) = nI (clr a s) := by decide +kernel
theorem clr_bit : ∀ a, a < 32 → ∀ s, s < 5 → ∀ j, j < 5 → (clr a s).testBit j = (a.testBit j && !decide (j = s)) := by decide +kernel
theorem clr_lt : ∀ a, a < 32 → ∀ s, s < 5 → clr a s < 32 := by decide +kernel
section WTH
variable {T : Nat → Int32} {m s c : Nat}
theorem tn_up {f : Nat → Int32} {k v a : Nat} (hv : v < 2147483648) : tn (up1 f k (nI v)) a = if a = k then v else tn f a := by
  unfold tn up1
  by_cases h : a = k
  · rw [if_pos h, if_pos h, ix_nI hv]
  · rw [if_neg h, if_neg h]
theorem wth_tn (hc : c < 30) {a : Nat} : tn (wth T s c) a = if a = 14 + s then c else if a = 25 + s then 1 else tn T a := by
  unfold wth
  rw [tn_up (by omega), p1, tn_up (by omega)]
theorem WfU.up {k v : Nat} (hT : WfU T m) (hv : v ≤ HB k) (hv2 : v < 2147483648) : WfU (up1 T k (nI v)) m := by
  intro a ha hb
  rw [tn_up hv2]
  by_cases h : a = k
  · subst h
    rw [up1_e, if_pos rfl]
    exact ⟨rfl, hv⟩
  · rw [up1_n h, if_neg h]
    exact hT a ha hb
theorem wth_wf (hT : WfU T m) (hs1 : s < 5) (hc : c < 30) : WfU (wth T s c) m := by
  obtain ⟨h1, h2, -, -⟩ := hb_stands s hs1
  unfold wth
  rw [p1]
  exact (hT.up (by omega) (by omega)).up (by omega) (by omega)
theorem gp_cp (T : Nat → Int32) (set c t n : Nat) : gp T set c t (n + 1) = max (gp T set c t n) (cp T set c t n) := rfl
theorem gp_one {T T' : Nat → Int32} {set set' c t s : Nat} : ∀ n, (∀ j, j < n → j ≠ s → cp T' set' c t j = cp T set c t j) → (s < n → cp T set c t s = 0) → gp T' set' c t n = if s < n then max (gp T set c t n) (cp T' set' c t s) else gp T set c t n := by
  intro n
  induction n with
  | zero => intro _ _; rw [if_neg (by omega)]; rfl
  | succ n ih =>
    intro h1 h2
    have ih' := ih (fun j hj => h1 j (by omega)) (fun q => h2 (by omega))
    rw [gp_cp, gp_cp, ih']
    by_cases e : s = n
    · subst e
      rw [if_neg (by omega), if_pos (by omega), h2 (by omega)]
      omega
    · rw [h1 n (by omega) (fun q => e q.symm)]
      by_cases e2 : s < n
      · rw [if_pos e2, if_pos (by omega)]; omega
      · rw [if_neg e2, if_neg (by omega)]
theorem wth_gpl (hT : WfU T m) (hm : 46 ≤ m) (hs1 : s < tn T 0) (hc : c < 30) {a t : Nat} : gpl (wth T s c) (onT (wth T s c)) a t = max (gpl T (clr (onT T) s) a t) (pl (tn T (30 + s)) (tn T (35 + s)) (dist c a) t) := by
  have n0 := (wf_0 hT hm).2
  have hW := wth_wf hT (s := s) (c := c) (by omega) hc
  have e0 : tn (wth T s c) 0 = tn T 0 := by rw [wth_tn hc, if_neg (by omega), if_neg (by omega)]
  have hon := onT_lt hT hm
  unfold gpl
  rw [e0, gp_one (T := T) (T' := wth T s c) (set := clr (onT T) s) (set' := onT (wth T s c)) (s := s) (tn T 0) ?_ ?_, if_pos hs1]
  · congr 1
    have hb : (onT (wth T s c)).testBit s = true := by
      rw [onT_bit hW hm (by omega), wth_tn hc, if_neg (by omega), if_pos rfl]
      rfl
    unfold cp
    rw [if_pos hb, wth_tn hc, wth_tn hc, wth_tn hc, if_neg (by omega), if_neg (by omega), if_neg (by omega), if_neg (by omega), if_pos rfl]
  · intro j hj hjs
    unfold cp
    have e1 : (onT (wth T s c)).testBit j = (clr (onT T) s).testBit j := by
      rw [onT_bit hW hm (by omega), wth_tn hc, if_neg (by omega), if_neg (by omega), clr_bit _ hon s (by omega) j (by omega), onT_bit hT hm hj, decide_eq_false hjs]
      simp
    have e2 : tn (wth T s c) (30 + j) = tn T (30 + j) := by rw [wth_tn hc, if_neg (by omega), if_neg (by omega)]
    have e3 : tn (wth T s c) (35 + j) = tn T (35 + j) := by rw [wth_tn hc, if_neg (by omega), if_neg (by omega)]
    have e4 : tn (wth T s c) (14 + j) = tn T (14 + j) := by rw [wth_tn hc, if_neg (by omega), if_neg (by omega)]
    rw [e1, e2, e3, e4]
  · intro _
    unfold cp
    rw [if_neg]
    rw [clr_bit _ hon s (by omega) s (by omega), decide_eq_true rfl]
    simp
end WTH
theorem c_wit2 {la : Nat} {T : Nat → Int32} {h : AH} {m set t cell : Nat} (hT : WfU T m) (hm : 46 ≤ m) (hk : KD la = 1) (h3 : hI h la 3 = T 1) (hw : ∀ w, w < tn T 1 → hI h (PC la 8) w = T (40 + w) ∧ hI h (PC la 9) w = T (19 + w)) (hg : ∀ w, w < tn T 1 → hI h 93 w = nI (gpl T set (tn T (19 + w)) t)) (ht : t < 12) (hc : cell < 30) : fX7_witnesses 92 la (nI cell) h = some (nI (who T cell set t)) := by
  obtain ⟨w1, w1'⟩ := wf_1 hT hm
  have hpc : PC 92 0 = 93 := rfl
  have hsz : SZ 93 = 6 := rfl
  unfold fX7_witnesses
  refine run_loop (fun n (s : Int32 × Int32) => fX7_witnesses_5 h n 92 la (nI cell) s.1 s.2) (fun i => (nI (whoS T cell set t i), nI i)) (tn T 1) _ ?_ ?_ FU (FU_lt (by omega))
  · intro n i hi
    show fX7_witnesses_5 h (n + 1) 92 la (nI cell) (nI (whoS T cell set t i)) (nI i) = fX7_witnesses_5 h n 92 la (nI cell) (nI (whoS T cell set t (i + 1))) (nI (i + 1))
    obtain ⟨e1, e2⟩ := hw i hi
    have e3 := hg i hi
    obtain ⟨⟨a1, b1⟩, ⟨a2, b2⟩⟩ := wf_w hT hm (show i < 6 by omega)
    have hd := dist_le _ b1 _ hc
    have g2 := gpl_le hT hm (set := set) b1 ht
    rw [fX7_witnesses_5, h3, w1]
    simp (disch := omega) only [p0, p1, p2, p3, p4, p5, p6, p7, p8, p9, p10, p11, p12, p14, p19, p23, p24, p25, p29, p30, p31, p35, p40, p46, p58, p60, p88, p99, p100, p112, p150, p9999, nI_add, nI_mul, ix_nI, p_sub, p_div, p_rem, p_shl, p_shr, p_and, p_or, inb_nI, p_le, if_neg, sz_X2_9 hk, sz_X2_8 hk, decide_eq_true, oG_t, e1, e2, e3, a1, a2, c_far _ b1 _ hc, ob_s, hpc, hsz, c_sees _ b2 _ hd _ (show gpl T set (tn T (19 + i)) t < 41 by omega), oL_d]
    have hsw : se (tn T (40 + i)) (dist (tn T (19 + i)) cell) (gpl T set (tn T (19 + i)) t) = sw T i cell set t := rfl
    rw [hsw]
    cases hb : sw T i cell set t with
    | false =>
      rw [if_pos (show bI false = nI 0 by decide)]
      simp only [whoS, hb, Bool.false_eq_true, if_false]
    | true =>
      rw [if_neg (show ¬ bI true = nI 0 by decide)]
      simp only [whoS, hb, if_true, Nat.one_mul]
  · intro n
    show fX7_witnesses_5 h (n + 1) 92 la (nI cell) (nI (whoS T cell set t (tn T 1))) (nI (tn T 1)) = _
    rw [fX7_witnesses_5, h3, w1]
    simp (disch := omega) only [p_le, if_pos, who]
theorem rowS_q {h : AH} {o b n : Nat} {f : Nat → Int32} (hb : ¬ b < n) : hI (rowS h o f n) o b = hI h o b := if_neg (fun q => hb q.2)
theorem c_withAt {T : Nat → Int32} {h : AH} {m s c cell : Nat} (hT : WfU T m) (hm : 46 ≤ m) (hR : LaR 2 T h) (hs1 : s < tn T 0) (hc : c < 30) (hcell : cell < 30) : ∃ h1, fX7_whoSeesWithShowAt 92 2 (nI cell) (nI s) (nI c) h = some (nI (who (wth T s c) cell (onT (wth T s c)) (tn T 13 % 12)), h1) ∧ EqQ h h1 := by
  have n0 := (wf_0 hT hm).2
  have w1 := wf_1 hT hm
  have hW := wth_wf hT (s := s) (c := c) (by omega) hc
  have hon := onT_lt hT hm
  have hcl := clr_lt _ hon s (by omega)
  have ht : tn T 13 % 12 < 12 := Nat.mod_lt _ (by omega)
  have hk : KD 2 = 1 := rfl
  have hpc : PC 92 0 = 93 := rfl
  have hsz : SZ 93 = 6 := rfl
  obtain ⟨⟨a1, b1⟩, -, ⟨a3, b3⟩, ⟨a4, b4⟩⟩ := wf_s hT hm (show s < 5 by omega)
  unfold fX7_whoSeesWithShowAt
  rw [show (0 : Int32) = nI 0 by decide, c_dayStep hT hm hR (by omega), ob_s, c_on hT hm hR, ob_s, p1, c_clr _ hon s (by omega), Nat.add_zero, c_gauge hT hm hR (by omega) (by omega) ht, ob_s]
  have hR2 : LaR 2 T (gz h T (clr (onT T) s) (tn T 13 % 12)) := gz_LaR hR (by omega)
  have hgg := gz_g (h := h) (T := T) (set := clr (onT T) s) (t := tn T 13 % 12)
  have hq2 : EqQ h (gz h T (clr (onT T) s) (tn T 13 % 12)) := gz_eqq
  generalize gz h T (clr (onT T) s) (tn T 13 % 12) = g at hR2 hgg hq2 ⊢
  obtain ⟨-, -, -, f2, f3, fs, fw⟩ := hR2
  let f : Nat → Int32 := fun w => nI (gpl (wth T s c) (onT (wth T s c)) (tn T (19 + w)) (tn T 13 % 12))
  have hfin : fX7_whoSeesWithShowAt_96 92 2 (nI cell) (rowS g 93 f (tn T 1)) = some (nI (who (wth T s c) cell (onT (wth T s c)) (tn T 13 % 12)), rowS g 93 f (tn T 1)) := by
    unfold fX7_whoSeesWithShowAt_96
    have e1 : tn (wth T s c) 1 = tn T 1 := by rw [wth_tn hc, if_neg (by omega), if_neg (by omega)]
    rw [c_wit2 hW hm hk (set := onT (wth T s c)) (t := tn T 13 % 12) ?_ ?_ ?_ ht hcell, ob_s]
    · rw [rowS_n (by omega), f3]; unfold wth; rw [up1_n (by omega), up1_n (by omega)]
    · intro w hw
      rw [e1] at hw
      obtain ⟨x1, x2, -⟩ := fw w hw
      have hpc8 : PC 2 8 = 7 := rfl
      have hpc9 : PC 2 9 = 8 := rfl
      rw [rowS_n (by omega), rowS_n (by omega), x1, x2]
      unfold wth
      rw [up1_n (by omega), up1_n (by omega), up1_n (by omega), up1_n (by omega)]
      exact ⟨rfl, rfl⟩
    · intro w hw
      rw [e1] at hw
      rw [rowS_i hw, wth_tn hc, if_neg (by omega), if_neg (by omega)]
  suffices hl : fX7_whoSeesWithShowAt_27 FU 92 2 (nI cell) (nI s) (nI c) (nI (tn T 13 % 12)) (nI 0) (rowS g 93 f 0) = some (nI (who (wth T s c) cell (onT (wth T s c)) (tn T 13 % 12)), rowS g 93 f (tn T 1)) by
    rw [rowS_0] at hl
    exact ⟨_, hl, hq2.tr (EqQ.row (by omega) (by omega) (by omega) (by omega))⟩
  refine run_loop (fun n (x : Int32 × AH) => fX7_whoSeesWithShowAt_27 n 92 2 (nI cell) (nI s) (nI c) (nI (tn T 13 % 12)) x.1 x.2) (fun i => (nI i, rowS g 93 f i)) (tn T 1) _ ?_ ?_ FU (FU_lt (by omega))
  · intro n i hi
    show fX7_whoSeesWithShowAt_27 (n + 1) 92 2 (nI cell) (nI s) (nI c) (nI (tn T 13 % 12)) (nI i) (rowS g 93 f i) = fX7_whoSeesWithShowAt_27 n 92 2 (nI cell) (nI s) (nI c) (nI (tn T 13 % 12)) (nI (i + 1)) (rowS g 93 f (i + 1))
    obtain ⟨x1, x2, -⟩ := fw i hi
    obtain ⟨y1, y2, y3, -⟩ := fs s hs1
    obtain ⟨⟨c1, d1⟩, -⟩ := wf_w hT hm (show i < 6 by omega)
    have hd := dist_le _ hc _ d1
    have hpl := pl_le _ b3 _ b4 _ hd _ ht
    have hgl := gpl_le hT hm (set := clr (onT T) s) d1 ht
    have hg := hgg i hi
    have e3 : hI (rowS g 93 f i) 2 3 = nI (tn T 1) := by rw [rowS_n (by omega), f3, w1.1]
    have e9 : hI (rowS g 93 f i) (PC 2 9) i = nI (tn T (19 + i)) := by rw [rowS_n (by decide), x2, c1]
    have e4 : hI (rowS g 93 f i) (PC 2 4) s = nI (tn T (30 + s)) := by rw [rowS_n (by decide), y1, a3]
    have e6 : hI (rowS g 93 f i) (PC 2 6) s = nI (tn T (35 + s)) := by rw [rowS_n (by decide), y3, a4]
    have e93 : hI (rowS g 93 f i) 93 i = nI (gpl T (clr (onT T) s) (tn T (19 + i)) (tn T 13 % 12)) := by rw [rowS_q (by omega), hg]
    have hf : f i = nI (max (gpl T (clr (onT T) s) (tn T (19 + i)) (tn T 13 % 12)) (pl (tn T (30 + s)) (tn T (35 + s)) (dist c (tn T (19 + i))) (tn T 13 % 12))) := by rw [← wth_gpl hT hm hs1 hc]
    rw [fX7_whoSeesWithShowAt_27, e3]
    simp (disch := omega) only [p0, p1, p2, p3, p4, p5, p6, p7, p8, p9, p10, p11, p12, p14, p19, p23, p24, p25, p29, p30, p31, p35, p40, p46, p58, p60, p88, p99, p100, p112, p150, p9999, nI_add, nI_mul, ix_nI, p_sub, p_div, p_rem, p_shl, p_shr, p_and, p_or, inb_nI, p_le, if_neg, sz_X2_9 hk, sz_X2_4 hk, sz_X2_6 hk, decide_eq_true, oG_t, e9, e4, e6, c_far _ hc _ d1, ob_s, c_pull _ b3 _ b4 _ hd _ ht, hpc, hsz, e93, c_max, oL_d]
    rw [← hf, rowS_s]
  · intro n
    show fX7_whoSeesWithShowAt_27 (n + 1) 92 2 (nI cell) (nI s) (nI c) (nI (tn T 13 % 12)) (nI (tn T 1)) (rowS g 93 f (tn T 1)) = _
    have e3 : hI (rowS g 93 f (tn T 1)) 2 3 = nI (tn T 1) := by rw [rowS_n (by omega), f3, w1.1]
    rw [fX7_whoSeesWithShowAt_27, e3]
    simp (disch := omega) only [p_le, if_pos]
    exact hfin
