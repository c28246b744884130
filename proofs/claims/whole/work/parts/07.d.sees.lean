/-! PURE: what is on, who sees -/
def onS (T : Nat → Int32) : Nat → Nat
  | 0 => 0
  | s + 1 => onS T s ||| tn T (25 + s) * 2 ^ s
def onT (T : Nat → Int32) : Nat := onS T (tn T 0)
theorem onS_lt {T : Nat → Int32} {m : Nat} (hT : WfU T m) (hm : 46 ≤ m) : ∀ s, s ≤ 5 → onS T s < 2 ^ s := by
  intro s
  induction s with
  | zero => intro _; exact Nat.one_pos
  | succ s ih =>
    intro hs
    have h1 := ih (by omega)
    obtain ⟨_, ⟨_, b2⟩, _⟩ := wf_s hT hm (show s < 5 by omega)
    have h2 : 2 ^ (s + 1) = 2 * 2 ^ s := by rw [Nat.pow_succ, Nat.mul_comm]
    refine Nat.or_lt_two_pow (by omega) ?_
    have h3 : tn T (25 + s) * 2 ^ s ≤ 1 * 2 ^ s := Nat.mul_le_mul_right _ (by omega)
    have h4 : 0 < 2 ^ s := Nat.two_pow_pos s
    omega
theorem onT_lt {T : Nat → Int32} {m : Nat} (hT : WfU T m) (hm : 46 ≤ m) : onT T < 32 := by
  have h1 := onS_lt hT hm _ (wf_0 hT hm).2
  have h2 : 2 ^ tn T 0 ≤ 2 ^ 5 := Nat.pow_le_pow_right (by decide) (wf_0 hT hm).2
  exact Nat.lt_of_lt_of_le h1 h2
theorem c_on {la : Nat} {T : Nat → Int32} {h : AH} {m : Nat} (hT : WfU T m) (hm : 46 ≤ m) (hR : LaR la T h) : fX2_onBits la h = some (nI (onT T)) := by
  obtain ⟨hk, -, -, h2, -, hs, -⟩ := hR
  obtain ⟨w0, w0'⟩ := wf_0 hT hm
  unfold fX2_onBits
  refine run_loop (fun n (s : Int32 × Int32) => fX2_onBits_4 h n la s.1 s.2) (fun i => (nI (onS T i), nI i)) (tn T 0) _ ?_ ?_ FU (FU_lt (by omega))
  · intro n i hi
    show fX2_onBits_4 h (n + 1) la (nI (onS T i)) (nI i) = fX2_onBits_4 h n la (nI (onS T (i + 1))) (nI (i + 1))
    obtain ⟨-, -, -, e4⟩ := hs i hi
    obtain ⟨-, ⟨a2, b2⟩, -⟩ := wf_s hT hm (show i < 5 by omega)
    rw [fX2_onBits_4, h2, w0]
    simp (disch := omega) only [p0, p1, p2, p3, p4, p5, p6, p7, p8, p9, p10, p11, p12, p14, p19, p23, p24, p25, p29, p30, p31, p35, p40, p46, p58, p60, p88, p99, p100, p112, p150, p9999, nI_add, nI_mul, ix_nI, p_sub, p_div, p_rem, p_shl, p_shr, p_and, p_or, inb_nI, p_le, if_neg, sz_X2_7 hk, decide_eq_true, oG_t, e4, a2, oL_d, onS]
  · intro n
    show fX2_onBits_4 h (n + 1) la (nI (onS T (tn T 0))) (nI (tn T 0)) = _
    rw [fX2_onBits_4, h2, w0]
    simp (disch := omega) only [p_le, if_pos, onT]
theorem m_on {o n : Nat} {T : Nat → Int32} {h : AH} {m : Nat} (hT : WfU T m) (hm : 46 ≤ m) (hR : ArR o n T h) (hn : 46 ≤ n) : fX9_isOn o h = some (nI (onT T)) := by
  obtain ⟨hk, hsz, hr⟩ := hR
  obtain ⟨w0, w0'⟩ := wf_0 hT hm
  have r0 := hr 0 (by omega)
  unfold fX9_isOn
  refine run_loop (fun n (s : Int32 × Int32) => fX9_isOn_4 h n o s.1 s.2) (fun i => (nI (onS T i), nI i)) (tn T 0) _ ?_ ?_ FU (FU_lt (by omega))
  · intro k i hi
    show fX9_isOn_4 h (k + 1) o (nI (onS T i)) (nI i) = fX9_isOn_4 h k o (nI (onS T (i + 1))) (nI (i + 1))
    obtain ⟨-, ⟨a2, b2⟩, -⟩ := wf_s hT hm (show i < 5 by omega)
    have r1 := hr (25 + i) (by omega)
    rw [fX9_isOn_4]
    simp (disch := omega) only [p0, p1, p2, p3, p4, p5, p6, p7, p8, p9, p10, p11, p12, p14, p19, p23, p24, p25, p29, p30, p31, p35, p40, p46, p58, p60, p88, p99, p100, p112, p150, p9999, nI_add, nI_mul, ix_nI, p_sub, p_div, p_rem, p_shl, p_shr, p_and, p_or, inb_nI, hsz, decide_eq_true, oG_t, r0, w0, p_le, if_neg, r1, a2, oL_d, onS]
  · intro k
    show fX9_isOn_4 h (k + 1) o (nI (onS T (tn T 0))) (nI (tn T 0)) = _
    rw [fX9_isOn_4]
    simp (disch := omega) only [p0, p1, p2, p3, p4, p5, p6, p7, p8, p9, p10, p11, p12, p14, p19, p23, p24, p25, p29, p30, p31, p35, p40, p46, p58, p60, p88, p99, p100, p112, p150, p9999, nI_add, nI_mul, ix_nI, p_sub, p_div, p_rem, p_shl, p_shr, p_and, p_or, inb_nI, hsz, decide_eq_true, oG_t, r0, w0, p_le, if_pos, onT]
/-- whether the watcher w sees a doing in a cell, by a set of shows, on a step of the day -/
def sw (T : Nat → Int32) (w cell set t : Nat) : Bool := se (tn T (40 + w)) (dist (tn T (19 + w)) cell) (gpl T set (tn T (19 + w)) t)
def whoS (T : Nat → Int32) (cell set t : Nat) : Nat → Nat
  | 0 => 0
  | w + 1 => if sw T w cell set t = true then whoS T cell set t w ||| 2 ^ w else whoS T cell set t w
def who (T : Nat → Int32) (cell set t : Nat) : Nat := whoS T cell set t (tn T 1)
theorem whoS_lt {T : Nat → Int32} {cell set t : Nat} : ∀ w, whoS T cell set t w < 2 ^ w := by
  intro w
  induction w with
  | zero => exact Nat.one_pos
  | succ w ih =>
    have h2 : 2 ^ (w + 1) = 2 * 2 ^ w := by rw [Nat.pow_succ, Nat.mul_comm]
    have h4 : 0 < 2 ^ w := Nat.two_pow_pos w
    unfold whoS
    split
    · exact Nat.or_lt_two_pow (by omega) (by omega)
    · omega
theorem who_lt {T : Nat → Int32} {m : Nat} (hT : WfU T m) (hm : 46 ≤ m) {cell set t : Nat} : who T cell set t < 64 := by
  have h2 : 2 ^ tn T 1 ≤ 2 ^ 6 := Nat.pow_le_pow_right (by decide) (wf_1 hT hm).2
  exact Nat.lt_of_lt_of_le (whoS_lt _) h2
/-- a row's first n places anew -/
def rowS (h : AH) (o : Nat) (f : Nat → Int32) (n : Nat) : AH := (fun a b => if a = o ∧ b < n then f b else h.1 a b, h.2)
theorem rowS_0 {h : AH} {o : Nat} {f : Nat → Int32} : rowS h o f 0 = h := by
  unfold rowS
  simp
theorem rowS_s {h : AH} {o : Nat} {f : Nat → Int32} {i : Nat} : sI (rowS h o f i) o i (f i) = rowS h o f (i + 1) := by
  unfold sI rowS uI
  refine Prod.ext ?_ rfl
  funext a b
  show (if a = o ∧ b = i then f i else if a = o ∧ b < i then f b else h.1 a b) = if a = o ∧ b < i + 1 then f b else h.1 a b
  by_cases ha : a = o
  · by_cases hb : b = i
    · rw [if_pos ⟨ha, hb⟩, if_pos ⟨ha, by omega⟩, hb]
    · rw [if_neg (fun q => hb q.2)]
      by_cases hc : b < i
      · rw [if_pos ⟨ha, hc⟩, if_pos ⟨ha, by omega⟩]
      · rw [if_neg (fun q => hc q.2), if_neg (fun q => by omega)]
  · rw [if_neg (fun q => ha q.1), if_neg (fun q => ha q.1), if_neg (fun q => ha q.1)]
theorem rowS_n {h : AH} {o a b n : Nat} {f : Nat → Int32} (ha : a ≠ o) : hI (rowS h o f n) a b = hI h a b := if_neg (fun q => ha q.1)
theorem rowS_i {h : AH} {o b n : Nat} {f : Nat → Int32} (hb : b < n) : hI (rowS h o f n) o b = f b := if_pos ⟨rfl, hb⟩
theorem rowS_J {h : AH} {o a b n : Nat} {f : Nat → Int32} : hJ (rowS h o f n) a b = hJ h a b := rfl
theorem rowS_Q {h : AH} {o a b n : Nat} {f : Nat → Int32} : hQ (rowS h o f n) a b = hQ h a b := rfl
theorem sI_n {h : AH} {o k a b : Nat} {v : Int32} (hn : ¬ (a = o ∧ b = k)) : hI (sI h o k v) a b = hI h a b := if_neg hn
theorem sI_o {h : AH} {o k a b : Nat} {v : Int32} (hn : a ≠ o) : hI (sI h o k v) a b = hI h a b := if_neg (fun q => hn q.1)
theorem sI_e {h : AH} {o k : Nat} {v : Int32} : hI (sI h o k v) o k = v := if_pos ⟨rfl, rfl⟩
/-- the same in the cells of a stretch of objects -/
def Eqs (lo hi : Nat) (h h' : AH) : Prop := ∀ o, lo ≤ o → o ≤ hi → ∀ k, hI h' o k = hI h o k ∧ hJ h' o k = hJ h o k ∧ hQ h' o k = hQ h o k
theorem Eqs.rf {lo hi : Nat} {h : AH} : Eqs lo hi h h := fun _ _ _ _ => ⟨rfl, rfl, rfl⟩
theorem Eqs.tr {lo hi : Nat} {h h' h'' : AH} (a : Eqs lo hi h h') (b : Eqs lo hi h' h'') : Eqs lo hi h h'' := fun o h1 h2 k => ⟨(b o h1 h2 k).1.trans (a o h1 h2 k).1, (b o h1 h2 k).2.1.trans (a o h1 h2 k).2.1, (b o h1 h2 k).2.2.trans (a o h1 h2 k).2.2⟩
theorem Eqs.sub {lo hi lo' hi' : Nat} {h h' : AH} (a : Eqs lo hi h h') (h1 : lo ≤ lo') (h2 : hi' ≤ hi) : Eqs lo' hi' h h' := fun o h3 h4 => a o (by omega) (by omega)
theorem Eqs.row {lo hi : Nat} {h : AH} {o n : Nat} {f : Nat → Int32} (ho : o < lo ∨ hi < o) : Eqs lo hi h (rowS h o f n) := fun a h1 h2 k => ⟨rowS_n (by omega), rfl, rfl⟩
theorem Eqs.sI {lo hi : Nat} {h : AH} {o k : Nat} {v : Int32} (ho : o < lo ∨ hi < o) : Eqs lo hi h (sI h o k v) := fun a h1 h2 b => ⟨sI_o (by omega), rfl, rfl⟩
theorem pcs {la : Nat} (hk : KD la = 1) : PC la 4 = la + 1 ∧ PC la 5 = la + 2 ∧ PC la 6 = la + 3 ∧ PC la 7 = la + 4 ∧ PC la 8 = la + 5 ∧ PC la 9 = la + 6 ∧ PC la 10 = la + 7 := ⟨pc_X2_4 hk, pc_X2_5 hk, pc_X2_6 hk, pc_X2_7 hk, pc_X2_8 hk, pc_X2_9 hk, pc_X2_10 hk⟩
theorem LaR.eqs {la : Nat} {T : Nat → Int32} {h h' : AH} (hR : LaR la T h) (he : Eqs la (la + 7) h h') : LaR la T h' := by
  obtain ⟨hk, h0, h1, h2, h3, hs, hw⟩ := hR
  obtain ⟨p4, p5, p6, p7, p8, p9, p10⟩ := pcs hk
  refine ⟨hk, ?_, ?_, ?_, ?_, fun s q => ?_, fun w q => ?_⟩
  · rw [(he la (by omega) (by omega) 0).1]; exact h0
  · rw [(he la (by omega) (by omega) 1).1]; exact h1
  · rw [(he la (by omega) (by omega) 2).1]; exact h2
  · rw [(he la (by omega) (by omega) 3).1]; exact h3
  · rw [(he (PC la 4) (by omega) (by omega) s).1, (he (PC la 5) (by omega) (by omega) s).1, (he (PC la 6) (by omega) (by omega) s).1, (he (PC la 7) (by omega) (by omega) s).1]; exact hs s q
  · rw [(he (PC la 8) (by omega) (by omega) w).1, (he (PC la 9) (by omega) (by omega) w).1, (he (PC la 10) (by omega) (by omega) w).1]; exact hw w q
theorem ArR.eqs {o n : Nat} {T : Nat → Int32} {h h' : AH} (hR : ArR o n T h) (he : Eqs o o h h') : ArR o n T h' := ⟨hR.1, hR.2.1, fun k q => by rw [(he o (Nat.le_refl _) (Nat.le_refl _) k).1]; exact hR.2.2 k q⟩
/-- the class's gauge: the greatest pull at each watcher -/
def gz (h : AH) (T : Nat → Int32) (set t : Nat) : AH := rowS h 93 (fun w => nI (gpl T set (tn T (19 + w)) t)) (tn T 1)
theorem c_gauge {la : Nat} {T : Nat → Int32} {h : AH} {m set t : Nat} (hT : WfU T m) (hm : 46 ≤ m) (hR : LaR la T h) (hla : la + 7 < 93) (hset : set < 2147483648) (ht : t < 12) : fX7_gauge 92 la (nI set) (nI t) h = some (gz h T set t) := by
  have hR0 := hR
  obtain ⟨hk, -, -, -, h3, -, hw⟩ := hR
  obtain ⟨w1, w1'⟩ := wf_1 hT hm
  have hpc : PC 92 0 = 93 := rfl
  have hsz : SZ 93 = 6 := rfl
  obtain ⟨-, -, -, -, -, q9, -⟩ := pcs hk
  unfold fX7_gauge
  suffices hl : fX7_gauge_3 FU 92 la (nI set) (nI t) (nI 0) (rowS h 93 (fun w => nI (gpl T set (tn T (19 + w)) t)) 0) = some (gz h T set t) by
    rw [rowS_0] at hl
    exact hl
  refine run_loop (fun n (s : Int32 × AH) => fX7_gauge_3 n 92 la (nI set) (nI t) s.1 s.2) (fun i => (nI i, rowS h 93 (fun w => nI (gpl T set (tn T (19 + w)) t)) i)) (tn T 1) _ ?_ ?_ FU (FU_lt (by omega))
  · intro n i hi
    show fX7_gauge_3 (n + 1) 92 la (nI set) (nI t) (nI i) (rowS h 93 (fun w => nI (gpl T set (tn T (19 + w)) t)) i) = fX7_gauge_3 n 92 la (nI set) (nI t) (nI (i + 1)) (rowS h 93 (fun w => nI (gpl T set (tn T (19 + w)) t)) (i + 1))
    obtain ⟨-, e2, -⟩ := hw i hi
    obtain ⟨⟨a1, b1⟩, -⟩ := wf_w hT hm (show i < 6 by omega)
    have hRi := hR0.eqs (Eqs.row (h := h) (o := 93) (n := i) (f := fun w => nI (gpl T set (tn T (19 + w)) t)) (Or.inr hla))
    have e3 : hI (rowS h 93 (fun w => nI (gpl T set (tn T (19 + w)) t)) i) la 3 = nI (tn T 1) := by rw [rowS_n (by omega), h3, w1]
    have e4 : hI (rowS h 93 (fun w => nI (gpl T set (tn T (19 + w)) t)) i) (PC la 9) i = nI (tn T (19 + i)) := by rw [rowS_n (by omega), e2, a1]
    rw [fX7_gauge_3, e3]
    simp (disch := omega) only [p0, p1, p2, p3, p4, p5, p6, p7, p8, p9, p10, p11, p12, p14, p19, p23, p24, p25, p29, p30, p31, p35, p40, p46, p58, p60, p88, p99, p100, p112, p150, p9999, nI_add, nI_mul, ix_nI, p_sub, p_div, p_rem, p_shl, p_shr, p_and, p_or, inb_nI, p_le, if_neg, sz_X2_9 hk, decide_eq_true, oG_t, e4, c_gpl hT hm hRi hset b1 ht, ob_s, hpc, hsz, oL_d]
    rw [rowS_s (f := fun w => nI (gpl T set (tn T (19 + w)) t))]
  · intro n
    show fX7_gauge_3 (n + 1) 92 la (nI set) (nI t) (nI (tn T 1)) (rowS h 93 _ (tn T 1)) = _
    have e3 : hI (rowS h 93 (fun w => nI (gpl T set (tn T (19 + w)) t)) (tn T 1)) la 3 = nI (tn T 1) := by rw [rowS_n (by omega), h3, w1]
    rw [fX7_gauge_3, e3]
    simp (disch := omega) only [p_le, if_pos, gz]
theorem c_wit {la : Nat} {T : Nat → Int32} {h : AH} {m set t cell : Nat} (hT : WfU T m) (hm : 46 ≤ m) (hR : LaR la T h) (hg : ∀ w, w < tn T 1 → hI h 93 w = nI (gpl T set (tn T (19 + w)) t)) (ht : t < 12) (hc : cell < 30) : fX7_witnesses 92 la (nI cell) h = some (nI (who T cell set t)) := by
  obtain ⟨hk, -, -, -, h3, -, hw⟩ := hR
  obtain ⟨w1, w1'⟩ := wf_1 hT hm
  have hpc : PC 92 0 = 93 := rfl
  have hsz : SZ 93 = 6 := rfl
  unfold fX7_witnesses
  refine run_loop (fun n (s : Int32 × Int32) => fX7_witnesses_5 h n 92 la (nI cell) s.1 s.2) (fun i => (nI (whoS T cell set t i), nI i)) (tn T 1) _ ?_ ?_ FU (FU_lt (by omega))
  · intro n i hi
    show fX7_witnesses_5 h (n + 1) 92 la (nI cell) (nI (whoS T cell set t i)) (nI i) = fX7_witnesses_5 h n 92 la (nI cell) (nI (whoS T cell set t (i + 1))) (nI (i + 1))
    obtain ⟨e1, e2, -⟩ := hw i hi
    have e3 := hg i hi
    obtain ⟨⟨a1, b1⟩, ⟨a2, b2⟩⟩ := wf_w hT hm (show i < 6 by omega)
    have hd := dist_le _ b1 _ hc
    have g2 := gpl_le hT hm (set := set) b1 ht
    rw [fX7_witnesses_5, h3, w1]
    simp (disch := omega) only [p0, p1, p2, p3, p4, p5, p6, p7, p8, p9, p10, p11, p12, p14, p19, p23, p24, p25, p29, p30, p31, p35, p40, p46, p58, p60, p88, p99, p100, p112, p150, p9999, nI_add, nI_mul, ix_nI, p_sub, p_div, p_rem, p_shl, p_shr, p_and, p_or, inb_nI, p_le, if_neg, sz_X2_9 hk, sz_X2_8 hk, decide_eq_true, oG_t, e1, e2, e3, a1, a2, c_far _ b1 _ hc, ob_s, hpc, hsz, c_sees _ b2 _ hd _ (show gpl T set (tn T (19 + i)) t < 41 by omega), oL_d]
    have hsw : se (tn T (40 + i)) (dist (tn T (19 + i)) cell) (gpl T set (tn T (19 + i)) t) = sw T i cell set t := rfl
    rw [hsw]
    cases hb : sw T i cell set t with
    | false =>
      rw [if_pos (show bI false = nI 0 by decide)]
      simp only [whoS, hb, Bool.false_eq_true, if_false]
    | true =>
      rw [if_neg (show ¬ bI true = nI 0 by decide)]
      simp only [whoS, hb, if_true, Nat.one_mul]
  · intro n
    show fX7_witnesses_5 h (n + 1) 92 la (nI cell) (nI (whoS T cell set t (tn T 1))) (nI (tn T 1)) = _
    rw [fX7_witnesses_5, h3, w1]
    simp (disch := omega) only [p_le, if_pos, who]
theorem gz_g {h : AH} {T : Nat → Int32} {set t : Nat} : ∀ w, w < tn T 1 → hI (gz h T set t) 93 w = nI (gpl T set (tn T (19 + w)) t) := fun w hw => rowS_i (f := fun w => nI (gpl T set (tn T (19 + w)) t)) hw
theorem gz_eqs {h : AH} {T : Nat → Int32} {set t lo hi : Nat} (ho : 93 < lo ∨ hi < 93) : Eqs lo hi h (gz h T set t) := Eqs.row ho
theorem c_who {la : Nat} {T : Nat → Int32} {h : AH} {m t cell : Nat} (hT : WfU T m) (hm : 46 ≤ m) (hR : LaR la T h) (hla : la + 7 < 93) (ht : t < 12) (hc : cell < 30) : fX7_whoSees 92 la (nI cell) (nI t) h = some (nI (who T cell (onT T) t), gz h T (onT T) t) := by
  have hon := onT_lt hT hm
  unfold fX7_whoSees
  rw [c_on hT hm hR, ob_s, c_gauge hT hm hR hla (by omega) ht, ob_s, c_wit hT hm (hR.eqs (gz_eqs (Or.inr hla))) gz_g ht hc, ob_s]
theorem m_seesFrom {o n : Nat} {T : Nat → Int32} {h : AH} {m k st c set t : Nat} (hT : WfU T m) (hm : 46 ≤ m) (hR : ArR o n T h) (hn : 46 ≤ n) (hk : k < 6) (hst : st < 30) (hc : c < 30) (hset : set < 2147483648) (ht : t < 12) : fX9_seesFrom o (nI k) (nI st) (nI c) (nI set) (nI t) h = some (bI (se k (dist st c) (gpl T set st t))) := by
  have g2 := gpl_le hT hm (set := set) hst ht
  unfold fX9_seesFrom
  rw [m_far _ hst _ hc, ob_s, m_gpl hT hm hR hn hset hst ht, ob_s, m_sees _ hk _ (dist_le _ hst _ hc) _ (by omega), ob_s, oG_of (bI_B _)]
theorem m_who {o n : Nat} {T : Nat → Int32} {h : AH} {m set t cell : Nat} (hT : WfU T m) (hm : 46 ≤ m) (hR : ArR o n T h) (hn : 46 ≤ n) (hset : set < 2147483648) (ht : t < 12) (hc : cell < 30) : fX9_whoSees o (nI cell) (nI set) (nI t) h = some (nI (who T cell set t)) := by
  have hR' := hR
  obtain ⟨hk, hsz, hr⟩ := hR
  obtain ⟨w1, w1'⟩ := wf_1 hT hm
  have r0 := hr 1 (by omega)
  unfold fX9_whoSees
  refine run_loop (fun n (s : Int32 × Int32) => fX9_whoSees_6 h n o (nI cell) (nI set) (nI t) s.1 s.2) (fun i => (nI (whoS T cell set t i), nI i)) (tn T 1) _ ?_ ?_ FU (FU_lt (by omega))
  · intro k i hi
    show fX9_whoSees_6 h (k + 1) o (nI cell) (nI set) (nI t) (nI (whoS T cell set t i)) (nI i) = fX9_whoSees_6 h k o (nI cell) (nI set) (nI t) (nI (whoS T cell set t (i + 1))) (nI (i + 1))
    obtain ⟨⟨a1, b1⟩, ⟨a2, b2⟩⟩ := wf_w hT hm (show i < 6 by omega)
    have r1 := hr (40 + i) (by omega)
    have r2 := hr (19 + i) (by omega)
    rw [fX9_whoSees_6]
    simp (disch := omega) only [p0, p1, p2, p3, p4, p5, p6, p7, p8, p9, p10, p11, p12, p14, p19, p23, p24, p25, p29, p30, p31, p35, p40, p46, p58, p60, p88, p99, p100, p112, p150, p9999, nI_add, nI_mul, ix_nI, p_sub, p_div, p_rem, p_shl, p_shr, p_and, p_or, inb_nI, hsz, decide_eq_true, oG_t, r0, w1, p_le, if_neg, r1, r2, a1, a2, m_seesFrom hT hm hR' hn b2 b1 hc hset ht, ob_s]
    have hsw : se (tn T (40 + i)) (dist (tn T (19 + i)) cell) (gpl T set (tn T (19 + i)) t) = sw T i cell set t := rfl
    rw [hsw]
    unfold fX9_whoSees_48
    cases hb : sw T i cell set t with
    | false =>
      rw [if_pos (show bI false = nI 0 by decide)]
      simp (disch := omega) only [p0, p1, p2, p3, p4, p5, p6, p7, p8, p9, p10, p11, p12, p14, p19, p23, p24, p25, p29, p30, p31, p35, p40, p46, p58, p60, p88, p99, p100, p112, p150, p9999, nI_add, nI_mul, ix_nI, p_sub, p_div, p_rem, p_shl, p_shr, p_and, p_or, inb_nI, oL_d, whoS, hb, Bool.false_eq_true, if_false, Nat.or_zero]
    | true =>
      rw [if_neg (show ¬ bI true = nI 0 by decide)]
      simp (disch := omega) only [p0, p1, p2, p3, p4, p5, p6, p7, p8, p9, p10, p11, p12, p14, p19, p23, p24, p25, p29, p30, p31, p35, p40, p46, p58, p60, p88, p99, p100, p112, p150, p9999, nI_add, nI_mul, ix_nI, p_sub, p_div, p_rem, p_shl, p_shr, p_and, p_or, inb_nI, oL_d, whoS, hb, if_true, Nat.one_mul]
  · intro k
    show fX9_whoSees_6 h (k + 1) o (nI cell) (nI set) (nI t) (nI (whoS T cell set t (tn T 1))) (nI (tn T 1)) = _
    rw [fX9_whoSees_6]
    simp (disch := omega) only [p0, p1, p2, p3, p4, p5, p6, p7, p8, p9, p10, p11, p12, p14, p19, p23, p24, p25, p29, p30, p31, p35, p40, p46, p58, p60, p88, p99, p100, p112, p150, p9999, nI_add, nI_mul, ix_nI, p_sub, p_div, p_rem, p_shl, p_shr, p_and, p_or, inb_nI, hsz, decide_eq_true, oG_t, r0, w1, p_le, if_pos, who]
