/-! PURE: how the state changes; the sheets -/
def EqX (h h' : AH) : Prop := ∀ o k, (o = 0 ∨ 81 < o) → kpt o k → hI h' o k = hI h o k ∧ hJ h' o k = hJ h o k ∧ hQ h' o k = hQ h o k
theorem EqX.eqs {h h' : AH} (a : EqX h h') {lo hi : Nat} (h1 : 81 < lo) (hh : hi < 84 ∨ 99 < lo) : Eqs lo hi h h' := fun o h1 h2 k => a o k (by omega) (by unfold kpt; omega)
theorem CR.cou {S : ST} {h h' : AH} {T' : Nat → Int32} (hW : WfS S) (a : CR S h) (hc : CouR 1 T' h') (hp : PasQ 1 h') (he : EqX h h') : CR (wT S T') h' := by
  obtain ⟨a1, a2, a3, ⟨a4, a5, a6⟩, a7, a8, a9, a10, a11, a12⟩ := a
  refine ⟨hc, fun i hi hf => ?_, fun i hi => ?_, ⟨hp, a5.eqs fun j _ => (he _ j (by omega) (by unfold kpt; omega)).2.2, a6.eqs fun j _ => (he _ j (by omega) (by unfold kpt; omega)).2.2⟩, fun i hi => ?_, fun i hi => ?_, ?_, ?_, fun k hk => ?_, ?_⟩
  · have f6 := (wf_cnt (hW.2.1 i hi hf)).2.2.2.2.2.1.2
    rcases kcn_eq i with e | e
    · exact (a2 i hi hf).eqs (by rw [e]; exact a5) f6 (he.eqs (by omega) (by omega))
    · exact (a2 i hi hf).eqs (by rw [e]; exact a6) f6 (he.eqs (by omega) (by omega))
  · rw [(he 83 i (by omega) (by unfold kpt; omega)).1]; exact a3 i hi
  · rw [(he 82 i (by omega) (by unfold kpt; omega)).2.2]; exact a7 i hi
  · rw [(he 0 _ (by omega) (by unfold kpt; omega)).1]; exact a8 i hi
  · rw [(he 0 _ (by omega) (by unfold kpt; omega)).2.1]; exact a9
  · rw [(he 0 _ (by omega) (by unfold kpt; omega)).2.1]; exact a10
  · rw [(he 95 k (by omega) (by unfold kpt; omega)).1]; exact a11 k hk
  · rw [(he 94 3 (by omega) (by unfold kpt; omega)).1]; exact a12
def EqN (h h' : AH) : Prop := ∀ o k, keepM o k → o ≠ 263 → hI h' o k = hI h o k ∧ hJ h' o k = hJ h o k
theorem EqN.rf {h : AH} : EqN h h := fun _ _ _ _ => ⟨rfl, rfl⟩
theorem EqN.tr {h h' h'' : AH} (a : EqN h h') (b : EqN h' h'') : EqN h h'' := fun o k q r => ⟨(b o k q r).1.trans (a o k q r).1, (b o k q r).2.trans (a o k q r).2⟩
theorem EqN.sI {h : AH} {k : Nat} {v : Int32} : EqN h (sI h 263 k v) := fun a b q r => ⟨sI_n (fun e => r e.1), rfl⟩
theorem MR.row {S : ST} {h h' : AH} {T' : Nat → Int32} (a : MR S h) (hr : ∀ k, k < 304 → hI h' 263 k = T' k) (he : EqN h h') : MR (wT S T') h' := by
  obtain ⟨⟨b1, b2, a1⟩, ⟨c1, c2, a2⟩, a3, a4, a5, a6, a7, a8⟩ := a
  refine ⟨⟨b1, b2, hr⟩, ⟨c1, c2, fun k hk => ?_⟩, fun i hi => ?_, fun i hi => ?_, ?_, ?_, fun k hk => ?_, ?_⟩
  · rw [(he 264 k (by unfold keepM; omega) (by omega)).1]; exact a2 k hk
  · rw [(he 265 i (by unfold keepM; omega) (by omega)).1]; exact a3 i hi
  · rw [(he 266 i (by unfold keepM; omega) (by omega)).1]; exact a4 i hi
  · rw [(he 262 4 (by unfold keepM; omega) (by omega)).2]; exact a5
  · rw [(he 262 5 (by unfold keepM; omega) (by omega)).2]; exact a6
  · rw [(he 272 k (by unfold keepM; omega) (by omega)).1]; exact a7 k hk
  · rw [(he 262 12 (by unfold keepM; omega) (by omega)).1]; exact a8
theorem tn_c {T T' : Nat → Int32} {k : Nat} (h : T' k = T k) : tn T' k = tn T k := by unfold tn; rw [h]
theorem LaR.agr {la : Nat} {T T' : Nat → Int32} {h : AH} (a : LaR la T h) (n0 : tn T 0 ≤ 5) (n1 : tn T 1 ≤ 6) (e : ∀ k, k < 46 → (k < 2 ∨ 5 < k) → T' k = T k) : LaR la T' h := by
  obtain ⟨a1, a2, a3, a4, a5, a6, a7⟩ := a
  have e0 := tn_c (e 0 (by omega) (by omega))
  have e1 := tn_c (e 1 (by omega) (by omega))
  refine ⟨a1, by rw [e 13 (by omega) (by omega)]; exact a2, by rw [e 12 (by omega) (by omega)]; exact a3, by rw [e 0 (by omega) (by omega)]; exact a4, by rw [e 1 (by omega) (by omega)]; exact a5, fun s hs => ?_, fun w hw => ?_⟩
  · rw [e0] at hs
    rw [e (30 + s) (by omega) (by omega), e (14 + s) (by omega) (by omega), e (35 + s) (by omega) (by omega), e (25 + s) (by omega) (by omega)]
    exact a6 s hs
  · rw [e1] at hw
    rw [e (40 + w) (by omega) (by omega), e (19 + w) (by omega) (by omega), e (6 + w) (by omega) (by omega)]
    exact a7 w hw
def wd (i : Nat) : Nat := if i = 0 then 2 else if i = 1 then 5 else 4
def bs (i : Nat) : Nat := if i = 0 then 46 else if i = 1 then 58 else 88
def ShR (c i : Nat) (T : Nat → Int32) (h : AH) : Prop := hI h (c + 75 + 2 * i) 1 = T (2 + i) ∧ ∀ j, j < tn T (2 + i) → ∀ k, k < wd i → hI h (c + 76 + 2 * i) (5 * j + k) = T (bs i + wd i * j + k)
theorem CouR.shR {c : Nat} {T : Nat → Int32} {h : AH} (a : CouR c T h) : ∀ i, i < 3 → ShR c i T h := by
  obtain ⟨-, -, -, a4, a5, a6, a7, a8, a9⟩ := a
  intro i hi
  rcases (show i = 0 ∨ i = 1 ∨ i = 2 by omega) with rfl | rfl | rfl
  · exact ⟨a4, a5⟩
  · exact ⟨a6, a7⟩
  · exact ⟨a8, a9⟩
theorem CouR.sh {c : Nat} {T T' : Nat → Int32} {h h' : AH} (a : CouR c T h) (hq : PasQ c h) (n0 : tn T 0 ≤ 5) (n1 : tn T 1 ≤ 6) (n5 : tn T 5 ≤ 8) (he : Eqs (c + 1) (c + 74) h h') (e : ∀ k, k < 304 → (k < 2 ∨ (4 < k ∧ k < 46) ∨ 112 ≤ k) → T' k = T k) (sh : ∀ i, i < 3 → ShR c i T' h') : CouR c T' h' := by
  obtain ⟨a1, a2, a3, -⟩ := a
  have e5 := tn_c (e 5 (by omega) (by omega))
  refine ⟨(a1.eqs (he.sub (by omega) (by omega))).agr n0 n1 (fun k hk hk2 => e k (by omega) (by omega)), ?_, fun j hj => ?_, (sh 0 (by omega)).1, (sh 0 (by omega)).2, (sh 1 (by omega)).1, (sh 1 (by omega)).2, (sh 2 (by omega)).1, (sh 2 (by omega)).2⟩
  · rw [e 5 (by omega) (by omega), (he _ (by omega) (by omega) _).1]; exact a2
  · rw [e5] at hj
    obtain ⟨i, hi, e6⟩ := hq.1 j (by omega)
    rw [(he (c + 10) (by omega) (by omega) _).2.2]
    have h7 := a3 j hj
    refine (h7.eqs (he.sub (by omega) (by omega))).agr ?_ ?_ (fun k hk hk2 => ?_)
    · rw [tn_c (T' := TP T j) (T := T) (k := 0) (if_neg (by omega))]; exact n0
    · rw [tn_c (T' := TP T j) (T := T) (k := 1) (if_neg (by omega))]; exact n1
    · unfold TP
      by_cases q : 6 ≤ k ∧ k < 30
      · rw [if_pos q, if_pos q, e _ (by omega) (by omega)]
      · rw [if_neg q, if_neg q, e k (by omega) (by omega)]
/-- a row more on a sheet -/
def adT (T : Nat → Int32) (i : Nat) (v : Nat → Int32) : Nat → Int32 := fun k => if k = 2 + i then nI (tn T (2 + i) + 1) else if bs i + wd i * tn T (2 + i) ≤ k ∧ k < bs i + wd i * tn T (2 + i) + wd i then v (k - (bs i + wd i * tn T (2 + i))) else T k
def adH (h : AH) (o n : Nat) (a1 a2 a3 a4 a5 : Int32) : AH := sI (sI (sI (sI (sI (sI h (o + 1) (n * 5) a1) (o + 1) (n * 5 + 1) a2) (o + 1) (n * 5 + 2) a3) (o + 1) (n * 5 + 3) a4) (o + 1) (n * 5 + 4) a5) o 1 (nI (n + 1))
theorem c_add {h : AH} {o n : Nat} {a1 a2 a3 a4 a5 : Int32} (hk : KD o = 5) (hn : hI h o 1 = nI n) (hn6 : n < 6) : fX6_add o a1 a2 a3 a4 a5 h = some (nI (n + 1), adH h o n a1 a2 a3 a4 a5) := by
  have e1 := pc_X6_0 hk
  have e2 := sz_X6_0 hk
  have e3 : SZ (o + 1) = 30 := by rw [← e1]; exact e2
  unfold fX6_add fX6_add_77
  rw [hn, if_neg (by rw [p6, p_le (by omega) (by omega)]; omega), e1]
  have hu : ∀ (h : AH) (k : Nat) (v : Int32), hI (sI h (o + 1) k v) o 1 = hI h o 1 := fun h k v => sI_o (by omega)
  simp (disch := omega) only [p0, p1, p2, p3, p4, p5, p6, p7, p8, p9, p10, p11, p12, p14, p19, p23, p24, p25, p29, p30, p31, p35, p40, p46, p58, p60, p88, p99, p100, p112, p150, p9999, nI_add, nI_mul, ix_nI, p_sub, p_div, p_rem, p_shl, p_shr, p_and, p_or, inb_nI, e3, decide_eq_true, oG_t, oL_d, hu, hn, sI_e]
  rfl
