/-! PURE: game -/
def sn (T : Nat → Int32) (w st dn : Nat) : Bool := se (tn T (40 + w)) (dist st dn) (gpl T (onT T) st (tn T 13 % 12))
def gmB (s : Nat → Bool) (p : Nat) : Bool := if s p = true then s (p ^^^ 1) else !(s (p ^^^ 2))
def gmS (s : Nat → Bool) : Nat → Nat
  | 0 => 0
  | p + 1 => if gmB s p = true then gmS s p ||| 2 ^ p else gmS s p
def smS (s : Nat → Bool) : Nat → Nat
  | 0 => 0
  | p + 1 => if s p = true then smS s p ||| 2 ^ p else smS s p
theorem smS_is {s : Nat → Bool} : ∀ n, smS s n < 2 ^ n ∧ ∀ p, p < n → (smS s n).testBit p = s p := by
  intro n
  induction n with
  | zero => exact ⟨Nat.one_pos, fun p hp => by omega⟩
  | succ n ih =>
    obtain ⟨h1, h2⟩ := ih
    have h3 : 2 ^ (n + 1) = 2 * 2 ^ n := by rw [Nat.pow_succ, Nat.mul_comm]
    have h4 : 0 < 2 ^ n := Nat.two_pow_pos n
    unfold smS
    cases hf : s n with
    | true =>
      rw [if_pos rfl]
      refine ⟨Nat.or_lt_two_pow (by omega) (by omega), fun k hk => ?_⟩
      rw [Nat.testBit_or]
      by_cases e : k = n
      · subst e; rw [Nat.testBit_two_pow_self, hf, Bool.or_true]
      · rw [Nat.testBit_two_pow_of_ne (by omega), Bool.or_false, h2 k (by omega)]
    | false =>
      rw [if_neg (by decide)]
      refine ⟨by omega, fun k hk => ?_⟩
      by_cases e : k = n
      · subst e; rw [Nat.testBit_lt_two_pow h1, hf]
      · exact h2 k (by omega)
/-- by a way (bits: done in b, stands in b) whether it is seen -/
def wy (T : Nat → Int32) (w a b p : Nat) : Bool := sn T w (if p &&& 2 = 0 then a else b) (if p &&& 1 = 0 then a else b)
theorem c_seesSt {T : Nat → Int32} {h : AH} {w st c : Nat} (hT : WfU T 304) (hR : LaR 2 T h) (hw : w < tn T 1) (hst : st < 30) (hc : c < 30) : fX8_seesStanding 0 (nI w) (nI st) (nI c) h = some (bI (sn T w st c)) := by
  have n1 := (wf_1 hT (by omega)).2
  have hk : KD 2 = 1 := rfl
  obtain ⟨g1, -, -⟩ := hR.2.2.2.2.2.2 w hw
  obtain ⟨-, ⟨c2, d2⟩⟩ := wf_w hT (by omega) (show w < 6 by omega)
  have ht : tn T 13 % 12 < 12 := Nat.mod_lt _ (by omega)
  have hon := onT_lt hT (by omega)
  have hgl := gpl_le hT (by omega) (set := onT T) hst ht
  have hds := c_dayStep hT (show 46 ≤ 304 by omega) hR (show 0 < 1000 by omega)
  have hd := dist_le _ hst _ hc
  unfold fX8_seesStanding
  rw [z00, z10, c_on hT (by omega) hR, ob_s, p0, hds, ob_s, Nat.add_zero, c_gpl hT (show 46 ≤ 304 by omega) hR (show onT T < 2147483648 by omega) hst ht, ob_s, inb_nI (by omega), sz_X2_8 hk, oG_d (by omega), c_far _ hst _ hc, ob_s, ix_nI (by omega), g1, c2, c_sees _ d2 _ hd _ (by omega), ob_s, oG_of (bI_B _)]
  rfl
theorem c_game78 {T : Nat → Int32} {h : AH} {w a b dn st od os l4 p : Nat} (hT : WfU T 304) (hR : LaR 2 T h) (hw : w < tn T 1) (ha : a < 30) (hb : b < 30) (e1 : (st = a ∧ os = b) ∨ (st = b ∧ os = a)) (e2 : (dn = a ∧ od = b) ∨ (dn = b ∧ od = a)) (hp : p < 4) (k46 : Nat → Int32 → Int32 → Int32 → Int32 → Int32 → AH → Option (Int32 × AH)) : fX8_game_78 k46 0 (nI w) (nI a) (nI b) (nI l4) (nI p) (nI dn) (nI st) h = k46 0 (nI w) (nI a) (nI b) (nI (if (if sn T w st dn = true then sn T w st od else !(sn T w os dn)) = true then l4 ||| 2 ^ p else l4)) (nI (p + 1)) h := by
  have x1 : nI a + nI b - nI dn = nI od := by rw [nI_add, p_sub (by omega)]; congr 1; omega
  have x2 : nI a + nI b - nI st = nI os := by rw [nI_add, p_sub (by omega)]; congr 1; omega
  have y1 := c_seesSt (st := st) (c := dn) hT hR hw (by omega) (by omega)
  have y2 := c_seesSt (st := st) (c := od) hT hR hw (by omega) (by omega)
  have y3 := c_seesSt (st := os) (c := dn) hT hR hw (by omega) (by omega)
  have f0 : bI false = 0 := by decide
  have f1 : ¬ bI true = 0 := by decide
  have f2 : (0 : Int32) = 0 := rfl
  have f3 : ¬ (1 : Int32) = 0 := by decide
  unfold fX8_game_78
  rw [oL_d, oL_d, x1, x2, y1, ob_s]
  cases sn T w st dn with
  | true =>
    rw [if_neg f1, y2, ob_s]
    cases sn T w st od with
    | true =>
      rw [if_neg f1]
      unfold fX8_game_128 fX8_game_129
      rw [if_neg f1]
      unfold fX8_game_152 fX8_game_153
      rw [if_pos f2, if_pos f2, oL_d, oL_d, p1, p_shl (by omega), p_or, nI_add, Nat.one_mul]
      rfl
    | false =>
      rw [if_pos f0]
      unfold fX8_game_129
      rw [if_neg f1]
      unfold fX8_game_152 fX8_game_153
      rw [if_neg f3, oL_d, p1, nI_add]
      rfl
  | false =>
    rw [if_pos f0]
    unfold fX8_game_128 fX8_game_129
    rw [if_pos f0, y3, ob_s]
    cases sn T w os dn with
    | true =>
      rw [if_neg f1]
      unfold fX8_game_153
      rw [if_pos f2, if_neg f3, oL_d, p1, nI_add]
      rfl
    | false =>
      rw [if_pos f0]
      unfold fX8_game_152 fX8_game_153
      rw [if_pos f2, if_pos f2, oL_d, oL_d, p1, p_shl (by omega), p_or, nI_add, Nat.one_mul]
      rfl
theorem m_game84 {S : ST} {h : AH} {w a b st dn l4 p : Nat} (hM : MR S h) (hW : WfS S) (hw : w < 6) (hst : st < 30) (hdn : dn < 30) (hp : p < 4) (k40 : Nat → Int32 → Int32 → Int32 → Int32 → Int32 → AH → Option (Int32 × AH)) : fX9_game_84 k40 262 (nI w) (nI a) (nI b) (nI l4) (nI p) 263 (nI (tn (sT S) (40 + w))) (nI st) (nI dn) h = k40 262 (nI w) (nI a) (nI b) (nI (if sn (sT S) w st dn = true then l4 ||| 2 ^ p else l4)) (nI (p + 1)) h := by
  have hT := hW.1
  obtain ⟨-, ⟨c2, d2⟩⟩ := wf_w hT (by omega) hw
  have ht : tn (sT S) 13 % 12 < 12 := Nat.mod_lt _ (by omega)
  have hon := onT_lt hT (by omega)
  unfold fX9_game_84
  rw [q20, m_on hT (show 46 ≤ 304 by omega) hM.1 (by omega), ob_s, m_stepNow hM hW, ob_s, m_seesFrom hT (show 46 ≤ 304 by omega) hM.1 (by omega) d2 hst hdn (by omega) ht, ob_s, show se (tn (sT S) (40 + w)) (dist st dn) (gpl (sT S) (onT (sT S)) st (tn (sT S) 13 % 12)) = sn (sT S) w st dn from rfl]
  unfold fX9_game_115
  cases sn (sT S) w st dn with
  | true => rw [if_neg (by decide), oL_d, oL_d, p1, p_shl (by omega), p_or, nI_add, Nat.one_mul, if_pos rfl]
  | false => rw [if_pos (by decide), oL_d, oL_d, p0, p1, p_or, nI_add, Nat.or_zero, if_neg (by decide)]
theorem gm_x : ∀ p, p < 4 → (nI p ^^^ (2 : Int32)) = nI (p ^^^ 2) ∧ (nI p ^^^ (1 : Int32)) = nI (p ^^^ 1) ∧ p ^^^ 2 < 4 ∧ p ^^^ 1 < 4 := by decide +kernel
theorem op_game : OP_game RR := by
  rintro a1 a2 a3 h ⟨S, hW, hC, hM⟩
  have hT := hW.1
  have n1 := (wf_cnt hT).2.1.2
  have hLa : LaR 2 (sT S) h := hC.1.1
  have hbad : GO S (fX8_game_33 0 h) (fun h1 => fX9_game_27 262 h1) := GO.bad hW hC hM (fun h1 q => by unfold fX8_game_33; exact rf8 q) (fun h1 => rfl)
  refine GO.out (S := S) (f9 := fun h1 => fX9_game 262 a1 a2 a3 h1) ?_
  unfold fX8_game fX9_game
  simp only [z00, z10]
  refine GO.chk (c_hasWatcher hT (show 46 ≤ 304 by omega) hLa) (fun h1 hM1 => m_isWatcher hM1 hW) (fun _ => hbad) (fun b1 => ?_)
  refine GO.chk c_isCell (fun h1 hM1 => m_isCell) (fun _ => hbad) (fun b2 => ?_)
  refine GO.chk c_isCell (fun h1 hM1 => m_isCell) (fun _ => hbad) (fun b3 => ?_)
  by_cases eab : a2 = a3
  · exact hbad.cng (by rw [if_pos eab]) (fun h1 m1 => by show (if a2 = a3 then _ else _) = _; rw [if_pos eab])
  obtain ⟨w, rfl, hw⟩ := hs_nI (by omega) b1
  obtain ⟨a, rfl, -, ha⟩ := wi_nI (a := a2) (lo := 0) (hi := 29) (by omega) (by omega) b2
  obtain ⟨b, rfl, -, hb⟩ := wi_nI (a := a3) (lo := 0) (hi := 29) (by omega) (by omega) b3
  refine GO.ask hW hC hM (nI (gmS (wy (sT S) w a b) 4)) ⟨h, ?_, EqQ.rf⟩ (fun h1 m1 => ⟨h1, ?_, m1, Eqs.rf⟩)
  · rw [if_neg eab, p0]
    have stp : ∀ n, ∀ p st dn os od, p < 4 → ((st = a ∧ os = b) ∨ (st = b ∧ os = a)) → ((dn = a ∧ od = b) ∨ (dn = b ∧ od = a)) → wy (sT S) w a b p = sn (sT S) w st dn → wy (sT S) w a b (p ^^^ 1) = sn (sT S) w st od → wy (sT S) w a b (p ^^^ 2) = sn (sT S) w os dn → fX8_game_78 (fX8_game_46 n) 0 (nI w) (nI a) (nI b) (nI (gmS (wy (sT S) w a b) p)) (nI p) (nI dn) (nI st) h = fX8_game_46 n 0 (nI w) (nI a) (nI b) (nI (gmS (wy (sT S) w a b) (p + 1))) (nI (p + 1)) h := by
      intro n p st dn os od hp e1 e2 x1 x2 x3
      rw [c_game78 hT hLa hw (by omega) (by omega) e1 e2 hp, gmS]
      unfold gmB
      rw [x1, x2, x3]
    refine run_loop (fun n (s : Int32 × Int32) => fX8_game_46 n 0 (nI w) (nI a) (nI b) s.1 s.2 h) (fun p => (nI (gmS (wy (sT S) w a b) p), nI p)) 4 _ (fun n p hp => ?_) (fun n => ?_) FU (FU_lt (by omega))
    · show fX8_game_46 (n + 1) 0 (nI w) (nI a) (nI b) (nI (gmS (wy (sT S) w a b) p)) (nI p) h = fX8_game_46 n 0 (nI w) (nI a) (nI b) (nI (gmS (wy (sT S) w a b) (p + 1))) (nI (p + 1)) h
      rw [fX8_game_46]
      unfold fX8_game_64
      rcases (show p = 0 ∨ p = 1 ∨ p = 2 ∨ p = 3 by omega) with rfl | rfl | rfl | rfl
      · rw [if_neg (by decide), if_pos (by decide), if_pos (by decide)]
        exact stp n 0 a a b b (by omega) (Or.inl ⟨rfl, rfl⟩) (Or.inl ⟨rfl, rfl⟩) rfl rfl rfl
      · rw [if_neg (by decide), if_neg (by decide), if_pos (by decide)]
        exact stp n 1 a b b a (by omega) (Or.inl ⟨rfl, rfl⟩) (Or.inr ⟨rfl, rfl⟩) rfl rfl rfl
      · rw [if_neg (by decide), if_pos (by decide), if_neg (by decide)]
        exact stp n 2 b a a b (by omega) (Or.inr ⟨rfl, rfl⟩) (Or.inl ⟨rfl, rfl⟩) rfl rfl rfl
      · rw [if_neg (by decide), if_neg (by decide), if_neg (by decide)]
        exact stp n 3 b b a a (by omega) (Or.inr ⟨rfl, rfl⟩) (Or.inr ⟨rfl, rfl⟩) rfl rfl rfl
    · show fX8_game_46 (n + 1) 0 (nI w) (nI a) (nI b) (nI (gmS (wy (sT S) w a b) 4)) (nI 4) h = _
      rw [fX8_game_46, if_pos (by decide)]
  · show (if nI a = nI b then _ else _) = _
    rw [if_neg eab, p0]
    have hr := m1.1.2.2
    obtain ⟨-, ⟨c2, d2⟩⟩ := wf_w hT (by omega) (show w < 6 by omega)
    obtain ⟨sl, sb⟩ := smS_is (s := wy (sT S) w a b) 4
    have h2 : fX9_game_124 (nI (smS (wy (sT S) w a b) 4)) h1 = some (nI (gmS (wy (sT S) w a b) 4), h1) := by
      unfold fX9_game_124
      rw [p0]
      refine run_loop (fun n (s : Int32 × Int32) => fX9_game_130 n (nI (smS (wy (sT S) w a b) 4)) s.1 s.2 h1) (fun p => (nI (gmS (wy (sT S) w a b) p), nI p)) 4 _ (fun n p hp => ?_) (fun n => ?_) FU (FU_lt (by omega))
      · show fX9_game_130 (n + 1) (nI (smS (wy (sT S) w a b) 4)) (nI (gmS (wy (sT S) w a b) p)) (nI p) h1 = fX9_game_130 n (nI (smS (wy (sT S) w a b) 4)) (nI (gmS (wy (sT S) w a b) (p + 1))) (nI (p + 1)) h1
        obtain ⟨x1, x2, x3, x4⟩ := gm_x p hp
        have fin : ∀ v : Bool, fX9_game_175 (fX9_game_130 n) (nI (smS (wy (sT S) w a b) 4)) (nI (gmS (wy (sT S) w a b) p)) (nI p) (bI v) h1 = fX9_game_130 n (nI (smS (wy (sT S) w a b) 4)) (nI (if v = true then gmS (wy (sT S) w a b) p ||| 2 ^ p else gmS (wy (sT S) w a b) p)) (nI (p + 1)) h1 := by
          intro v
          unfold fX9_game_175 fX9_game_192
          cases v with
          | true => rw [if_neg (by decide), oL_d, oL_d, p1, p_shl (by omega), p_or, nI_add, Nat.one_mul, if_pos rfl]
          | false => rw [if_pos (by decide), oL_d, oL_d, p0, p1, p_or, nI_add, Nat.or_zero, if_neg (by decide)]
        rw [fX9_game_130, if_neg (by rw [p4, p_le (by omega) (by omega)]; omega), m_has (by omega) (by omega), ob_s, sb p hp, x1, x2, m_has (by omega) (by omega), m_has (by omega) (by omega), ob_s, ob_s, sb _ x3, sb _ x4, gmS]
        unfold gmB
        cases wy (sT S) w a b p with
        | true => rw [if_neg (by decide), fin]; simp only [if_true]
        | false =>
          rw [if_pos (by decide)]
          cases wy (sT S) w a b (p ^^^ 2) with
          | true => rw [if_neg (by decide)]; exact fin false
          | false => rw [if_pos (by decide)]; exact fin true
      · show fX9_game_130 (n + 1) (nI (smS (wy (sT S) w a b) 4)) (nI (gmS (wy (sT S) w a b) 4)) (nI 4) h1 = _
        rw [fX9_game_130, if_pos (by decide)]
    refine run_loop (fun n (s : Int32 × Int32) => fX9_game_40 n 262 (nI w) (nI a) (nI b) s.1 s.2 h1) (fun p => (nI (smS (wy (sT S) w a b) p), nI p)) 4 _ (fun n p hp => ?_) (fun n => ?_) FU (FU_lt (by omega))
    · show fX9_game_40 (n + 1) 262 (nI w) (nI a) (nI b) (nI (smS (wy (sT S) w a b) p)) (nI p) h1 = fX9_game_40 n 262 (nI w) (nI a) (nI b) (nI (smS (wy (sT S) w a b) (p + 1))) (nI (p + 1)) h1
      have e40 : hI h1 263 (40 + w) = nI (tn (sT S) (40 + w)) := (hr _ (by omega)).trans c2
      have f0 : bI false = 0 := by decide
      have f1 : ¬ bI true = 0 := by decide
      rw [fX9_game_40, if_neg (by rw [p4, p_le (by omega) (by omega)]; omega), q20, q20s, p40, nI_add, inb_nI (by omega), oG_d (by omega), ix_nI (by omega), e40, smS]
      rcases (show p = 0 ∨ p = 1 ∨ p = 2 ∨ p = 3 by omega) with rfl | rfl | rfl | rfl
      · rw [if_pos (show nI 0 ≤ (1 : Int32) by decide)]
        unfold fX9_game_70
        rw [p0, m_has (by omega) (by omega), ob_s, if_pos (show bI (Nat.testBit 0 0) = nI 0 by decide)]
        exact m_game84 (st := a) (dn := a) m1 hW (by omega) (by omega) (by omega) (by omega) _
      · rw [if_pos (show nI 1 ≤ (1 : Int32) by decide)]
        unfold fX9_game_70
        rw [p0, m_has (by omega) (by omega), ob_s, if_neg (show ¬ bI (Nat.testBit 1 0) = nI 0 by decide)]
        exact m_game84 (st := a) (dn := b) m1 hW (by omega) (by omega) (by omega) (by omega) _
      · rw [if_neg (show ¬ nI 2 ≤ (1 : Int32) by decide)]
        unfold fX9_game_70
        rw [p0, m_has (by omega) (by omega), ob_s, if_pos (show bI (Nat.testBit 2 0) = nI 0 by decide)]
        exact m_game84 (st := b) (dn := a) m1 hW (by omega) (by omega) (by omega) (by omega) _
      · rw [if_neg (show ¬ nI 3 ≤ (1 : Int32) by decide)]
        unfold fX9_game_70
        rw [p0, m_has (by omega) (by omega), ob_s, if_neg (show ¬ bI (Nat.testBit 3 0) = nI 0 by decide)]
        exact m_game84 (st := b) (dn := b) m1 hW (by omega) (by omega) (by omega) (by omega) _
    · show fX9_game_40 (n + 1) 262 (nI w) (nI a) (nI b) (nI (smS (wy (sT S) w a b) 4)) (nI 4) h1 = _
      rw [fX9_game_40, if_pos (by decide)]
      exact h2
