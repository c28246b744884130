/-! THE LAW -/
abbrev mi_L : MI := (x, code, 4, ret)
def FL (G : GG) (b : Addr) : FT1 := fun args s below => fun t => (args = #[Value.ref b] ∧ s.heap.size = G.1) → lw_Z below #[Value.ref b] s t
/-- what the start gives: the texts, the script -/
def EXL (G : GG) (adV : Nat → Nat) (fm : Option Nat) (b L : Nat) (xs : Nat → Int32) : State → Prop := fun U => EXs G adV fm U ∧ va_X b L xs U U.heap ∧ b < U.heap.size ∧ b < G.1
theorem EXL.ok {G : GG} {adV : Nat → Nat} {fm : Option Nat} {b L : Nat} {xs : Nat → Int32} : EXok G (EXL G adV fm b L xs) := by
  refine ⟨fun U g mk a h => ?_, fun s U hW hh h => ?_⟩
  · obtain ⟨h1, h2, h3, h4⟩ := h
    exact ⟨EXs.ok.1 U g mk a h1, va_X.moved (u := U) (U := U.calling g mk a) (Vm.Alike.refl U.vm) h2, h3, h4⟩
  · obtain ⟨h1, h2, h3, h4⟩ := h
    exact ⟨EXs.ok.2 s U hW hh h1, (h2.moved hW.alike).kept (hh.2 b h3 (Nat.not_le.mpr h4)), Nat.lt_of_lt_of_le h3 hh.1, h4⟩
theorem EXL.b {G : GG} {adV : Nat → Nat} {fm : Option Nat} {b L : Nat} {xs : Nat → Int32} : EXB G (EXL G adV fm b L xs) := ⟨EXL.ok, adV, fm, fun _ h => h.1⟩
section LV
variable {l : Launch} {G : GG} {M : MI} {rm : Room} {FIN : FT1} {k n pc q : Nat} {lv : List (Nat × Value)} {st : List Value} {h : FH} {adV : Nat → Nat} {fm : Option Nat} {b L : Nat} {xs : Nat → Int32}
theorem LW.sld {i : Int32} (hin : vp_in i L) (hdg : decode M.2.1 pc = .ok (.iaload, 1)) (hq : pc + 1 = q) (kk : V l G (EXL G adV fm b L xs) M rm FIN k n q lv (.int (xs i.toNatClampNeg) :: st) h) : V l G (EXL G adV fm b L xs) M rm FIN k n pc lv (.int i :: .ref b :: st) h := by
  subst hq
  intro p e s m args below meth c C0 H locs ls hP hS hb hl
  obtain ⟨h1, h2, h3, h4⟩ := C0.2.2.2.2.2.2.2.2.2
  exact va_sld C0.1 C0.2.1 h2 h3 (Nat.not_le.mpr h4) hS hin hdg (kk p e s m args below meth c C0 H locs ls hP hS hb hl)
theorem LW.slen (hdg : decode M.2.1 pc = .ok (.arraylength, 1)) (hq : pc + 1 = q) (kk : V l G (EXL G adV fm b L xs) M rm FIN k n q lv (.int (Int32.ofNat L) :: st) h) : V l G (EXL G adV fm b L xs) M rm FIN k n pc lv (.ref b :: st) h := by
  subst hq
  intro p e s m args below meth c C0 H locs ls hP hS hb hl
  obtain ⟨h1, h2, h3, h4⟩ := C0.2.2.2.2.2.2.2.2.2
  exact va_slen C0.1 C0.2.1 h2 h3 (Nat.not_le.mpr h4) hS hdg (kk p e s m args below meth c C0 H locs ls hP hS hb hl)
theorem LW.endl (hk : k ≤ 600000) (hn : n ≤ 7302250) (hdg : decode code pc = .ok (.ireturn, 1)) : V l G (EXL G adV fm b L xs) mi_L room_1 (FL G b) k n pc lv [.int 1] h := by
  intro p e s m args below meth c C0 H locs ls hP hS hb hl T hT X
  by_cases ha : args = #[Value.ref b] ∧ s.heap.size = G.1
  · obtain ⟨rfl, hz⟩ := ha
    have w : W p l e room_1 s m #[Value.ref b] below meth c H locs k n (lw_Z below #[Value.ref b] s) (F0 m pc ls [.int 1]) := by
      refine va_forget (fun q hq => by rw [hz]; exact hS.2.2 q hq) (W.widen hk hn ?_)
      exact lw_ret C0.1 C0.2.1 C0.2.2.2.1 C0.2.2.2.2.1 hdg
    obtain ⟨t, a1, b1⟩ := w T hT X
    exact ⟨t, a1, fun _ => b1⟩
  · exact ⟨_, Steps.refl _, fun q => absurd q ha⟩
theorem LW.callV {EX : State → Prop} {fr lo mc ms : Nat} {Mc : MI} {fr' lo' idx na o ci : Nat} {rc : vw_C} {As rest st' : List Value} {vc : Option Value} {h h' : AH} (hE : EXok G EX) (hM : MetU l G EX Mc fr' lo' (.ref (G.1 + o) :: As) h vc h') (hMc : MIc Mc na) (hna : As.length = na) (ho : KD o = ci) (hci : ci < 9) (hrc : vwCl[ci]? = some rc) (hrn : Mc.1.cls = rc.1) (hml : Cond.methodLink M.1.cls idx Mc.1 ∈ WS) (hin : Cond.instanceMethod Mc.1 ∈ WS) (hse : Cond.selects Mc.1.cls Mc.1 Mc.1 ∈ WS)
    (hr : fr' + 1 ≤ fr ∧ 8 + (Mc.2.2.1 + 11) + lo' ≤ lo) (hcat : (rest.map fun v => v.category).sum ≤ 8) (hf : k ≤ mc ∧ n ≤ ms) (hdg : decode M.2.1 pc = .ok (.invokevirtual idx, 3)) (hstack : st = As.reverse ++ .ref (G.1 + o) :: rest) (hq : pc + 3 = q) (hst' : vc.toList ++ rest = st')
    (kk : V l G EX M ⟨fr, mc, ms, lo⟩ FIN k n q lv st' (up h')) : V l G EX M ⟨fr, mc, ms, lo⟩ FIN k n pc lv st (up h) := by
  subst hst'
  refine V.callV hE hMc hna ho hci (KD_lt' ho (by omega)) hrc hrn hM hml hin hse hr hcat hf hdg hstack hq ?_
  rintro _ _ ⟨rfl, rfl⟩
  exact kk
end LV
theorem nI_plus (a b : Nat) : nI a + nI b = nI (a + b) := nI_add a b
theorem lg_self (v : Int64) : lg_cmp v v = 0 := by
  unfold lg_cmp
  first | (simp; done) | (rw [if_neg (by simp), if_neg (by simp)]) | (split <;> simp_all) | (simp [Int64.lt_irrefl]; done)

set_option maxRecDepth 100000 in
set_option maxHeartbeats 4000000 in
theorem law_land {l : Launch} {G : GG} {adV : Nat → Nat} {fm : Option Nat} {b L : Nat} {xs : Nat → Int32} {R : AH → Prop} (ops : OP_land R) {j : Nat} (hj : j + 6 ≤ L) (hL : L ≤ 384) {h : AH} (hR : R h) (kk : ∀ h2, R h2 → V l G (EXL G adV fm b L xs) mi_L ⟨13, 600000, 7302250, 508⟩ (FL G b) 275 3257 1367 [(0, .ref b), (1, .ref (G.1 + 0)), (2, .ref (G.1 + 262)), (3, .int (nI j))] [] (up h2)) : V l G (EXL G adV fm b L xs) mi_L ⟨13, 600000, 7302250, 508⟩ (FL G b) 275 3257 212 [(0, .ref b), (1, .ref (G.1 + 0)), (2, .ref (G.1 + 262)), (3, .int (nI j))] [] (up h) := by
  have hL31 : L < 2 ^ 31 := by omega
  obtain ⟨v, h1, h2, e1, e2, hR2⟩ := ops h hR
  refine V.aload_n (j := 1) dL_law_212 rfl rfl rfl ?_
  refine LW.callV (As := []) (rest := []) (st' := [.int v]) EXL.ok (mX8_land EXL.b (by decide) e1) mic_X8_land rfl (show KD 0 = 7 by decide) (by decide) rfl rfl wq_m_L_13 wq_i_yX8_land wq_s_yX8_land ⟨Nat.le_of_ble_eq_true rfl, Nat.le_of_ble_eq_true rfl⟩ (Nat.le_of_ble_eq_true rfl) ⟨Nat.le_of_ble_eq_true rfl, Nat.le_of_ble_eq_true rfl⟩ dL_law_213 rfl rfl rfl ?_
  refine V.aload_n (j := 2) dL_law_216 rfl rfl rfl ?_
  refine LW.callV (As := []) (rest := [.int v]) (st' := [.int v, .int v]) EXL.ok (mX9_land EXL.b (by decide) e2) mic_X9_land rfl (show KD 262 = 8 by decide) (by decide) rfl rfl wq_m_L_17 wq_i_yX9_land wq_s_yX9_land ⟨Nat.le_of_ble_eq_true rfl, Nat.le_of_ble_eq_true rfl⟩ (Nat.le_of_ble_eq_true rfl) ⟨Nat.le_of_ble_eq_true rfl, Nat.le_of_ble_eq_true rfl⟩ dL_law_217 rfl rfl rfl ?_
  refine V.icmp_eq (tgt := 1367) (A := some 0) (B := (none : Option Nat)) (r := 0) (if_pos rfl) dL_law_220 (by decide) rfl (fun _ => ?_) (fun hx => by cases hx)
  exact kk _ hR2
set_option maxRecDepth 100000 in
set_option maxHeartbeats 4000000 in
theorem law_show {l : Launch} {G : GG} {adV : Nat → Nat} {fm : Option Nat} {b L : Nat} {xs : Nat → Int32} {R : AH → Prop} (ops : OP_show R) {j : Nat} (hj : j + 6 ≤ L) (hL : L ≤ 384) {h : AH} (hR : R h) (kk : ∀ h2, R h2 → V l G (EXL G adV fm b L xs) mi_L ⟨13, 600000, 7302250, 508⟩ (FL G b) 275 3257 1367 [(0, .ref b), (1, .ref (G.1 + 0)), (2, .ref (G.1 + 262)), (3, .int (nI j))] [] (up h2)) : V l G (EXL G adV fm b L xs) mi_L ⟨13, 600000, 7302250, 508⟩ (FL G b) 275 3257 225 [(0, .ref b), (1, .ref (G.1 + 0)), (2, .ref (G.1 + 262)), (3, .int (nI j))] [] (up h) := by
  have hL31 : L < 2 ^ 31 := by omega
  obtain ⟨v, h1, h2, e1, e2, hR2⟩ := ops (xs (j + 1)) (xs (j + 2)) (xs (j + 3)) h hR
  refine V.aload_n (j := 1) dL_law_225 rfl rfl rfl ?_
  refine V.aload_n (j := 0) dL_law_226 rfl rfl rfl ?_
  refine V.iload_n (j := 3) dL_law_227 rfl rfl rfl ?_
  refine V.iconst dL_law_228 rfl ki_1 ?_
  refine V.iadd dL_law_229 rfl ?_
  rw [show nI j + (1 : Int32) = nI (j + 1) from nI_plus j 1]
  refine LW.sld (vp_in_nI (show j + 1 < L by omega) hL31) dL_law_230 rfl ?_
  rw [nI_clamp (show j + 1 < 2 ^ 31 by omega)]
  refine V.aload_n (j := 0) dL_law_231 rfl rfl rfl ?_
  refine V.iload_n (j := 3) dL_law_232 rfl rfl rfl ?_
  refine V.iconst dL_law_233 rfl ki_2 ?_
  refine V.iadd dL_law_234 rfl ?_
  rw [show nI j + (2 : Int32) = nI (j + 2) from nI_plus j 2]
  refine LW.sld (vp_in_nI (show j + 2 < L by omega) hL31) dL_law_235 rfl ?_
  rw [nI_clamp (show j + 2 < 2 ^ 31 by omega)]
  refine V.aload_n (j := 0) dL_law_236 rfl rfl rfl ?_
  refine V.iload_n (j := 3) dL_law_237 rfl rfl rfl ?_
  refine V.iconst dL_law_238 rfl ki_3 ?_
  refine V.iadd dL_law_239 rfl ?_
  rw [show nI j + (3 : Int32) = nI (j + 3) from nI_plus j 3]
  refine LW.sld (vp_in_nI (show j + 3 < L by omega) hL31) dL_law_240 rfl ?_
  rw [nI_clamp (show j + 3 < 2 ^ 31 by omega)]
  refine LW.callV (As := [.int (xs (j + 1)), .int (xs (j + 2)), .int (xs (j + 3))]) (rest := []) (st' := [.int v]) EXL.ok (mX8_show EXL.b (by decide) e1) mic_X8_show rfl (show KD 0 = 7 by decide) (by decide) rfl rfl wq_m_L_18 wq_i_yX8_show wq_s_yX8_show ⟨Nat.le_of_ble_eq_true rfl, Nat.le_of_ble_eq_true rfl⟩ (Nat.le_of_ble_eq_true rfl) ⟨Nat.le_of_ble_eq_true rfl, Nat.le_of_ble_eq_true rfl⟩ dL_law_241 rfl rfl rfl ?_
  refine V.aload_n (j := 2) dL_law_244 rfl rfl rfl ?_
  refine V.aload_n (j := 0) dL_law_245 rfl rfl rfl ?_
  refine V.iload_n (j := 3) dL_law_246 rfl rfl rfl ?_
  refine V.iconst dL_law_247 rfl ki_1 ?_
  refine V.iadd dL_law_248 rfl ?_
  rw [show nI j + (1 : Int32) = nI (j + 1) from nI_plus j 1]
  refine LW.sld (vp_in_nI (show j + 1 < L by omega) hL31) dL_law_249 rfl ?_
  rw [nI_clamp (show j + 1 < 2 ^ 31 by omega)]
  refine V.aload_n (j := 0) dL_law_250 rfl rfl rfl ?_
  refine V.iload_n (j := 3) dL_law_251 rfl rfl rfl ?_
  refine V.iconst dL_law_252 rfl ki_2 ?_
  refine V.iadd dL_law_253 rfl ?_
  rw [show nI j + (2 : Int32) = nI (j + 2) from nI_plus j 2]
  refine LW.sld (vp_in_nI (show j + 2 < L by omega) hL31) dL_law_254 rfl ?_
  rw [nI_clamp (show j + 2 < 2 ^ 31 by omega)]
  refine V.aload_n (j := 0) dL_law_255 rfl rfl rfl ?_
  refine V.iload_n (j := 3) dL_law_256 rfl rfl rfl ?_
  refine V.iconst dL_law_257 rfl ki_3 ?_
  refine V.iadd dL_law_258 rfl ?_
  rw [show nI j + (3 : Int32) = nI (j + 3) from nI_plus j 3]
  refine LW.sld (vp_in_nI (show j + 3 < L by omega) hL31) dL_law_259 rfl ?_
  rw [nI_clamp (show j + 3 < 2 ^ 31 by omega)]
  refine LW.callV (As := [.int (xs (j + 1)), .int (xs (j + 2)), .int (xs (j + 3))]) (rest := [.int v]) (st' := [.int v, .int v]) EXL.ok (mX9_show EXL.b (by decide) e2) mic_X9_show rfl (show KD 262 = 8 by decide) (by decide) rfl rfl wq_m_L_22 wq_i_yX9_show wq_s_yX9_show ⟨Nat.le_of_ble_eq_true rfl, Nat.le_of_ble_eq_true rfl⟩ (Nat.le_of_ble_eq_true rfl) ⟨Nat.le_of_ble_eq_true rfl, Nat.le_of_ble_eq_true rfl⟩ dL_law_260 rfl rfl rfl ?_
  refine V.icmp_eq (tgt := 1367) (A := some 0) (B := (none : Option Nat)) (r := 0) (if_pos rfl) dL_law_263 (by decide) rfl (fun _ => ?_) (fun hx => by cases hx)
  exact kk _ hR2
set_option maxRecDepth 100000 in
set_option maxHeartbeats 4000000 in
theorem law_watcher {l : Launch} {G : GG} {adV : Nat → Nat} {fm : Option Nat} {b L : Nat} {xs : Nat → Int32} {R : AH → Prop} (ops : OP_watcher R) {j : Nat} (hj : j + 6 ≤ L) (hL : L ≤ 384) {h : AH} (hR : R h) (kk : ∀ h2, R h2 → V l G (EXL G adV fm b L xs) mi_L ⟨13, 600000, 7302250, 508⟩ (FL G b) 275 3257 1367 [(0, .ref b), (1, .ref (G.1 + 0)), (2, .ref (G.1 + 262)), (3, .int (nI j))] [] (up h2)) : V l G (EXL G adV fm b L xs) mi_L ⟨13, 600000, 7302250, 508⟩ (FL G b) 275 3257 268 [(0, .ref b), (1, .ref (G.1 + 0)), (2, .ref (G.1 + 262)), (3, .int (nI j))] [] (up h) := by
  have hL31 : L < 2 ^ 31 := by omega
  obtain ⟨v, h1, h2, e1, e2, hR2⟩ := ops (xs (j + 1)) (xs (j + 2)) h hR
  refine V.aload_n (j := 1) dL_law_268 rfl rfl rfl ?_
  refine V.aload_n (j := 0) dL_law_269 rfl rfl rfl ?_
  refine V.iload_n (j := 3) dL_law_270 rfl rfl rfl ?_
  refine V.iconst dL_law_271 rfl ki_1 ?_
  refine V.iadd dL_law_272 rfl ?_
  rw [show nI j + (1 : Int32) = nI (j + 1) from nI_plus j 1]
  refine LW.sld (vp_in_nI (show j + 1 < L by omega) hL31) dL_law_273 rfl ?_
  rw [nI_clamp (show j + 1 < 2 ^ 31 by omega)]
  refine V.aload_n (j := 0) dL_law_274 rfl rfl rfl ?_
  refine V.iload_n (j := 3) dL_law_275 rfl rfl rfl ?_
  refine V.iconst dL_law_276 rfl ki_2 ?_
  refine V.iadd dL_law_277 rfl ?_
  rw [show nI j + (2 : Int32) = nI (j + 2) from nI_plus j 2]
  refine LW.sld (vp_in_nI (show j + 2 < L by omega) hL31) dL_law_278 rfl ?_
  rw [nI_clamp (show j + 2 < 2 ^ 31 by omega)]
  refine LW.callV (As := [.int (xs (j + 1)), .int (xs (j + 2))]) (rest := []) (st' := [.int v]) EXL.ok (mX8_watcher EXL.b (by decide) e1) mic_X8_watcher rfl (show KD 0 = 7 by decide) (by decide) rfl rfl wq_m_L_23 wq_i_yX8_watcher wq_s_yX8_watcher ⟨Nat.le_of_ble_eq_true rfl, Nat.le_of_ble_eq_true rfl⟩ (Nat.le_of_ble_eq_true rfl) ⟨Nat.le_of_ble_eq_true rfl, Nat.le_of_ble_eq_true rfl⟩ dL_law_279 rfl rfl rfl ?_
  refine V.aload_n (j := 2) dL_law_282 rfl rfl rfl ?_
  refine V.aload_n (j := 0) dL_law_283 rfl rfl rfl ?_
  refine V.iload_n (j := 3) dL_law_284 rfl rfl rfl ?_
  refine V.iconst dL_law_285 rfl ki_1 ?_
  refine V.iadd dL_law_286 rfl ?_
  rw [show nI j + (1 : Int32) = nI (j + 1) from nI_plus j 1]
  refine LW.sld (vp_in_nI (show j + 1 < L by omega) hL31) dL_law_287 rfl ?_
  rw [nI_clamp (show j + 1 < 2 ^ 31 by omega)]
  refine V.aload_n (j := 0) dL_law_288 rfl rfl rfl ?_
  refine V.iload_n (j := 3) dL_law_289 rfl rfl rfl ?_
  refine V.iconst dL_law_290 rfl ki_2 ?_
  refine V.iadd dL_law_291 rfl ?_
  rw [show nI j + (2 : Int32) = nI (j + 2) from nI_plus j 2]
  refine LW.sld (vp_in_nI (show j + 2 < L by omega) hL31) dL_law_292 rfl ?_
  rw [nI_clamp (show j + 2 < 2 ^ 31 by omega)]
  refine LW.callV (As := [.int (xs (j + 1)), .int (xs (j + 2))]) (rest := [.int v]) (st' := [.int v, .int v]) EXL.ok (mX9_watcher EXL.b (by decide) e2) mic_X9_watcher rfl (show KD 262 = 8 by decide) (by decide) rfl rfl wq_m_L_27 wq_i_yX9_watcher wq_s_yX9_watcher ⟨Nat.le_of_ble_eq_true rfl, Nat.le_of_ble_eq_true rfl⟩ (Nat.le_of_ble_eq_true rfl) ⟨Nat.le_of_ble_eq_true rfl, Nat.le_of_ble_eq_true rfl⟩ dL_law_293 rfl rfl rfl ?_
  refine V.icmp_eq (tgt := 1367) (A := some 0) (B := (none : Option Nat)) (r := 0) (if_pos rfl) dL_law_296 (by decide) rfl (fun _ => ?_) (fun hx => by cases hx)
  exact kk _ hR2
set_option maxRecDepth 100000 in
set_option maxHeartbeats 4000000 in
theorem law_type {l : Launch} {G : GG} {adV : Nat → Nat} {fm : Option Nat} {b L : Nat} {xs : Nat → Int32} {R : AH → Prop} (ops : OP_type R) {j : Nat} (hj : j + 6 ≤ L) (hL : L ≤ 384) {h : AH} (hR : R h) (kk : ∀ h2, R h2 → V l G (EXL G adV fm b L xs) mi_L ⟨13, 600000, 7302250, 508⟩ (FL G b) 275 3257 1367 [(0, .ref b), (1, .ref (G.1 + 0)), (2, .ref (G.1 + 262)), (3, .int (nI j))] [] (up h2)) : V l G (EXL G adV fm b L xs) mi_L ⟨13, 600000, 7302250, 508⟩ (FL G b) 275 3257 301 [(0, .ref b), (1, .ref (G.1 + 0)), (2, .ref (G.1 + 262)), (3, .int (nI j))] [] (up h) := by
  have hL31 : L < 2 ^ 31 := by omega
  obtain ⟨v, h1, h2, e1, e2, hR2⟩ := ops (xs (j + 1)) h hR
  refine V.aload_n (j := 1) dL_law_301 rfl rfl rfl ?_
  refine V.aload_n (j := 0) dL_law_302 rfl rfl rfl ?_
  refine V.iload_n (j := 3) dL_law_303 rfl rfl rfl ?_
  refine V.iconst dL_law_304 rfl ki_1 ?_
  refine V.iadd dL_law_305 rfl ?_
  rw [show nI j + (1 : Int32) = nI (j + 1) from nI_plus j 1]
  refine LW.sld (vp_in_nI (show j + 1 < L by omega) hL31) dL_law_306 rfl ?_
  rw [nI_clamp (show j + 1 < 2 ^ 31 by omega)]
  refine LW.callV (As := [.int (xs (j + 1))]) (rest := []) (st' := [.int v]) EXL.ok (mX8_type EXL.b (by decide) e1) mic_X8_type rfl (show KD 0 = 7 by decide) (by decide) rfl rfl wq_m_L_28 wq_i_yX8_type wq_s_yX8_type ⟨Nat.le_of_ble_eq_true rfl, Nat.le_of_ble_eq_true rfl⟩ (Nat.le_of_ble_eq_true rfl) ⟨Nat.le_of_ble_eq_true rfl, Nat.le_of_ble_eq_true rfl⟩ dL_law_307 rfl rfl rfl ?_
  refine V.aload_n (j := 2) dL_law_310 rfl rfl rfl ?_
  refine V.aload_n (j := 0) dL_law_311 rfl rfl rfl ?_
  refine V.iload_n (j := 3) dL_law_312 rfl rfl rfl ?_
  refine V.iconst dL_law_313 rfl ki_1 ?_
  refine V.iadd dL_law_314 rfl ?_
  rw [show nI j + (1 : Int32) = nI (j + 1) from nI_plus j 1]
  refine LW.sld (vp_in_nI (show j + 1 < L by omega) hL31) dL_law_315 rfl ?_
  rw [nI_clamp (show j + 1 < 2 ^ 31 by omega)]
  refine LW.callV (As := [.int (xs (j + 1))]) (rest := [.int v]) (st' := [.int v, .int v]) EXL.ok (mX9_type EXL.b (by decide) e2) mic_X9_type rfl (show KD 262 = 8 by decide) (by decide) rfl rfl wq_m_L_32 wq_i_yX9_type wq_s_yX9_type ⟨Nat.le_of_ble_eq_true rfl, Nat.le_of_ble_eq_true rfl⟩ (Nat.le_of_ble_eq_true rfl) ⟨Nat.le_of_ble_eq_true rfl, Nat.le_of_ble_eq_true rfl⟩ dL_law_316 rfl rfl rfl ?_
  refine V.icmp_eq (tgt := 1367) (A := some 0) (B := (none : Option Nat)) (r := 0) (if_pos rfl) dL_law_319 (by decide) rfl (fun _ => ?_) (fun hx => by cases hx)
  exact kk _ hR2
set_option maxRecDepth 100000 in
set_option maxHeartbeats 4000000 in
theorem law_clear {l : Launch} {G : GG} {adV : Nat → Nat} {fm : Option Nat} {b L : Nat} {xs : Nat → Int32} {R : AH → Prop} (ops : OP_clear R) {j : Nat} (hj : j + 6 ≤ L) (hL : L ≤ 384) {h : AH} (hR : R h) (kk : ∀ h2, R h2 → V l G (EXL G adV fm b L xs) mi_L ⟨13, 600000, 7302250, 508⟩ (FL G b) 275 3257 1367 [(0, .ref b), (1, .ref (G.1 + 0)), (2, .ref (G.1 + 262)), (3, .int (nI j))] [] (up h2)) : V l G (EXL G adV fm b L xs) mi_L ⟨13, 600000, 7302250, 508⟩ (FL G b) 275 3257 324 [(0, .ref b), (1, .ref (G.1 + 0)), (2, .ref (G.1 + 262)), (3, .int (nI j))] [] (up h) := by
  have hL31 : L < 2 ^ 31 := by omega
  obtain ⟨v, h1, h2, e1, e2, hR2⟩ := ops h hR
  refine V.aload_n (j := 1) dL_law_324 rfl rfl rfl ?_
  refine LW.callV (As := []) (rest := []) (st' := [.int v]) EXL.ok (mX8_clear EXL.b (by decide) e1) mic_X8_clear rfl (show KD 0 = 7 by decide) (by decide) rfl rfl wq_m_L_33 wq_i_yX8_clear wq_s_yX8_clear ⟨Nat.le_of_ble_eq_true rfl, Nat.le_of_ble_eq_true rfl⟩ (Nat.le_of_ble_eq_true rfl) ⟨Nat.le_of_ble_eq_true rfl, Nat.le_of_ble_eq_true rfl⟩ dL_law_325 rfl rfl rfl ?_
  refine V.aload_n (j := 2) dL_law_328 rfl rfl rfl ?_
  refine LW.callV (As := []) (rest := [.int v]) (st' := [.int v, .int v]) EXL.ok (mX9_clear EXL.b (by decide) e2) mic_X9_clear rfl (show KD 262 = 8 by decide) (by decide) rfl rfl wq_m_L_36 wq_i_yX9_clear wq_s_yX9_clear ⟨Nat.le_of_ble_eq_true rfl, Nat.le_of_ble_eq_true rfl⟩ (Nat.le_of_ble_eq_true rfl) ⟨Nat.le_of_ble_eq_true rfl, Nat.le_of_ble_eq_true rfl⟩ dL_law_329 rfl rfl rfl ?_
  refine V.icmp_eq (tgt := 1367) (A := some 0) (B := (none : Option Nat)) (r := 0) (if_pos rfl) dL_law_332 (by decide) rfl (fun _ => ?_) (fun hx => by cases hx)
  exact kk _ hR2
set_option maxRecDepth 100000 in
set_option maxHeartbeats 4000000 in
theorem law_read {l : Launch} {G : GG} {adV : Nat → Nat} {fm : Option Nat} {b L : Nat} {xs : Nat → Int32} {R : AH → Prop} (ops : OP_read R) {j : Nat} (hj : j + 6 ≤ L) (hL : L ≤ 384) {h : AH} (hR : R h) (kk : ∀ h2, R h2 → V l G (EXL G adV fm b L xs) mi_L ⟨13, 600000, 7302250, 508⟩ (FL G b) 275 3257 1367 [(0, .ref b), (1, .ref (G.1 + 0)), (2, .ref (G.1 + 262)), (3, .int (nI j))] [] (up h2)) : V l G (EXL G adV fm b L xs) mi_L ⟨13, 600000, 7302250, 508⟩ (FL G b) 275 3257 337 [(0, .ref b), (1, .ref (G.1 + 0)), (2, .ref (G.1 + 262)), (3, .int (nI j))] [] (up h) := by
  have hL31 : L < 2 ^ 31 := by omega
  obtain ⟨v, h1, h2, e1, e2, hR2⟩ := ops h hR
  refine V.aload_n (j := 1) dL_law_337 rfl rfl rfl ?_
  refine LW.callV (As := []) (rest := []) (st' := [.int v]) EXL.ok (mX8_read EXL.b (by decide) e1) mic_X8_read rfl (show KD 0 = 7 by decide) (by decide) rfl rfl wq_m_L_37 wq_i_yX8_read wq_s_yX8_read ⟨Nat.le_of_ble_eq_true rfl, Nat.le_of_ble_eq_true rfl⟩ (Nat.le_of_ble_eq_true rfl) ⟨Nat.le_of_ble_eq_true rfl, Nat.le_of_ble_eq_true rfl⟩ dL_law_338 rfl rfl rfl ?_
  refine V.aload_n (j := 2) dL_law_341 rfl rfl rfl ?_
  refine LW.callV (As := []) (rest := [.int v]) (st' := [.int v, .int v]) EXL.ok (mX9_read EXL.b (by decide) e2) mic_X9_read rfl (show KD 262 = 8 by decide) (by decide) rfl rfl wq_m_L_40 wq_i_yX9_read wq_s_yX9_read ⟨Nat.le_of_ble_eq_true rfl, Nat.le_of_ble_eq_true rfl⟩ (Nat.le_of_ble_eq_true rfl) ⟨Nat.le_of_ble_eq_true rfl, Nat.le_of_ble_eq_true rfl⟩ dL_law_342 rfl rfl rfl ?_
  refine V.icmp_eq (tgt := 1367) (A := some 0) (B := (none : Option Nat)) (r := 0) (if_pos rfl) dL_law_345 (by decide) rfl (fun _ => ?_) (fun hx => by cases hx)
  exact kk _ hR2
set_option maxRecDepth 100000 in
set_option maxHeartbeats 4000000 in
theorem law_does {l : Launch} {G : GG} {adV : Nat → Nat} {fm : Option Nat} {b L : Nat} {xs : Nat → Int32} {R : AH → Prop} (ops : OP_does R) {j : Nat} (hj : j + 6 ≤ L) (hL : L ≤ 384) {h : AH} (hR : R h) (kk : ∀ h2, R h2 → V l G (EXL G adV fm b L xs) mi_L ⟨13, 600000, 7302250, 508⟩ (FL G b) 275 3257 1367 [(0, .ref b), (1, .ref (G.1 + 0)), (2, .ref (G.1 + 262)), (3, .int (nI j))] [] (up h2)) : V l G (EXL G adV fm b L xs) mi_L ⟨13, 600000, 7302250, 508⟩ (FL G b) 275 3257 350 [(0, .ref b), (1, .ref (G.1 + 0)), (2, .ref (G.1 + 262)), (3, .int (nI j))] [] (up h) := by
  have hL31 : L < 2 ^ 31 := by omega
  obtain ⟨v, h1, h2, e1, e2, hR2⟩ := ops (xs (j + 1)) h hR
  refine V.aload_n (j := 1) dL_law_350 rfl rfl rfl ?_
  refine V.aload_n (j := 0) dL_law_351 rfl rfl rfl ?_
  refine V.iload_n (j := 3) dL_law_352 rfl rfl rfl ?_
  refine V.iconst dL_law_353 rfl ki_1 ?_
  refine V.iadd dL_law_354 rfl ?_
  rw [show nI j + (1 : Int32) = nI (j + 1) from nI_plus j 1]
  refine LW.sld (vp_in_nI (show j + 1 < L by omega) hL31) dL_law_355 rfl ?_
  rw [nI_clamp (show j + 1 < 2 ^ 31 by omega)]
  refine LW.callV (As := [.int (xs (j + 1))]) (rest := []) (st' := [.int v]) EXL.ok (mX8_does EXL.b (by decide) e1) mic_X8_does rfl (show KD 0 = 7 by decide) (by decide) rfl rfl wq_m_L_41 wq_i_yX8_does wq_s_yX8_does ⟨Nat.le_of_ble_eq_true rfl, Nat.le_of_ble_eq_true rfl⟩ (Nat.le_of_ble_eq_true rfl) ⟨Nat.le_of_ble_eq_true rfl, Nat.le_of_ble_eq_true rfl⟩ dL_law_356 rfl rfl rfl ?_
  refine V.aload_n (j := 2) dL_law_359 rfl rfl rfl ?_
  refine V.aload_n (j := 0) dL_law_360 rfl rfl rfl ?_
  refine V.iload_n (j := 3) dL_law_361 rfl rfl rfl ?_
  refine V.iconst dL_law_362 rfl ki_1 ?_
  refine V.iadd dL_law_363 rfl ?_
  rw [show nI j + (1 : Int32) = nI (j + 1) from nI_plus j 1]
  refine LW.sld (vp_in_nI (show j + 1 < L by omega) hL31) dL_law_364 rfl ?_
  rw [nI_clamp (show j + 1 < 2 ^ 31 by omega)]
  refine LW.callV (As := [.int (xs (j + 1))]) (rest := [.int v]) (st' := [.int v, .int v]) EXL.ok (mX9_does EXL.b (by decide) e2) mic_X9_does rfl (show KD 262 = 8 by decide) (by decide) rfl rfl wq_m_L_44 wq_i_yX9_does wq_s_yX9_does ⟨Nat.le_of_ble_eq_true rfl, Nat.le_of_ble_eq_true rfl⟩ (Nat.le_of_ble_eq_true rfl) ⟨Nat.le_of_ble_eq_true rfl, Nat.le_of_ble_eq_true rfl⟩ dL_law_365 rfl rfl rfl ?_
  refine V.icmp_eq (tgt := 1367) (A := some 0) (B := (none : Option Nat)) (r := 0) (if_pos rfl) dL_law_368 (by decide) rfl (fun _ => ?_) (fun hx => by cases hx)
  exact kk _ hR2
set_option maxRecDepth 100000 in
set_option maxHeartbeats 4000000 in
theorem law_rest {l : Launch} {G : GG} {adV : Nat → Nat} {fm : Option Nat} {b L : Nat} {xs : Nat → Int32} {R : AH → Prop} (ops : OP_rest R) {j : Nat} (hj : j + 6 ≤ L) (hL : L ≤ 384) {h : AH} (hR : R h) (kk : ∀ h2, R h2 → V l G (EXL G adV fm b L xs) mi_L ⟨13, 600000, 7302250, 508⟩ (FL G b) 275 3257 1367 [(0, .ref b), (1, .ref (G.1 + 0)), (2, .ref (G.1 + 262)), (3, .int (nI j))] [] (up h2)) : V l G (EXL G adV fm b L xs) mi_L ⟨13, 600000, 7302250, 508⟩ (FL G b) 275 3257 373 [(0, .ref b), (1, .ref (G.1 + 0)), (2, .ref (G.1 + 262)), (3, .int (nI j))] [] (up h) := by
  have hL31 : L < 2 ^ 31 := by omega
  obtain ⟨v, h1, h2, e1, e2, hR2⟩ := ops (xs (j + 1)) h hR
  refine V.aload_n (j := 1) dL_law_373 rfl rfl rfl ?_
  refine V.aload_n (j := 0) dL_law_374 rfl rfl rfl ?_
  refine V.iload_n (j := 3) dL_law_375 rfl rfl rfl ?_
  refine V.iconst dL_law_376 rfl ki_1 ?_
  refine V.iadd dL_law_377 rfl ?_
  rw [show nI j + (1 : Int32) = nI (j + 1) from nI_plus j 1]
  refine LW.sld (vp_in_nI (show j + 1 < L by omega) hL31) dL_law_378 rfl ?_
  rw [nI_clamp (show j + 1 < 2 ^ 31 by omega)]
  refine LW.callV (As := [.int (xs (j + 1))]) (rest := []) (st' := [.int v]) EXL.ok (mX8_rest EXL.b (by decide) e1) mic_X8_rest rfl (show KD 0 = 7 by decide) (by decide) rfl rfl wq_m_L_45 wq_i_yX8_rest wq_s_yX8_rest ⟨Nat.le_of_ble_eq_true rfl, Nat.le_of_ble_eq_true rfl⟩ (Nat.le_of_ble_eq_true rfl) ⟨Nat.le_of_ble_eq_true rfl, Nat.le_of_ble_eq_true rfl⟩ dL_law_379 rfl rfl rfl ?_
  refine V.aload_n (j := 2) dL_law_382 rfl rfl rfl ?_
  refine V.aload_n (j := 0) dL_law_383 rfl rfl rfl ?_
  refine V.iload_n (j := 3) dL_law_384 rfl rfl rfl ?_
  refine V.iconst dL_law_385 rfl ki_1 ?_
  refine V.iadd dL_law_386 rfl ?_
  rw [show nI j + (1 : Int32) = nI (j + 1) from nI_plus j 1]
  refine LW.sld (vp_in_nI (show j + 1 < L by omega) hL31) dL_law_387 rfl ?_
  rw [nI_clamp (show j + 1 < 2 ^ 31 by omega)]
  refine LW.callV (As := [.int (xs (j + 1))]) (rest := [.int v]) (st' := [.int v, .int v]) EXL.ok (mX9_rest EXL.b (by decide) e2) mic_X9_rest rfl (show KD 262 = 8 by decide) (by decide) rfl rfl wq_m_L_48 wq_i_yX9_rest wq_s_yX9_rest ⟨Nat.le_of_ble_eq_true rfl, Nat.le_of_ble_eq_true rfl⟩ (Nat.le_of_ble_eq_true rfl) ⟨Nat.le_of_ble_eq_true rfl, Nat.le_of_ble_eq_true rfl⟩ dL_law_388 rfl rfl rfl ?_
  refine V.icmp_eq (tgt := 1367) (A := some 0) (B := (none : Option Nat)) (r := 0) (if_pos rfl) dL_law_391 (by decide) rfl (fun _ => ?_) (fun hx => by cases hx)
  exact kk _ hR2
set_option maxRecDepth 100000 in
set_option maxHeartbeats 4000000 in
theorem law_moves {l : Launch} {G : GG} {adV : Nat → Nat} {fm : Option Nat} {b L : Nat} {xs : Nat → Int32} {R : AH → Prop} (ops : OP_moves R) {j : Nat} (hj : j + 6 ≤ L) (hL : L ≤ 384) {h : AH} (hR : R h) (kk : ∀ h2, R h2 → V l G (EXL G adV fm b L xs) mi_L ⟨13, 600000, 7302250, 508⟩ (FL G b) 275 3257 1367 [(0, .ref b), (1, .ref (G.1 + 0)), (2, .ref (G.1 + 262)), (3, .int (nI j))] [] (up h2)) : V l G (EXL G adV fm b L xs) mi_L ⟨13, 600000, 7302250, 508⟩ (FL G b) 275 3257 396 [(0, .ref b), (1, .ref (G.1 + 0)), (2, .ref (G.1 + 262)), (3, .int (nI j))] [] (up h) := by
  have hL31 : L < 2 ^ 31 := by omega
  obtain ⟨v, h1, h2, e1, e2, hR2⟩ := ops (xs (j + 1)) (xs (j + 2)) h hR
  refine V.aload_n (j := 1) dL_law_396 rfl rfl rfl ?_
  refine V.aload_n (j := 0) dL_law_397 rfl rfl rfl ?_
  refine V.iload_n (j := 3) dL_law_398 rfl rfl rfl ?_
  refine V.iconst dL_law_399 rfl ki_1 ?_
  refine V.iadd dL_law_400 rfl ?_
  rw [show nI j + (1 : Int32) = nI (j + 1) from nI_plus j 1]
  refine LW.sld (vp_in_nI (show j + 1 < L by omega) hL31) dL_law_401 rfl ?_
  rw [nI_clamp (show j + 1 < 2 ^ 31 by omega)]
  refine V.aload_n (j := 0) dL_law_402 rfl rfl rfl ?_
  refine V.iload_n (j := 3) dL_law_403 rfl rfl rfl ?_
  refine V.iconst dL_law_404 rfl ki_2 ?_
  refine V.iadd dL_law_405 rfl ?_
  rw [show nI j + (2 : Int32) = nI (j + 2) from nI_plus j 2]
  refine LW.sld (vp_in_nI (show j + 2 < L by omega) hL31) dL_law_406 rfl ?_
  rw [nI_clamp (show j + 2 < 2 ^ 31 by omega)]
  refine LW.callV (As := [.int (xs (j + 1)), .int (xs (j + 2))]) (rest := []) (st' := [.int v]) EXL.ok (mX8_moves EXL.b (by decide) e1) mic_X8_moves rfl (show KD 0 = 7 by decide) (by decide) rfl rfl wq_m_L_49 wq_i_yX8_moves wq_s_yX8_moves ⟨Nat.le_of_ble_eq_true rfl, Nat.le_of_ble_eq_true rfl⟩ (Nat.le_of_ble_eq_true rfl) ⟨Nat.le_of_ble_eq_true rfl, Nat.le_of_ble_eq_true rfl⟩ dL_law_407 rfl rfl rfl ?_
  refine V.aload_n (j := 2) dL_law_410 rfl rfl rfl ?_
  refine V.aload_n (j := 0) dL_law_411 rfl rfl rfl ?_
  refine V.iload_n (j := 3) dL_law_412 rfl rfl rfl ?_
  refine V.iconst dL_law_413 rfl ki_1 ?_
  refine V.iadd dL_law_414 rfl ?_
  rw [show nI j + (1 : Int32) = nI (j + 1) from nI_plus j 1]
  refine LW.sld (vp_in_nI (show j + 1 < L by omega) hL31) dL_law_415 rfl ?_
  rw [nI_clamp (show j + 1 < 2 ^ 31 by omega)]
  refine V.aload_n (j := 0) dL_law_416 rfl rfl rfl ?_
  refine V.iload_n (j := 3) dL_law_417 rfl rfl rfl ?_
  refine V.iconst dL_law_418 rfl ki_2 ?_
  refine V.iadd dL_law_419 rfl ?_
  rw [show nI j + (2 : Int32) = nI (j + 2) from nI_plus j 2]
  refine LW.sld (vp_in_nI (show j + 2 < L by omega) hL31) dL_law_420 rfl ?_
  rw [nI_clamp (show j + 2 < 2 ^ 31 by omega)]
  refine LW.callV (As := [.int (xs (j + 1)), .int (xs (j + 2))]) (rest := [.int v]) (st' := [.int v, .int v]) EXL.ok (mX9_moves EXL.b (by decide) e2) mic_X9_moves rfl (show KD 262 = 8 by decide) (by decide) rfl rfl wq_m_L_52 wq_i_yX9_moves wq_s_yX9_moves ⟨Nat.le_of_ble_eq_true rfl, Nat.le_of_ble_eq_true rfl⟩ (Nat.le_of_ble_eq_true rfl) ⟨Nat.le_of_ble_eq_true rfl, Nat.le_of_ble_eq_true rfl⟩ dL_law_421 rfl rfl rfl ?_
  refine V.icmp_eq (tgt := 1367) (A := some 0) (B := (none : Option Nat)) (r := 0) (if_pos rfl) dL_law_424 (by decide) rfl (fun _ => ?_) (fun hx => by cases hx)
  exact kk _ hR2
set_option maxRecDepth 100000 in
set_option maxHeartbeats 4000000 in
theorem law_turns {l : Launch} {G : GG} {adV : Nat → Nat} {fm : Option Nat} {b L : Nat} {xs : Nat → Int32} {R : AH → Prop} (ops : OP_turns R) {j : Nat} (hj : j + 6 ≤ L) (hL : L ≤ 384) {h : AH} (hR : R h) (kk : ∀ h2, R h2 → V l G (EXL G adV fm b L xs) mi_L ⟨13, 600000, 7302250, 508⟩ (FL G b) 275 3257 1367 [(0, .ref b), (1, .ref (G.1 + 0)), (2, .ref (G.1 + 262)), (3, .int (nI j))] [] (up h2)) : V l G (EXL G adV fm b L xs) mi_L ⟨13, 600000, 7302250, 508⟩ (FL G b) 275 3257 429 [(0, .ref b), (1, .ref (G.1 + 0)), (2, .ref (G.1 + 262)), (3, .int (nI j))] [] (up h) := by
  have hL31 : L < 2 ^ 31 := by omega
  obtain ⟨v, h1, h2, e1, e2, hR2⟩ := ops (xs (j + 1)) (xs (j + 2)) h hR
  refine V.aload_n (j := 1) dL_law_429 rfl rfl rfl ?_
  refine V.aload_n (j := 0) dL_law_430 rfl rfl rfl ?_
  refine V.iload_n (j := 3) dL_law_431 rfl rfl rfl ?_
  refine V.iconst dL_law_432 rfl ki_1 ?_
  refine V.iadd dL_law_433 rfl ?_
  rw [show nI j + (1 : Int32) = nI (j + 1) from nI_plus j 1]
  refine LW.sld (vp_in_nI (show j + 1 < L by omega) hL31) dL_law_434 rfl ?_
  rw [nI_clamp (show j + 1 < 2 ^ 31 by omega)]
  refine V.aload_n (j := 0) dL_law_435 rfl rfl rfl ?_
  refine V.iload_n (j := 3) dL_law_436 rfl rfl rfl ?_
  refine V.iconst dL_law_437 rfl ki_2 ?_
  refine V.iadd dL_law_438 rfl ?_
  rw [show nI j + (2 : Int32) = nI (j + 2) from nI_plus j 2]
  refine LW.sld (vp_in_nI (show j + 2 < L by omega) hL31) dL_law_439 rfl ?_
  rw [nI_clamp (show j + 2 < 2 ^ 31 by omega)]
  refine LW.callV (As := [.int (xs (j + 1)), .int (xs (j + 2))]) (rest := []) (st' := [.int v]) EXL.ok (mX8_turns EXL.b (by decide) e1) mic_X8_turns rfl (show KD 0 = 7 by decide) (by decide) rfl rfl wq_m_L_53 wq_i_yX8_turns wq_s_yX8_turns ⟨Nat.le_of_ble_eq_true rfl, Nat.le_of_ble_eq_true rfl⟩ (Nat.le_of_ble_eq_true rfl) ⟨Nat.le_of_ble_eq_true rfl, Nat.le_of_ble_eq_true rfl⟩ dL_law_440 rfl rfl rfl ?_
  refine V.aload_n (j := 2) dL_law_443 rfl rfl rfl ?_
  refine V.aload_n (j := 0) dL_law_444 rfl rfl rfl ?_
  refine V.iload_n (j := 3) dL_law_445 rfl rfl rfl ?_
  refine V.iconst dL_law_446 rfl ki_1 ?_
  refine V.iadd dL_law_447 rfl ?_
  rw [show nI j + (1 : Int32) = nI (j + 1) from nI_plus j 1]
  refine LW.sld (vp_in_nI (show j + 1 < L by omega) hL31) dL_law_448 rfl ?_
  rw [nI_clamp (show j + 1 < 2 ^ 31 by omega)]
  refine V.aload_n (j := 0) dL_law_449 rfl rfl rfl ?_
  refine V.iload_n (j := 3) dL_law_450 rfl rfl rfl ?_
  refine V.iconst dL_law_451 rfl ki_2 ?_
  refine V.iadd dL_law_452 rfl ?_
  rw [show nI j + (2 : Int32) = nI (j + 2) from nI_plus j 2]
  refine LW.sld (vp_in_nI (show j + 2 < L by omega) hL31) dL_law_453 rfl ?_
  rw [nI_clamp (show j + 2 < 2 ^ 31 by omega)]
  refine LW.callV (As := [.int (xs (j + 1)), .int (xs (j + 2))]) (rest := [.int v]) (st' := [.int v, .int v]) EXL.ok (mX9_turns EXL.b (by decide) e2) mic_X9_turns rfl (show KD 262 = 8 by decide) (by decide) rfl rfl wq_m_L_56 wq_i_yX9_turns wq_s_yX9_turns ⟨Nat.le_of_ble_eq_true rfl, Nat.le_of_ble_eq_true rfl⟩ (Nat.le_of_ble_eq_true rfl) ⟨Nat.le_of_ble_eq_true rfl, Nat.le_of_ble_eq_true rfl⟩ dL_law_454 rfl rfl rfl ?_
  refine V.icmp_eq (tgt := 1367) (A := some 0) (B := (none : Option Nat)) (r := 0) (if_pos rfl) dL_law_457 (by decide) rfl (fun _ => ?_) (fun hx => by cases hx)
  exact kk _ hR2
set_option maxRecDepth 100000 in
set_option maxHeartbeats 4000000 in
theorem law_sends {l : Launch} {G : GG} {adV : Nat → Nat} {fm : Option Nat} {b L : Nat} {xs : Nat → Int32} {R : AH → Prop} (ops : OP_sends R) {j : Nat} (hj : j + 6 ≤ L) (hL : L ≤ 384) {h : AH} (hR : R h) (kk : ∀ h2, R h2 → V l G (EXL G adV fm b L xs) mi_L ⟨13, 600000, 7302250, 508⟩ (FL G b) 275 3257 1367 [(0, .ref b), (1, .ref (G.1 + 0)), (2, .ref (G.1 + 262)), (3, .int (nI j))] [] (up h2)) : V l G (EXL G adV fm b L xs) mi_L ⟨13, 600000, 7302250, 508⟩ (FL G b) 275 3257 462 [(0, .ref b), (1, .ref (G.1 + 0)), (2, .ref (G.1 + 262)), (3, .int (nI j))] [] (up h) := by
  have hL31 : L < 2 ^ 31 := by omega
  obtain ⟨v, h1, h2, e1, e2, hR2⟩ := ops (xs (j + 1)) (xs (j + 2)) h hR
  refine V.aload_n (j := 1) dL_law_462 rfl rfl rfl ?_
  refine V.aload_n (j := 0) dL_law_463 rfl rfl rfl ?_
  refine V.iload_n (j := 3) dL_law_464 rfl rfl rfl ?_
  refine V.iconst dL_law_465 rfl ki_1 ?_
  refine V.iadd dL_law_466 rfl ?_
  rw [show nI j + (1 : Int32) = nI (j + 1) from nI_plus j 1]
  refine LW.sld (vp_in_nI (show j + 1 < L by omega) hL31) dL_law_467 rfl ?_
  rw [nI_clamp (show j + 1 < 2 ^ 31 by omega)]
  refine V.aload_n (j := 0) dL_law_468 rfl rfl rfl ?_
  refine V.iload_n (j := 3) dL_law_469 rfl rfl rfl ?_
  refine V.iconst dL_law_470 rfl ki_2 ?_
  refine V.iadd dL_law_471 rfl ?_
  rw [show nI j + (2 : Int32) = nI (j + 2) from nI_plus j 2]
  refine LW.sld (vp_in_nI (show j + 2 < L by omega) hL31) dL_law_472 rfl ?_
  rw [nI_clamp (show j + 2 < 2 ^ 31 by omega)]
  refine LW.callV (As := [.int (xs (j + 1)), .int (xs (j + 2))]) (rest := []) (st' := [.int v]) EXL.ok (mX8_sends EXL.b (by decide) e1) mic_X8_sends rfl (show KD 0 = 7 by decide) (by decide) rfl rfl wq_m_L_57 wq_i_yX8_sends wq_s_yX8_sends ⟨Nat.le_of_ble_eq_true rfl, Nat.le_of_ble_eq_true rfl⟩ (Nat.le_of_ble_eq_true rfl) ⟨Nat.le_of_ble_eq_true rfl, Nat.le_of_ble_eq_true rfl⟩ dL_law_473 rfl rfl rfl ?_
  refine V.aload_n (j := 2) dL_law_476 rfl rfl rfl ?_
  refine V.aload_n (j := 0) dL_law_477 rfl rfl rfl ?_
  refine V.iload_n (j := 3) dL_law_478 rfl rfl rfl ?_
  refine V.iconst dL_law_479 rfl ki_1 ?_
  refine V.iadd dL_law_480 rfl ?_
  rw [show nI j + (1 : Int32) = nI (j + 1) from nI_plus j 1]
  refine LW.sld (vp_in_nI (show j + 1 < L by omega) hL31) dL_law_481 rfl ?_
  rw [nI_clamp (show j + 1 < 2 ^ 31 by omega)]
  refine V.aload_n (j := 0) dL_law_482 rfl rfl rfl ?_
  refine V.iload_n (j := 3) dL_law_483 rfl rfl rfl ?_
  refine V.iconst dL_law_484 rfl ki_2 ?_
  refine V.iadd dL_law_485 rfl ?_
  rw [show nI j + (2 : Int32) = nI (j + 2) from nI_plus j 2]
  refine LW.sld (vp_in_nI (show j + 2 < L by omega) hL31) dL_law_486 rfl ?_
  rw [nI_clamp (show j + 2 < 2 ^ 31 by omega)]
  refine LW.callV (As := [.int (xs (j + 1)), .int (xs (j + 2))]) (rest := [.int v]) (st' := [.int v, .int v]) EXL.ok (mX9_sends EXL.b (by decide) e2) mic_X9_sends rfl (show KD 262 = 8 by decide) (by decide) rfl rfl wq_m_L_60 wq_i_yX9_sends wq_s_yX9_sends ⟨Nat.le_of_ble_eq_true rfl, Nat.le_of_ble_eq_true rfl⟩ (Nat.le_of_ble_eq_true rfl) ⟨Nat.le_of_ble_eq_true rfl, Nat.le_of_ble_eq_true rfl⟩ dL_law_487 rfl rfl rfl ?_
  refine V.icmp_eq (tgt := 1367) (A := some 0) (B := (none : Option Nat)) (r := 0) (if_pos rfl) dL_law_490 (by decide) rfl (fun _ => ?_) (fun hx => by cases hx)
  exact kk _ hR2
set_option maxRecDepth 100000 in
set_option maxHeartbeats 4000000 in
theorem law_undo {l : Launch} {G : GG} {adV : Nat → Nat} {fm : Option Nat} {b L : Nat} {xs : Nat → Int32} {R : AH → Prop} (ops : OP_undo R) {j : Nat} (hj : j + 6 ≤ L) (hL : L ≤ 384) {h : AH} (hR : R h) (kk : ∀ h2, R h2 → V l G (EXL G adV fm b L xs) mi_L ⟨13, 600000, 7302250, 508⟩ (FL G b) 275 3257 1367 [(0, .ref b), (1, .ref (G.1 + 0)), (2, .ref (G.1 + 262)), (3, .int (nI j))] [] (up h2)) : V l G (EXL G adV fm b L xs) mi_L ⟨13, 600000, 7302250, 508⟩ (FL G b) 275 3257 495 [(0, .ref b), (1, .ref (G.1 + 0)), (2, .ref (G.1 + 262)), (3, .int (nI j))] [] (up h) := by
  have hL31 : L < 2 ^ 31 := by omega
  obtain ⟨v, h1, h2, e1, e2, hR2⟩ := ops h hR
  refine V.aload_n (j := 1) dL_law_495 rfl rfl rfl ?_
  refine LW.callV (As := []) (rest := []) (st' := [.int v]) EXL.ok (mX8_undo EXL.b (by decide) e1) mic_X8_undo rfl (show KD 0 = 7 by decide) (by decide) rfl rfl wq_m_L_61 wq_i_yX8_undo wq_s_yX8_undo ⟨Nat.le_of_ble_eq_true rfl, Nat.le_of_ble_eq_true rfl⟩ (Nat.le_of_ble_eq_true rfl) ⟨Nat.le_of_ble_eq_true rfl, Nat.le_of_ble_eq_true rfl⟩ dL_law_496 rfl rfl rfl ?_
  refine V.aload_n (j := 2) dL_law_499 rfl rfl rfl ?_
  refine LW.callV (As := []) (rest := [.int v]) (st' := [.int v, .int v]) EXL.ok (mX9_undo EXL.b (by decide) e2) mic_X9_undo rfl (show KD 262 = 8 by decide) (by decide) rfl rfl wq_m_L_64 wq_i_yX9_undo wq_s_yX9_undo ⟨Nat.le_of_ble_eq_true rfl, Nat.le_of_ble_eq_true rfl⟩ (Nat.le_of_ble_eq_true rfl) ⟨Nat.le_of_ble_eq_true rfl, Nat.le_of_ble_eq_true rfl⟩ dL_law_500 rfl rfl rfl ?_
  refine V.icmp_eq (tgt := 1367) (A := some 0) (B := (none : Option Nat)) (r := 0) (if_pos rfl) dL_law_503 (by decide) rfl (fun _ => ?_) (fun hx => by cases hx)
  exact kk _ hR2
set_option maxRecDepth 100000 in
set_option maxHeartbeats 4000000 in
theorem law_of {l : Launch} {G : GG} {adV : Nat → Nat} {fm : Option Nat} {b L : Nat} {xs : Nat → Int32} {R : AH → Prop} (ops : OP_of R) {j : Nat} (hj : j + 6 ≤ L) (hL : L ≤ 384) {h : AH} (hR : R h) (kk : ∀ h2, R h2 → V l G (EXL G adV fm b L xs) mi_L ⟨13, 600000, 7302250, 508⟩ (FL G b) 275 3257 1367 [(0, .ref b), (1, .ref (G.1 + 0)), (2, .ref (G.1 + 262)), (3, .int (nI j))] [] (up h2)) : V l G (EXL G adV fm b L xs) mi_L ⟨13, 600000, 7302250, 508⟩ (FL G b) 275 3257 508 [(0, .ref b), (1, .ref (G.1 + 0)), (2, .ref (G.1 + 262)), (3, .int (nI j))] [] (up h) := by
  have hL31 : L < 2 ^ 31 := by omega
  obtain ⟨v, h1, h2, e1, e2, hR2⟩ := ops (xs (j + 1)) (xs (j + 2)) h hR
  refine V.aload_n (j := 1) dL_law_508 rfl rfl rfl ?_
  refine V.aload_n (j := 0) dL_law_509 rfl rfl rfl ?_
  refine V.iload_n (j := 3) dL_law_510 rfl rfl rfl ?_
  refine V.iconst dL_law_511 rfl ki_1 ?_
  refine V.iadd dL_law_512 rfl ?_
  rw [show nI j + (1 : Int32) = nI (j + 1) from nI_plus j 1]
  refine LW.sld (vp_in_nI (show j + 1 < L by omega) hL31) dL_law_513 rfl ?_
  rw [nI_clamp (show j + 1 < 2 ^ 31 by omega)]
  refine V.aload_n (j := 0) dL_law_514 rfl rfl rfl ?_
  refine V.iload_n (j := 3) dL_law_515 rfl rfl rfl ?_
  refine V.iconst dL_law_516 rfl ki_2 ?_
  refine V.iadd dL_law_517 rfl ?_
  rw [show nI j + (2 : Int32) = nI (j + 2) from nI_plus j 2]
  refine LW.sld (vp_in_nI (show j + 2 < L by omega) hL31) dL_law_518 rfl ?_
  rw [nI_clamp (show j + 2 < 2 ^ 31 by omega)]
  refine LW.callV (As := [.int (xs (j + 1)), .int (xs (j + 2))]) (rest := []) (st' := [.int v]) EXL.ok (mX8_of EXL.b (by decide) e1) mic_X8_of rfl (show KD 0 = 7 by decide) (by decide) rfl rfl wq_m_L_65 wq_i_yX8_of wq_s_yX8_of ⟨Nat.le_of_ble_eq_true rfl, Nat.le_of_ble_eq_true rfl⟩ (Nat.le_of_ble_eq_true rfl) ⟨Nat.le_of_ble_eq_true rfl, Nat.le_of_ble_eq_true rfl⟩ dL_law_519 rfl rfl rfl ?_
  refine V.aload_n (j := 2) dL_law_522 rfl rfl rfl ?_
  refine V.aload_n (j := 0) dL_law_523 rfl rfl rfl ?_
  refine V.iload_n (j := 3) dL_law_524 rfl rfl rfl ?_
  refine V.iconst dL_law_525 rfl ki_1 ?_
  refine V.iadd dL_law_526 rfl ?_
  rw [show nI j + (1 : Int32) = nI (j + 1) from nI_plus j 1]
  refine LW.sld (vp_in_nI (show j + 1 < L by omega) hL31) dL_law_527 rfl ?_
  rw [nI_clamp (show j + 1 < 2 ^ 31 by omega)]
  refine V.aload_n (j := 0) dL_law_528 rfl rfl rfl ?_
  refine V.iload_n (j := 3) dL_law_529 rfl rfl rfl ?_
  refine V.iconst dL_law_530 rfl ki_2 ?_
  refine V.iadd dL_law_531 rfl ?_
  rw [show nI j + (2 : Int32) = nI (j + 2) from nI_plus j 2]
  refine LW.sld (vp_in_nI (show j + 2 < L by omega) hL31) dL_law_532 rfl ?_
  rw [nI_clamp (show j + 2 < 2 ^ 31 by omega)]
  refine LW.callV (As := [.int (xs (j + 1)), .int (xs (j + 2))]) (rest := [.int v]) (st' := [.int v, .int v]) EXL.ok (mX9_of EXL.b (by decide) e2) mic_X9_of rfl (show KD 262 = 8 by decide) (by decide) rfl rfl wq_m_L_68 wq_i_yX9_of wq_s_yX9_of ⟨Nat.le_of_ble_eq_true rfl, Nat.le_of_ble_eq_true rfl⟩ (Nat.le_of_ble_eq_true rfl) ⟨Nat.le_of_ble_eq_true rfl, Nat.le_of_ble_eq_true rfl⟩ dL_law_533 rfl rfl rfl ?_
  refine V.icmp_eq (tgt := 1367) (A := some 0) (B := (none : Option Nat)) (r := 0) (if_pos rfl) dL_law_536 (by decide) rfl (fun _ => ?_) (fun hx => by cases hx)
  exact kk _ hR2
set_option maxRecDepth 100000 in
set_option maxHeartbeats 4000000 in
theorem law_about {l : Launch} {G : GG} {adV : Nat → Nat} {fm : Option Nat} {b L : Nat} {xs : Nat → Int32} {R : AH → Prop} (ops : OP_about R) {j : Nat} (hj : j + 6 ≤ L) (hL : L ≤ 384) {h : AH} (hR : R h) (kk : ∀ h2, R h2 → V l G (EXL G adV fm b L xs) mi_L ⟨13, 600000, 7302250, 508⟩ (FL G b) 275 3257 1367 [(0, .ref b), (1, .ref (G.1 + 0)), (2, .ref (G.1 + 262)), (3, .int (nI j))] [] (up h2)) : V l G (EXL G adV fm b L xs) mi_L ⟨13, 600000, 7302250, 508⟩ (FL G b) 275 3257 541 [(0, .ref b), (1, .ref (G.1 + 0)), (2, .ref (G.1 + 262)), (3, .int (nI j))] [] (up h) := by
  have hL31 : L < 2 ^ 31 := by omega
  obtain ⟨v, h1, h2, e1, e2, hR2⟩ := ops (xs (j + 1)) (xs (j + 2)) h hR
  refine V.aload_n (j := 1) dL_law_541 rfl rfl rfl ?_
  refine V.aload_n (j := 0) dL_law_542 rfl rfl rfl ?_
  refine V.iload_n (j := 3) dL_law_543 rfl rfl rfl ?_
  refine V.iconst dL_law_544 rfl ki_1 ?_
  refine V.iadd dL_law_545 rfl ?_
  rw [show nI j + (1 : Int32) = nI (j + 1) from nI_plus j 1]
  refine LW.sld (vp_in_nI (show j + 1 < L by omega) hL31) dL_law_546 rfl ?_
  rw [nI_clamp (show j + 1 < 2 ^ 31 by omega)]
  refine V.aload_n (j := 0) dL_law_547 rfl rfl rfl ?_
  refine V.iload_n (j := 3) dL_law_548 rfl rfl rfl ?_
  refine V.iconst dL_law_549 rfl ki_2 ?_
  refine V.iadd dL_law_550 rfl ?_
  rw [show nI j + (2 : Int32) = nI (j + 2) from nI_plus j 2]
  refine LW.sld (vp_in_nI (show j + 2 < L by omega) hL31) dL_law_551 rfl ?_
  rw [nI_clamp (show j + 2 < 2 ^ 31 by omega)]
  refine LW.callV (As := [.int (xs (j + 1)), .int (xs (j + 2))]) (rest := []) (st' := [.int v]) EXL.ok (mX8_about EXL.b (by decide) e1) mic_X8_about rfl (show KD 0 = 7 by decide) (by decide) rfl rfl wq_m_L_69 wq_i_yX8_about wq_s_yX8_about ⟨Nat.le_of_ble_eq_true rfl, Nat.le_of_ble_eq_true rfl⟩ (Nat.le_of_ble_eq_true rfl) ⟨Nat.le_of_ble_eq_true rfl, Nat.le_of_ble_eq_true rfl⟩ dL_law_552 rfl rfl rfl ?_
  refine V.aload_n (j := 2) dL_law_555 rfl rfl rfl ?_
  refine V.aload_n (j := 0) dL_law_556 rfl rfl rfl ?_
  refine V.iload_n (j := 3) dL_law_557 rfl rfl rfl ?_
  refine V.iconst dL_law_558 rfl ki_1 ?_
  refine V.iadd dL_law_559 rfl ?_
  rw [show nI j + (1 : Int32) = nI (j + 1) from nI_plus j 1]
  refine LW.sld (vp_in_nI (show j + 1 < L by omega) hL31) dL_law_560 rfl ?_
  rw [nI_clamp (show j + 1 < 2 ^ 31 by omega)]
  refine V.aload_n (j := 0) dL_law_561 rfl rfl rfl ?_
  refine V.iload_n (j := 3) dL_law_562 rfl rfl rfl ?_
  refine V.iconst dL_law_563 rfl ki_2 ?_
  refine V.iadd dL_law_564 rfl ?_
  rw [show nI j + (2 : Int32) = nI (j + 2) from nI_plus j 2]
  refine LW.sld (vp_in_nI (show j + 2 < L by omega) hL31) dL_law_565 rfl ?_
  rw [nI_clamp (show j + 2 < 2 ^ 31 by omega)]
  refine LW.callV (As := [.int (xs (j + 1)), .int (xs (j + 2))]) (rest := [.int v]) (st' := [.int v, .int v]) EXL.ok (mX9_about EXL.b (by decide) e2) mic_X9_about rfl (show KD 262 = 8 by decide) (by decide) rfl rfl wq_m_L_72 wq_i_yX9_about wq_s_yX9_about ⟨Nat.le_of_ble_eq_true rfl, Nat.le_of_ble_eq_true rfl⟩ (Nat.le_of_ble_eq_true rfl) ⟨Nat.le_of_ble_eq_true rfl, Nat.le_of_ble_eq_true rfl⟩ dL_law_566 rfl rfl rfl ?_
  refine V.icmp_eq (tgt := 1367) (A := some 0) (B := (none : Option Nat)) (r := 0) (if_pos rfl) dL_law_569 (by decide) rfl (fun _ => ?_) (fun hx => by cases hx)
  exact kk _ hR2
set_option maxRecDepth 100000 in
set_option maxHeartbeats 4000000 in
theorem law_pull {l : Launch} {G : GG} {adV : Nat → Nat} {fm : Option Nat} {b L : Nat} {xs : Nat → Int32} {R : AH → Prop} (ops : OP_pull R) {j : Nat} (hj : j + 6 ≤ L) (hL : L ≤ 384) {h : AH} (hR : R h) (kk : ∀ h2, R h2 → V l G (EXL G adV fm b L xs) mi_L ⟨13, 600000, 7302250, 508⟩ (FL G b) 275 3257 1367 [(0, .ref b), (1, .ref (G.1 + 0)), (2, .ref (G.1 + 262)), (3, .int (nI j))] [] (up h2)) : V l G (EXL G adV fm b L xs) mi_L ⟨13, 600000, 7302250, 508⟩ (FL G b) 275 3257 574 [(0, .ref b), (1, .ref (G.1 + 0)), (2, .ref (G.1 + 262)), (3, .int (nI j))] [] (up h) := by
  have hL31 : L < 2 ^ 31 := by omega
  obtain ⟨v, h1, h2, e1, e2, hR2⟩ := ops (xs (j + 1)) (xs (j + 2)) h hR
  refine V.aload_n (j := 1) dL_law_574 rfl rfl rfl ?_
  refine V.aload_n (j := 0) dL_law_575 rfl rfl rfl ?_
  refine V.iload_n (j := 3) dL_law_576 rfl rfl rfl ?_
  refine V.iconst dL_law_577 rfl ki_1 ?_
  refine V.iadd dL_law_578 rfl ?_
  rw [show nI j + (1 : Int32) = nI (j + 1) from nI_plus j 1]
  refine LW.sld (vp_in_nI (show j + 1 < L by omega) hL31) dL_law_579 rfl ?_
  rw [nI_clamp (show j + 1 < 2 ^ 31 by omega)]
  refine V.aload_n (j := 0) dL_law_580 rfl rfl rfl ?_
  refine V.iload_n (j := 3) dL_law_581 rfl rfl rfl ?_
  refine V.iconst dL_law_582 rfl ki_2 ?_
  refine V.iadd dL_law_583 rfl ?_
  rw [show nI j + (2 : Int32) = nI (j + 2) from nI_plus j 2]
  refine LW.sld (vp_in_nI (show j + 2 < L by omega) hL31) dL_law_584 rfl ?_
  rw [nI_clamp (show j + 2 < 2 ^ 31 by omega)]
  refine LW.callV (As := [.int (xs (j + 1)), .int (xs (j + 2))]) (rest := []) (st' := [.int v]) EXL.ok (mX8_pull EXL.b (by decide) e1) mic_X8_pull rfl (show KD 0 = 7 by decide) (by decide) rfl rfl wq_m_L_73 wq_i_yX8_pull wq_s_yX8_pull ⟨Nat.le_of_ble_eq_true rfl, Nat.le_of_ble_eq_true rfl⟩ (Nat.le_of_ble_eq_true rfl) ⟨Nat.le_of_ble_eq_true rfl, Nat.le_of_ble_eq_true rfl⟩ dL_law_585 rfl rfl rfl ?_
  refine V.aload_n (j := 2) dL_law_588 rfl rfl rfl ?_
  refine V.aload_n (j := 0) dL_law_589 rfl rfl rfl ?_
  refine V.iload_n (j := 3) dL_law_590 rfl rfl rfl ?_
  refine V.iconst dL_law_591 rfl ki_1 ?_
  refine V.iadd dL_law_592 rfl ?_
  rw [show nI j + (1 : Int32) = nI (j + 1) from nI_plus j 1]
  refine LW.sld (vp_in_nI (show j + 1 < L by omega) hL31) dL_law_593 rfl ?_
  rw [nI_clamp (show j + 1 < 2 ^ 31 by omega)]
  refine V.aload_n (j := 0) dL_law_594 rfl rfl rfl ?_
  refine V.iload_n (j := 3) dL_law_595 rfl rfl rfl ?_
  refine V.iconst dL_law_596 rfl ki_2 ?_
  refine V.iadd dL_law_597 rfl ?_
  rw [show nI j + (2 : Int32) = nI (j + 2) from nI_plus j 2]
  refine LW.sld (vp_in_nI (show j + 2 < L by omega) hL31) dL_law_598 rfl ?_
  rw [nI_clamp (show j + 2 < 2 ^ 31 by omega)]
  refine LW.callV (As := [.int (xs (j + 1)), .int (xs (j + 2))]) (rest := [.int v]) (st' := [.int v, .int v]) EXL.ok (mX9_pull EXL.b (by decide) e2) mic_X9_pull rfl (show KD 262 = 8 by decide) (by decide) rfl rfl wq_m_L_76 wq_i_yX9_pull wq_s_yX9_pull ⟨Nat.le_of_ble_eq_true rfl, Nat.le_of_ble_eq_true rfl⟩ (Nat.le_of_ble_eq_true rfl) ⟨Nat.le_of_ble_eq_true rfl, Nat.le_of_ble_eq_true rfl⟩ dL_law_599 rfl rfl rfl ?_
  refine V.icmp_eq (tgt := 1367) (A := some 0) (B := (none : Option Nat)) (r := 0) (if_pos rfl) dL_law_602 (by decide) rfl (fun _ => ?_) (fun hx => by cases hx)
  exact kk _ hR2
set_option maxRecDepth 100000 in
set_option maxHeartbeats 4000000 in
theorem law_drawn {l : Launch} {G : GG} {adV : Nat → Nat} {fm : Option Nat} {b L : Nat} {xs : Nat → Int32} {R : AH → Prop} (ops : OP_drawn R) {j : Nat} (hj : j + 6 ≤ L) (hL : L ≤ 384) {h : AH} (hR : R h) (kk : ∀ h2, R h2 → V l G (EXL G adV fm b L xs) mi_L ⟨13, 600000, 7302250, 508⟩ (FL G b) 275 3257 1367 [(0, .ref b), (1, .ref (G.1 + 0)), (2, .ref (G.1 + 262)), (3, .int (nI j))] [] (up h2)) : V l G (EXL G adV fm b L xs) mi_L ⟨13, 600000, 7302250, 508⟩ (FL G b) 275 3257 607 [(0, .ref b), (1, .ref (G.1 + 0)), (2, .ref (G.1 + 262)), (3, .int (nI j))] [] (up h) := by
  have hL31 : L < 2 ^ 31 := by omega
  obtain ⟨v, h1, h2, e1, e2, hR2⟩ := ops (xs (j + 1)) (xs (j + 2)) h hR
  refine V.aload_n (j := 1) dL_law_607 rfl rfl rfl ?_
  refine V.aload_n (j := 0) dL_law_608 rfl rfl rfl ?_
  refine V.iload_n (j := 3) dL_law_609 rfl rfl rfl ?_
  refine V.iconst dL_law_610 rfl ki_1 ?_
  refine V.iadd dL_law_611 rfl ?_
  rw [show nI j + (1 : Int32) = nI (j + 1) from nI_plus j 1]
  refine LW.sld (vp_in_nI (show j + 1 < L by omega) hL31) dL_law_612 rfl ?_
  rw [nI_clamp (show j + 1 < 2 ^ 31 by omega)]
  refine V.aload_n (j := 0) dL_law_613 rfl rfl rfl ?_
  refine V.iload_n (j := 3) dL_law_614 rfl rfl rfl ?_
  refine V.iconst dL_law_615 rfl ki_2 ?_
  refine V.iadd dL_law_616 rfl ?_
  rw [show nI j + (2 : Int32) = nI (j + 2) from nI_plus j 2]
  refine LW.sld (vp_in_nI (show j + 2 < L by omega) hL31) dL_law_617 rfl ?_
  rw [nI_clamp (show j + 2 < 2 ^ 31 by omega)]
  refine LW.callV (As := [.int (xs (j + 1)), .int (xs (j + 2))]) (rest := []) (st' := [.int v]) EXL.ok (mX8_drawn EXL.b (by decide) e1) mic_X8_drawn rfl (show KD 0 = 7 by decide) (by decide) rfl rfl wq_m_L_77 wq_i_yX8_drawn wq_s_yX8_drawn ⟨Nat.le_of_ble_eq_true rfl, Nat.le_of_ble_eq_true rfl⟩ (Nat.le_of_ble_eq_true rfl) ⟨Nat.le_of_ble_eq_true rfl, Nat.le_of_ble_eq_true rfl⟩ dL_law_618 rfl rfl rfl ?_
  refine V.aload_n (j := 2) dL_law_621 rfl rfl rfl ?_
  refine V.aload_n (j := 0) dL_law_622 rfl rfl rfl ?_
  refine V.iload_n (j := 3) dL_law_623 rfl rfl rfl ?_
  refine V.iconst dL_law_624 rfl ki_1 ?_
  refine V.iadd dL_law_625 rfl ?_
  rw [show nI j + (1 : Int32) = nI (j + 1) from nI_plus j 1]
  refine LW.sld (vp_in_nI (show j + 1 < L by omega) hL31) dL_law_626 rfl ?_
  rw [nI_clamp (show j + 1 < 2 ^ 31 by omega)]
  refine V.aload_n (j := 0) dL_law_627 rfl rfl rfl ?_
  refine V.iload_n (j := 3) dL_law_628 rfl rfl rfl ?_
  refine V.iconst dL_law_629 rfl ki_2 ?_
  refine V.iadd dL_law_630 rfl ?_
  rw [show nI j + (2 : Int32) = nI (j + 2) from nI_plus j 2]
  refine LW.sld (vp_in_nI (show j + 2 < L by omega) hL31) dL_law_631 rfl ?_
  rw [nI_clamp (show j + 2 < 2 ^ 31 by omega)]
  refine LW.callV (As := [.int (xs (j + 1)), .int (xs (j + 2))]) (rest := [.int v]) (st' := [.int v, .int v]) EXL.ok (mX9_drawn EXL.b (by decide) e2) mic_X9_drawn rfl (show KD 262 = 8 by decide) (by decide) rfl rfl wq_m_L_80 wq_i_yX9_drawn wq_s_yX9_drawn ⟨Nat.le_of_ble_eq_true rfl, Nat.le_of_ble_eq_true rfl⟩ (Nat.le_of_ble_eq_true rfl) ⟨Nat.le_of_ble_eq_true rfl, Nat.le_of_ble_eq_true rfl⟩ dL_law_632 rfl rfl rfl ?_
  refine V.icmp_eq (tgt := 1367) (A := some 0) (B := (none : Option Nat)) (r := 0) (if_pos rfl) dL_law_635 (by decide) rfl (fun _ => ?_) (fun hx => by cases hx)
  exact kk _ hR2
set_option maxRecDepth 100000 in
set_option maxHeartbeats 4000000 in
theorem law_sees {l : Launch} {G : GG} {adV : Nat → Nat} {fm : Option Nat} {b L : Nat} {xs : Nat → Int32} {R : AH → Prop} (ops : OP_sees R) {j : Nat} (hj : j + 6 ≤ L) (hL : L ≤ 384) {h : AH} (hR : R h) (kk : ∀ h2, R h2 → V l G (EXL G adV fm b L xs) mi_L ⟨13, 600000, 7302250, 508⟩ (FL G b) 275 3257 1367 [(0, .ref b), (1, .ref (G.1 + 0)), (2, .ref (G.1 + 262)), (3, .int (nI j))] [] (up h2)) : V l G (EXL G adV fm b L xs) mi_L ⟨13, 600000, 7302250, 508⟩ (FL G b) 275 3257 640 [(0, .ref b), (1, .ref (G.1 + 0)), (2, .ref (G.1 + 262)), (3, .int (nI j))] [] (up h) := by
  have hL31 : L < 2 ^ 31 := by omega
  obtain ⟨v, h1, h2, e1, e2, hR2⟩ := ops (xs (j + 1)) (xs (j + 2)) h hR
  refine V.aload_n (j := 1) dL_law_640 rfl rfl rfl ?_
  refine V.aload_n (j := 0) dL_law_641 rfl rfl rfl ?_
  refine V.iload_n (j := 3) dL_law_642 rfl rfl rfl ?_
  refine V.iconst dL_law_643 rfl ki_1 ?_
  refine V.iadd dL_law_644 rfl ?_
  rw [show nI j + (1 : Int32) = nI (j + 1) from nI_plus j 1]
  refine LW.sld (vp_in_nI (show j + 1 < L by omega) hL31) dL_law_645 rfl ?_
  rw [nI_clamp (show j + 1 < 2 ^ 31 by omega)]
  refine V.aload_n (j := 0) dL_law_646 rfl rfl rfl ?_
  refine V.iload_n (j := 3) dL_law_647 rfl rfl rfl ?_
  refine V.iconst dL_law_648 rfl ki_2 ?_
  refine V.iadd dL_law_649 rfl ?_
  rw [show nI j + (2 : Int32) = nI (j + 2) from nI_plus j 2]
  refine LW.sld (vp_in_nI (show j + 2 < L by omega) hL31) dL_law_650 rfl ?_
  rw [nI_clamp (show j + 2 < 2 ^ 31 by omega)]
  refine LW.callV (As := [.int (xs (j + 1)), .int (xs (j + 2))]) (rest := []) (st' := [.int v]) EXL.ok (mX8_sees EXL.b (by decide) e1) mic_X8_sees rfl (show KD 0 = 7 by decide) (by decide) rfl rfl wq_m_L_81 wq_i_yX8_sees wq_s_yX8_sees ⟨Nat.le_of_ble_eq_true rfl, Nat.le_of_ble_eq_true rfl⟩ (Nat.le_of_ble_eq_true rfl) ⟨Nat.le_of_ble_eq_true rfl, Nat.le_of_ble_eq_true rfl⟩ dL_law_651 rfl rfl rfl ?_
  refine V.aload_n (j := 2) dL_law_654 rfl rfl rfl ?_
  refine V.aload_n (j := 0) dL_law_655 rfl rfl rfl ?_
  refine V.iload_n (j := 3) dL_law_656 rfl rfl rfl ?_
  refine V.iconst dL_law_657 rfl ki_1 ?_
  refine V.iadd dL_law_658 rfl ?_
  rw [show nI j + (1 : Int32) = nI (j + 1) from nI_plus j 1]
  refine LW.sld (vp_in_nI (show j + 1 < L by omega) hL31) dL_law_659 rfl ?_
  rw [nI_clamp (show j + 1 < 2 ^ 31 by omega)]
  refine V.aload_n (j := 0) dL_law_660 rfl rfl rfl ?_
  refine V.iload_n (j := 3) dL_law_661 rfl rfl rfl ?_
  refine V.iconst dL_law_662 rfl ki_2 ?_
  refine V.iadd dL_law_663 rfl ?_
  rw [show nI j + (2 : Int32) = nI (j + 2) from nI_plus j 2]
  refine LW.sld (vp_in_nI (show j + 2 < L by omega) hL31) dL_law_664 rfl ?_
  rw [nI_clamp (show j + 2 < 2 ^ 31 by omega)]
  refine LW.callV (As := [.int (xs (j + 1)), .int (xs (j + 2))]) (rest := [.int v]) (st' := [.int v, .int v]) EXL.ok (mX9_sees EXL.b (by decide) e2) mic_X9_sees rfl (show KD 262 = 8 by decide) (by decide) rfl rfl wq_m_L_84 wq_i_yX9_sees wq_s_yX9_sees ⟨Nat.le_of_ble_eq_true rfl, Nat.le_of_ble_eq_true rfl⟩ (Nat.le_of_ble_eq_true rfl) ⟨Nat.le_of_ble_eq_true rfl, Nat.le_of_ble_eq_true rfl⟩ dL_law_665 rfl rfl rfl ?_
  refine V.icmp_eq (tgt := 1367) (A := some 0) (B := (none : Option Nat)) (r := 0) (if_pos rfl) dL_law_668 (by decide) rfl (fun _ => ?_) (fun hx => by cases hx)
  exact kk _ hR2
set_option maxRecDepth 100000 in
set_option maxHeartbeats 4000000 in
theorem law_unseen {l : Launch} {G : GG} {adV : Nat → Nat} {fm : Option Nat} {b L : Nat} {xs : Nat → Int32} {R : AH → Prop} (ops : OP_unseen R) {j : Nat} (hj : j + 6 ≤ L) (hL : L ≤ 384) {h : AH} (hR : R h) (kk : ∀ h2, R h2 → V l G (EXL G adV fm b L xs) mi_L ⟨13, 600000, 7302250, 508⟩ (FL G b) 275 3257 1367 [(0, .ref b), (1, .ref (G.1 + 0)), (2, .ref (G.1 + 262)), (3, .int (nI j))] [] (up h2)) : V l G (EXL G adV fm b L xs) mi_L ⟨13, 600000, 7302250, 508⟩ (FL G b) 275 3257 673 [(0, .ref b), (1, .ref (G.1 + 0)), (2, .ref (G.1 + 262)), (3, .int (nI j))] [] (up h) := by
  have hL31 : L < 2 ^ 31 := by omega
  obtain ⟨v, h1, h2, e1, e2, hR2⟩ := ops (xs (j + 1)) h hR
  refine V.aload_n (j := 1) dL_law_673 rfl rfl rfl ?_
  refine V.aload_n (j := 0) dL_law_674 rfl rfl rfl ?_
  refine V.iload_n (j := 3) dL_law_675 rfl rfl rfl ?_
  refine V.iconst dL_law_676 rfl ki_1 ?_
  refine V.iadd dL_law_677 rfl ?_
  rw [show nI j + (1 : Int32) = nI (j + 1) from nI_plus j 1]
  refine LW.sld (vp_in_nI (show j + 1 < L by omega) hL31) dL_law_678 rfl ?_
  rw [nI_clamp (show j + 1 < 2 ^ 31 by omega)]
  refine LW.callV (As := [.int (xs (j + 1))]) (rest := []) (st' := [.int v]) EXL.ok (mX8_unseen EXL.b (by decide) e1) mic_X8_unseen rfl (show KD 0 = 7 by decide) (by decide) rfl rfl wq_m_L_85 wq_i_yX8_unseen wq_s_yX8_unseen ⟨Nat.le_of_ble_eq_true rfl, Nat.le_of_ble_eq_true rfl⟩ (Nat.le_of_ble_eq_true rfl) ⟨Nat.le_of_ble_eq_true rfl, Nat.le_of_ble_eq_true rfl⟩ dL_law_679 rfl rfl rfl ?_
  refine V.aload_n (j := 2) dL_law_682 rfl rfl rfl ?_
  refine V.aload_n (j := 0) dL_law_683 rfl rfl rfl ?_
  refine V.iload_n (j := 3) dL_law_684 rfl rfl rfl ?_
  refine V.iconst dL_law_685 rfl ki_1 ?_
  refine V.iadd dL_law_686 rfl ?_
  rw [show nI j + (1 : Int32) = nI (j + 1) from nI_plus j 1]
  refine LW.sld (vp_in_nI (show j + 1 < L by omega) hL31) dL_law_687 rfl ?_
  rw [nI_clamp (show j + 1 < 2 ^ 31 by omega)]
  refine LW.callV (As := [.int (xs (j + 1))]) (rest := [.int v]) (st' := [.int v, .int v]) EXL.ok (mX9_unseen EXL.b (by decide) e2) mic_X9_unseen rfl (show KD 262 = 8 by decide) (by decide) rfl rfl wq_m_L_88 wq_i_yX9_unseen wq_s_yX9_unseen ⟨Nat.le_of_ble_eq_true rfl, Nat.le_of_ble_eq_true rfl⟩ (Nat.le_of_ble_eq_true rfl) ⟨Nat.le_of_ble_eq_true rfl, Nat.le_of_ble_eq_true rfl⟩ dL_law_688 rfl rfl rfl ?_
  refine V.icmp_eq (tgt := 1367) (A := some 0) (B := (none : Option Nat)) (r := 0) (if_pos rfl) dL_law_691 (by decide) rfl (fun _ => ?_) (fun hx => by cases hx)
  exact kk _ hR2
set_option maxRecDepth 100000 in
set_option maxHeartbeats 4000000 in
theorem law_when {l : Launch} {G : GG} {adV : Nat → Nat} {fm : Option Nat} {b L : Nat} {xs : Nat → Int32} {R : AH → Prop} (ops : OP_when R) {j : Nat} (hj : j + 6 ≤ L) (hL : L ≤ 384) {h : AH} (hR : R h) (kk : ∀ h2, R h2 → V l G (EXL G adV fm b L xs) mi_L ⟨13, 600000, 7302250, 508⟩ (FL G b) 275 3257 1367 [(0, .ref b), (1, .ref (G.1 + 0)), (2, .ref (G.1 + 262)), (3, .int (nI j))] [] (up h2)) : V l G (EXL G adV fm b L xs) mi_L ⟨13, 600000, 7302250, 508⟩ (FL G b) 275 3257 696 [(0, .ref b), (1, .ref (G.1 + 0)), (2, .ref (G.1 + 262)), (3, .int (nI j))] [] (up h) := by
  have hL31 : L < 2 ^ 31 := by omega
  obtain ⟨v, h1, h2, e1, e2, hR2⟩ := ops (xs (j + 1)) h hR
  refine V.aload_n (j := 1) dL_law_696 rfl rfl rfl ?_
  refine V.aload_n (j := 0) dL_law_697 rfl rfl rfl ?_
  refine V.iload_n (j := 3) dL_law_698 rfl rfl rfl ?_
  refine V.iconst dL_law_699 rfl ki_1 ?_
  refine V.iadd dL_law_700 rfl ?_
  rw [show nI j + (1 : Int32) = nI (j + 1) from nI_plus j 1]
  refine LW.sld (vp_in_nI (show j + 1 < L by omega) hL31) dL_law_701 rfl ?_
  rw [nI_clamp (show j + 1 < 2 ^ 31 by omega)]
  refine LW.callV (As := [.int (xs (j + 1))]) (rest := []) (st' := [.int v]) EXL.ok (mX8_when EXL.b (by decide) e1) mic_X8_when rfl (show KD 0 = 7 by decide) (by decide) rfl rfl wq_m_L_89 wq_i_yX8_when wq_s_yX8_when ⟨Nat.le_of_ble_eq_true rfl, Nat.le_of_ble_eq_true rfl⟩ (Nat.le_of_ble_eq_true rfl) ⟨Nat.le_of_ble_eq_true rfl, Nat.le_of_ble_eq_true rfl⟩ dL_law_702 rfl rfl rfl ?_
  refine V.aload_n (j := 2) dL_law_705 rfl rfl rfl ?_
  refine V.aload_n (j := 0) dL_law_706 rfl rfl rfl ?_
  refine V.iload_n (j := 3) dL_law_707 rfl rfl rfl ?_
  refine V.iconst dL_law_708 rfl ki_1 ?_
  refine V.iadd dL_law_709 rfl ?_
  rw [show nI j + (1 : Int32) = nI (j + 1) from nI_plus j 1]
  refine LW.sld (vp_in_nI (show j + 1 < L by omega) hL31) dL_law_710 rfl ?_
  rw [nI_clamp (show j + 1 < 2 ^ 31 by omega)]
  refine LW.callV (As := [.int (xs (j + 1))]) (rest := [.int v]) (st' := [.int v, .int v]) EXL.ok (mX9_when EXL.b (by decide) e2) mic_X9_when rfl (show KD 262 = 8 by decide) (by decide) rfl rfl wq_m_L_92 wq_i_yX9_when wq_s_yX9_when ⟨Nat.le_of_ble_eq_true rfl, Nat.le_of_ble_eq_true rfl⟩ (Nat.le_of_ble_eq_true rfl) ⟨Nat.le_of_ble_eq_true rfl, Nat.le_of_ble_eq_true rfl⟩ dL_law_711 rfl rfl rfl ?_
  refine V.icmp_eq (tgt := 1367) (A := some 0) (B := (none : Option Nat)) (r := 0) (if_pos rfl) dL_law_714 (by decide) rfl (fun _ => ?_) (fun hx => by cases hx)
  exact kk _ hR2
set_option maxRecDepth 100000 in
set_option maxHeartbeats 4000000 in
theorem law_enough {l : Launch} {G : GG} {adV : Nat → Nat} {fm : Option Nat} {b L : Nat} {xs : Nat → Int32} {R : AH → Prop} (ops : OP_enough R) {j : Nat} (hj : j + 6 ≤ L) (hL : L ≤ 384) {h : AH} (hR : R h) (kk : ∀ h2, R h2 → V l G (EXL G adV fm b L xs) mi_L ⟨13, 600000, 7302250, 508⟩ (FL G b) 275 3257 1367 [(0, .ref b), (1, .ref (G.1 + 0)), (2, .ref (G.1 + 262)), (3, .int (nI j))] [] (up h2)) : V l G (EXL G adV fm b L xs) mi_L ⟨13, 600000, 7302250, 508⟩ (FL G b) 275 3257 719 [(0, .ref b), (1, .ref (G.1 + 0)), (2, .ref (G.1 + 262)), (3, .int (nI j))] [] (up h) := by
  have hL31 : L < 2 ^ 31 := by omega
  obtain ⟨v, h1, h2, e1, e2, hR2⟩ := ops (xs (j + 1)) h hR
  refine V.aload_n (j := 1) dL_law_719 rfl rfl rfl ?_
  refine V.aload_n (j := 0) dL_law_720 rfl rfl rfl ?_
  refine V.iload_n (j := 3) dL_law_721 rfl rfl rfl ?_
  refine V.iconst dL_law_722 rfl ki_1 ?_
  refine V.iadd dL_law_723 rfl ?_
  rw [show nI j + (1 : Int32) = nI (j + 1) from nI_plus j 1]
  refine LW.sld (vp_in_nI (show j + 1 < L by omega) hL31) dL_law_724 rfl ?_
  rw [nI_clamp (show j + 1 < 2 ^ 31 by omega)]
  refine LW.callV (As := [.int (xs (j + 1))]) (rest := []) (st' := [.int v]) EXL.ok (mX8_enough EXL.b (by decide) e1) mic_X8_enough rfl (show KD 0 = 7 by decide) (by decide) rfl rfl wq_m_L_93 wq_i_yX8_enough wq_s_yX8_enough ⟨Nat.le_of_ble_eq_true rfl, Nat.le_of_ble_eq_true rfl⟩ (Nat.le_of_ble_eq_true rfl) ⟨Nat.le_of_ble_eq_true rfl, Nat.le_of_ble_eq_true rfl⟩ dL_law_725 rfl rfl rfl ?_
  refine V.aload_n (j := 2) dL_law_728 rfl rfl rfl ?_
  refine V.aload_n (j := 0) dL_law_729 rfl rfl rfl ?_
  refine V.iload_n (j := 3) dL_law_730 rfl rfl rfl ?_
  refine V.iconst dL_law_731 rfl ki_1 ?_
  refine V.iadd dL_law_732 rfl ?_
  rw [show nI j + (1 : Int32) = nI (j + 1) from nI_plus j 1]
  refine LW.sld (vp_in_nI (show j + 1 < L by omega) hL31) dL_law_733 rfl ?_
  rw [nI_clamp (show j + 1 < 2 ^ 31 by omega)]
  refine LW.callV (As := [.int (xs (j + 1))]) (rest := [.int v]) (st' := [.int v, .int v]) EXL.ok (mX9_enough EXL.b (by decide) e2) mic_X9_enough rfl (show KD 262 = 8 by decide) (by decide) rfl rfl wq_m_L_96 wq_i_yX9_enough wq_s_yX9_enough ⟨Nat.le_of_ble_eq_true rfl, Nat.le_of_ble_eq_true rfl⟩ (Nat.le_of_ble_eq_true rfl) ⟨Nat.le_of_ble_eq_true rfl, Nat.le_of_ble_eq_true rfl⟩ dL_law_734 rfl rfl rfl ?_
  refine V.icmp_eq (tgt := 1367) (A := some 0) (B := (none : Option Nat)) (r := 0) (if_pos rfl) dL_law_737 (by decide) rfl (fun _ => ?_) (fun hx => by cases hx)
  exact kk _ hR2
set_option maxRecDepth 100000 in
set_option maxHeartbeats 4000000 in
theorem law_place {l : Launch} {G : GG} {adV : Nat → Nat} {fm : Option Nat} {b L : Nat} {xs : Nat → Int32} {R : AH → Prop} (ops : OP_place R) {j : Nat} (hj : j + 6 ≤ L) (hL : L ≤ 384) {h : AH} (hR : R h) (kk : ∀ h2, R h2 → V l G (EXL G adV fm b L xs) mi_L ⟨13, 600000, 7302250, 508⟩ (FL G b) 275 3257 1367 [(0, .ref b), (1, .ref (G.1 + 0)), (2, .ref (G.1 + 262)), (3, .int (nI j))] [] (up h2)) : V l G (EXL G adV fm b L xs) mi_L ⟨13, 600000, 7302250, 508⟩ (FL G b) 275 3257 742 [(0, .ref b), (1, .ref (G.1 + 0)), (2, .ref (G.1 + 262)), (3, .int (nI j))] [] (up h) := by
  have hL31 : L < 2 ^ 31 := by omega
  obtain ⟨v, h1, h2, e1, e2, hR2⟩ := ops (xs (j + 1)) (xs (j + 2)) (xs (j + 3)) h hR
  refine V.aload_n (j := 1) dL_law_742 rfl rfl rfl ?_
  refine V.aload_n (j := 0) dL_law_743 rfl rfl rfl ?_
  refine V.iload_n (j := 3) dL_law_744 rfl rfl rfl ?_
  refine V.iconst dL_law_745 rfl ki_1 ?_
  refine V.iadd dL_law_746 rfl ?_
  rw [show nI j + (1 : Int32) = nI (j + 1) from nI_plus j 1]
  refine LW.sld (vp_in_nI (show j + 1 < L by omega) hL31) dL_law_747 rfl ?_
  rw [nI_clamp (show j + 1 < 2 ^ 31 by omega)]
  refine V.aload_n (j := 0) dL_law_748 rfl rfl rfl ?_
  refine V.iload_n (j := 3) dL_law_749 rfl rfl rfl ?_
  refine V.iconst dL_law_750 rfl ki_2 ?_
  refine V.iadd dL_law_751 rfl ?_
  rw [show nI j + (2 : Int32) = nI (j + 2) from nI_plus j 2]
  refine LW.sld (vp_in_nI (show j + 2 < L by omega) hL31) dL_law_752 rfl ?_
  rw [nI_clamp (show j + 2 < 2 ^ 31 by omega)]
  refine V.aload_n (j := 0) dL_law_753 rfl rfl rfl ?_
  refine V.iload_n (j := 3) dL_law_754 rfl rfl rfl ?_
  refine V.iconst dL_law_755 rfl ki_3 ?_
  refine V.iadd dL_law_756 rfl ?_
  rw [show nI j + (3 : Int32) = nI (j + 3) from nI_plus j 3]
  refine LW.sld (vp_in_nI (show j + 3 < L by omega) hL31) dL_law_757 rfl ?_
  rw [nI_clamp (show j + 3 < 2 ^ 31 by omega)]
  refine LW.callV (As := [.int (xs (j + 1)), .int (xs (j + 2)), .int (xs (j + 3))]) (rest := []) (st' := [.int v]) EXL.ok (mX8_place EXL.b (by decide) e1) mic_X8_place rfl (show KD 0 = 7 by decide) (by decide) rfl rfl wq_m_L_97 wq_i_yX8_place wq_s_yX8_place ⟨Nat.le_of_ble_eq_true rfl, Nat.le_of_ble_eq_true rfl⟩ (Nat.le_of_ble_eq_true rfl) ⟨Nat.le_of_ble_eq_true rfl, Nat.le_of_ble_eq_true rfl⟩ dL_law_758 rfl rfl rfl ?_
  refine V.aload_n (j := 2) dL_law_761 rfl rfl rfl ?_
  refine V.aload_n (j := 0) dL_law_762 rfl rfl rfl ?_
  refine V.iload_n (j := 3) dL_law_763 rfl rfl rfl ?_
  refine V.iconst dL_law_764 rfl ki_1 ?_
  refine V.iadd dL_law_765 rfl ?_
  rw [show nI j + (1 : Int32) = nI (j + 1) from nI_plus j 1]
  refine LW.sld (vp_in_nI (show j + 1 < L by omega) hL31) dL_law_766 rfl ?_
  rw [nI_clamp (show j + 1 < 2 ^ 31 by omega)]
  refine V.aload_n (j := 0) dL_law_767 rfl rfl rfl ?_
  refine V.iload_n (j := 3) dL_law_768 rfl rfl rfl ?_
  refine V.iconst dL_law_769 rfl ki_2 ?_
  refine V.iadd dL_law_770 rfl ?_
  rw [show nI j + (2 : Int32) = nI (j + 2) from nI_plus j 2]
  refine LW.sld (vp_in_nI (show j + 2 < L by omega) hL31) dL_law_771 rfl ?_
  rw [nI_clamp (show j + 2 < 2 ^ 31 by omega)]
  refine V.aload_n (j := 0) dL_law_772 rfl rfl rfl ?_
  refine V.iload_n (j := 3) dL_law_773 rfl rfl rfl ?_
  refine V.iconst dL_law_774 rfl ki_3 ?_
  refine V.iadd dL_law_775 rfl ?_
  rw [show nI j + (3 : Int32) = nI (j + 3) from nI_plus j 3]
  refine LW.sld (vp_in_nI (show j + 3 < L by omega) hL31) dL_law_776 rfl ?_
  rw [nI_clamp (show j + 3 < 2 ^ 31 by omega)]
  refine LW.callV (As := [.int (xs (j + 1)), .int (xs (j + 2)), .int (xs (j + 3))]) (rest := [.int v]) (st' := [.int v, .int v]) EXL.ok (mX9_place EXL.b (by decide) e2) mic_X9_place rfl (show KD 262 = 8 by decide) (by decide) rfl rfl wq_m_L_100 wq_i_yX9_place wq_s_yX9_place ⟨Nat.le_of_ble_eq_true rfl, Nat.le_of_ble_eq_true rfl⟩ (Nat.le_of_ble_eq_true rfl) ⟨Nat.le_of_ble_eq_true rfl, Nat.le_of_ble_eq_true rfl⟩ dL_law_777 rfl rfl rfl ?_
  refine V.icmp_eq (tgt := 1367) (A := some 0) (B := (none : Option Nat)) (r := 0) (if_pos rfl) dL_law_780 (by decide) rfl (fun _ => ?_) (fun hx => by cases hx)
  exact kk _ hR2
set_option maxRecDepth 100000 in
set_option maxHeartbeats 4000000 in
theorem law_plan {l : Launch} {G : GG} {adV : Nat → Nat} {fm : Option Nat} {b L : Nat} {xs : Nat → Int32} {R : AH → Prop} (ops : OP_plan R) {j : Nat} (hj : j + 6 ≤ L) (hL : L ≤ 384) {h : AH} (hR : R h) (kk : ∀ h2, R h2 → V l G (EXL G adV fm b L xs) mi_L ⟨13, 600000, 7302250, 508⟩ (FL G b) 275 3257 1367 [(0, .ref b), (1, .ref (G.1 + 0)), (2, .ref (G.1 + 262)), (3, .int (nI j))] [] (up h2)) : V l G (EXL G adV fm b L xs) mi_L ⟨13, 600000, 7302250, 508⟩ (FL G b) 275 3257 785 [(0, .ref b), (1, .ref (G.1 + 0)), (2, .ref (G.1 + 262)), (3, .int (nI j))] [] (up h) := by
  have hL31 : L < 2 ^ 31 := by omega
  obtain ⟨v, h1, h2, e1, e2, hR2⟩ := ops (xs (j + 1)) (xs (j + 2)) h hR
  refine V.aload_n (j := 1) dL_law_785 rfl rfl rfl ?_
  refine V.aload_n (j := 0) dL_law_786 rfl rfl rfl ?_
  refine V.iload_n (j := 3) dL_law_787 rfl rfl rfl ?_
  refine V.iconst dL_law_788 rfl ki_1 ?_
  refine V.iadd dL_law_789 rfl ?_
  rw [show nI j + (1 : Int32) = nI (j + 1) from nI_plus j 1]
  refine LW.sld (vp_in_nI (show j + 1 < L by omega) hL31) dL_law_790 rfl ?_
  rw [nI_clamp (show j + 1 < 2 ^ 31 by omega)]
  refine V.aload_n (j := 0) dL_law_791 rfl rfl rfl ?_
  refine V.iload_n (j := 3) dL_law_792 rfl rfl rfl ?_
  refine V.iconst dL_law_793 rfl ki_2 ?_
  refine V.iadd dL_law_794 rfl ?_
  rw [show nI j + (2 : Int32) = nI (j + 2) from nI_plus j 2]
  refine LW.sld (vp_in_nI (show j + 2 < L by omega) hL31) dL_law_795 rfl ?_
  rw [nI_clamp (show j + 2 < 2 ^ 31 by omega)]
  refine LW.callV (As := [.int (xs (j + 1)), .int (xs (j + 2))]) (rest := []) (st' := [.int v]) EXL.ok (mX8_plan EXL.b (by decide) e1) mic_X8_plan rfl (show KD 0 = 7 by decide) (by decide) rfl rfl wq_m_L_101 wq_i_yX8_plan wq_s_yX8_plan ⟨Nat.le_of_ble_eq_true rfl, Nat.le_of_ble_eq_true rfl⟩ (Nat.le_of_ble_eq_true rfl) ⟨Nat.le_of_ble_eq_true rfl, Nat.le_of_ble_eq_true rfl⟩ dL_law_796 rfl rfl rfl ?_
  refine V.aload_n (j := 2) dL_law_799 rfl rfl rfl ?_
  refine V.aload_n (j := 0) dL_law_800 rfl rfl rfl ?_
  refine V.iload_n (j := 3) dL_law_801 rfl rfl rfl ?_
  refine V.iconst dL_law_802 rfl ki_1 ?_
  refine V.iadd dL_law_803 rfl ?_
  rw [show nI j + (1 : Int32) = nI (j + 1) from nI_plus j 1]
  refine LW.sld (vp_in_nI (show j + 1 < L by omega) hL31) dL_law_804 rfl ?_
  rw [nI_clamp (show j + 1 < 2 ^ 31 by omega)]
  refine V.aload_n (j := 0) dL_law_805 rfl rfl rfl ?_
  refine V.iload_n (j := 3) dL_law_806 rfl rfl rfl ?_
  refine V.iconst dL_law_807 rfl ki_2 ?_
  refine V.iadd dL_law_808 rfl ?_
  rw [show nI j + (2 : Int32) = nI (j + 2) from nI_plus j 2]
  refine LW.sld (vp_in_nI (show j + 2 < L by omega) hL31) dL_law_809 rfl ?_
  rw [nI_clamp (show j + 2 < 2 ^ 31 by omega)]
  refine LW.callV (As := [.int (xs (j + 1)), .int (xs (j + 2))]) (rest := [.int v]) (st' := [.int v, .int v]) EXL.ok (mX9_plan EXL.b (by decide) e2) mic_X9_plan rfl (show KD 262 = 8 by decide) (by decide) rfl rfl wq_m_L_104 wq_i_yX9_plan wq_s_yX9_plan ⟨Nat.le_of_ble_eq_true rfl, Nat.le_of_ble_eq_true rfl⟩ (Nat.le_of_ble_eq_true rfl) ⟨Nat.le_of_ble_eq_true rfl, Nat.le_of_ble_eq_true rfl⟩ dL_law_810 rfl rfl rfl ?_
  refine V.icmp_eq (tgt := 1367) (A := some 0) (B := (none : Option Nat)) (r := 0) (if_pos rfl) dL_law_813 (by decide) rfl (fun _ => ?_) (fun hx => by cases hx)
  exact kk _ hR2
set_option maxRecDepth 100000 in
set_option maxHeartbeats 4000000 in
theorem law_guard {l : Launch} {G : GG} {adV : Nat → Nat} {fm : Option Nat} {b L : Nat} {xs : Nat → Int32} {R : AH → Prop} (ops : OP_guard R) {j : Nat} (hj : j + 6 ≤ L) (hL : L ≤ 384) {h : AH} (hR : R h) (kk : ∀ h2, R h2 → V l G (EXL G adV fm b L xs) mi_L ⟨13, 600000, 7302250, 508⟩ (FL G b) 275 3257 1367 [(0, .ref b), (1, .ref (G.1 + 0)), (2, .ref (G.1 + 262)), (3, .int (nI j))] [] (up h2)) : V l G (EXL G adV fm b L xs) mi_L ⟨13, 600000, 7302250, 508⟩ (FL G b) 275 3257 818 [(0, .ref b), (1, .ref (G.1 + 0)), (2, .ref (G.1 + 262)), (3, .int (nI j))] [] (up h) := by
  have hL31 : L < 2 ^ 31 := by omega
  obtain ⟨v, h1, h2, e1, e2, hR2⟩ := ops (xs (j + 1)) (xs (j + 2)) h hR
  refine V.aload_n (j := 1) dL_law_818 rfl rfl rfl ?_
  refine V.aload_n (j := 0) dL_law_819 rfl rfl rfl ?_
  refine V.iload_n (j := 3) dL_law_820 rfl rfl rfl ?_
  refine V.iconst dL_law_821 rfl ki_1 ?_
  refine V.iadd dL_law_822 rfl ?_
  rw [show nI j + (1 : Int32) = nI (j + 1) from nI_plus j 1]
  refine LW.sld (vp_in_nI (show j + 1 < L by omega) hL31) dL_law_823 rfl ?_
  rw [nI_clamp (show j + 1 < 2 ^ 31 by omega)]
  refine V.aload_n (j := 0) dL_law_824 rfl rfl rfl ?_
  refine V.iload_n (j := 3) dL_law_825 rfl rfl rfl ?_
  refine V.iconst dL_law_826 rfl ki_2 ?_
  refine V.iadd dL_law_827 rfl ?_
  rw [show nI j + (2 : Int32) = nI (j + 2) from nI_plus j 2]
  refine LW.sld (vp_in_nI (show j + 2 < L by omega) hL31) dL_law_828 rfl ?_
  rw [nI_clamp (show j + 2 < 2 ^ 31 by omega)]
  refine LW.callV (As := [.int (xs (j + 1)), .int (xs (j + 2))]) (rest := []) (st' := [.int v]) EXL.ok (mX8_guard EXL.b (by decide) e1) mic_X8_guard rfl (show KD 0 = 7 by decide) (by decide) rfl rfl wq_m_L_105 wq_i_yX8_guard wq_s_yX8_guard ⟨Nat.le_of_ble_eq_true rfl, Nat.le_of_ble_eq_true rfl⟩ (Nat.le_of_ble_eq_true rfl) ⟨Nat.le_of_ble_eq_true rfl, Nat.le_of_ble_eq_true rfl⟩ dL_law_829 rfl rfl rfl ?_
  refine V.aload_n (j := 2) dL_law_832 rfl rfl rfl ?_
  refine V.aload_n (j := 0) dL_law_833 rfl rfl rfl ?_
  refine V.iload_n (j := 3) dL_law_834 rfl rfl rfl ?_
  refine V.iconst dL_law_835 rfl ki_1 ?_
  refine V.iadd dL_law_836 rfl ?_
  rw [show nI j + (1 : Int32) = nI (j + 1) from nI_plus j 1]
  refine LW.sld (vp_in_nI (show j + 1 < L by omega) hL31) dL_law_837 rfl ?_
  rw [nI_clamp (show j + 1 < 2 ^ 31 by omega)]
  refine V.aload_n (j := 0) dL_law_838 rfl rfl rfl ?_
  refine V.iload_n (j := 3) dL_law_839 rfl rfl rfl ?_
  refine V.iconst dL_law_840 rfl ki_2 ?_
  refine V.iadd dL_law_841 rfl ?_
  rw [show nI j + (2 : Int32) = nI (j + 2) from nI_plus j 2]
  refine LW.sld (vp_in_nI (show j + 2 < L by omega) hL31) dL_law_842 rfl ?_
  rw [nI_clamp (show j + 2 < 2 ^ 31 by omega)]
  refine LW.callV (As := [.int (xs (j + 1)), .int (xs (j + 2))]) (rest := [.int v]) (st' := [.int v, .int v]) EXL.ok (mX9_guard EXL.b (by decide) e2) mic_X9_guard rfl (show KD 262 = 8 by decide) (by decide) rfl rfl wq_m_L_108 wq_i_yX9_guard wq_s_yX9_guard ⟨Nat.le_of_ble_eq_true rfl, Nat.le_of_ble_eq_true rfl⟩ (Nat.le_of_ble_eq_true rfl) ⟨Nat.le_of_ble_eq_true rfl, Nat.le_of_ble_eq_true rfl⟩ dL_law_843 rfl rfl rfl ?_
  refine V.icmp_eq (tgt := 1367) (A := some 0) (B := (none : Option Nat)) (r := 0) (if_pos rfl) dL_law_846 (by decide) rfl (fun _ => ?_) (fun hx => by cases hx)
  exact kk _ hR2
set_option maxRecDepth 100000 in
set_option maxHeartbeats 4000000 in
theorem law_saw {l : Launch} {G : GG} {adV : Nat → Nat} {fm : Option Nat} {b L : Nat} {xs : Nat → Int32} {R : AH → Prop} (ops : OP_saw R) {j : Nat} (hj : j + 6 ≤ L) (hL : L ≤ 384) {h : AH} (hR : R h) (kk : ∀ h2, R h2 → V l G (EXL G adV fm b L xs) mi_L ⟨13, 600000, 7302250, 508⟩ (FL G b) 275 3257 1367 [(0, .ref b), (1, .ref (G.1 + 0)), (2, .ref (G.1 + 262)), (3, .int (nI j))] [] (up h2)) : V l G (EXL G adV fm b L xs) mi_L ⟨13, 600000, 7302250, 508⟩ (FL G b) 275 3257 851 [(0, .ref b), (1, .ref (G.1 + 0)), (2, .ref (G.1 + 262)), (3, .int (nI j))] [] (up h) := by
  have hL31 : L < 2 ^ 31 := by omega
  obtain ⟨v, h1, h2, e1, e2, hR2⟩ := ops (xs (j + 1)) (xs (j + 2)) h hR
  refine V.aload_n (j := 1) dL_law_851 rfl rfl rfl ?_
  refine V.aload_n (j := 0) dL_law_852 rfl rfl rfl ?_
  refine V.iload_n (j := 3) dL_law_853 rfl rfl rfl ?_
  refine V.iconst dL_law_854 rfl ki_1 ?_
  refine V.iadd dL_law_855 rfl ?_
  rw [show nI j + (1 : Int32) = nI (j + 1) from nI_plus j 1]
  refine LW.sld (vp_in_nI (show j + 1 < L by omega) hL31) dL_law_856 rfl ?_
  rw [nI_clamp (show j + 1 < 2 ^ 31 by omega)]
  refine V.aload_n (j := 0) dL_law_857 rfl rfl rfl ?_
  refine V.iload_n (j := 3) dL_law_858 rfl rfl rfl ?_
  refine V.iconst dL_law_859 rfl ki_2 ?_
  refine V.iadd dL_law_860 rfl ?_
  rw [show nI j + (2 : Int32) = nI (j + 2) from nI_plus j 2]
  refine LW.sld (vp_in_nI (show j + 2 < L by omega) hL31) dL_law_861 rfl ?_
  rw [nI_clamp (show j + 2 < 2 ^ 31 by omega)]
  refine LW.callV (As := [.int (xs (j + 1)), .int (xs (j + 2))]) (rest := []) (st' := [.int v]) EXL.ok (mX8_saw EXL.b (by decide) e1) mic_X8_saw rfl (show KD 0 = 7 by decide) (by decide) rfl rfl wq_m_L_109 wq_i_yX8_saw wq_s_yX8_saw ⟨Nat.le_of_ble_eq_true rfl, Nat.le_of_ble_eq_true rfl⟩ (Nat.le_of_ble_eq_true rfl) ⟨Nat.le_of_ble_eq_true rfl, Nat.le_of_ble_eq_true rfl⟩ dL_law_862 rfl rfl rfl ?_
  refine V.aload_n (j := 2) dL_law_865 rfl rfl rfl ?_
  refine V.aload_n (j := 0) dL_law_866 rfl rfl rfl ?_
  refine V.iload_n (j := 3) dL_law_867 rfl rfl rfl ?_
  refine V.iconst dL_law_868 rfl ki_1 ?_
  refine V.iadd dL_law_869 rfl ?_
  rw [show nI j + (1 : Int32) = nI (j + 1) from nI_plus j 1]
  refine LW.sld (vp_in_nI (show j + 1 < L by omega) hL31) dL_law_870 rfl ?_
  rw [nI_clamp (show j + 1 < 2 ^ 31 by omega)]
  refine V.aload_n (j := 0) dL_law_871 rfl rfl rfl ?_
  refine V.iload_n (j := 3) dL_law_872 rfl rfl rfl ?_
  refine V.iconst dL_law_873 rfl ki_2 ?_
  refine V.iadd dL_law_874 rfl ?_
  rw [show nI j + (2 : Int32) = nI (j + 2) from nI_plus j 2]
  refine LW.sld (vp_in_nI (show j + 2 < L by omega) hL31) dL_law_875 rfl ?_
  rw [nI_clamp (show j + 2 < 2 ^ 31 by omega)]
  refine LW.callV (As := [.int (xs (j + 1)), .int (xs (j + 2))]) (rest := [.int v]) (st' := [.int v, .int v]) EXL.ok (mX9_saw EXL.b (by decide) e2) mic_X9_saw rfl (show KD 262 = 8 by decide) (by decide) rfl rfl wq_m_L_112 wq_i_yX9_saw wq_s_yX9_saw ⟨Nat.le_of_ble_eq_true rfl, Nat.le_of_ble_eq_true rfl⟩ (Nat.le_of_ble_eq_true rfl) ⟨Nat.le_of_ble_eq_true rfl, Nat.le_of_ble_eq_true rfl⟩ dL_law_876 rfl rfl rfl ?_
  refine V.icmp_eq (tgt := 1367) (A := some 0) (B := (none : Option Nat)) (r := 0) (if_pos rfl) dL_law_879 (by decide) rfl (fun _ => ?_) (fun hx => by cases hx)
  exact kk _ hR2
set_option maxRecDepth 100000 in
set_option maxHeartbeats 4000000 in
theorem law_where {l : Launch} {G : GG} {adV : Nat → Nat} {fm : Option Nat} {b L : Nat} {xs : Nat → Int32} {R : AH → Prop} (ops : OP_where R) {j : Nat} (hj : j + 6 ≤ L) (hL : L ≤ 384) {h : AH} (hR : R h) (kk : ∀ h2, R h2 → V l G (EXL G adV fm b L xs) mi_L ⟨13, 600000, 7302250, 508⟩ (FL G b) 275 3257 1367 [(0, .ref b), (1, .ref (G.1 + 0)), (2, .ref (G.1 + 262)), (3, .int (nI j))] [] (up h2)) : V l G (EXL G adV fm b L xs) mi_L ⟨13, 600000, 7302250, 508⟩ (FL G b) 275 3257 884 [(0, .ref b), (1, .ref (G.1 + 0)), (2, .ref (G.1 + 262)), (3, .int (nI j))] [] (up h) := by
  have hL31 : L < 2 ^ 31 := by omega
  obtain ⟨v, h1, e1, e2, hR2⟩ := ops h hR
  refine V.aload_n (j := 1) dL_law_884 rfl rfl rfl ?_
  refine LW.callV (As := []) (rest := []) (st' := [.int v]) EXL.ok (mX8_where EXL.b (by decide) e1) mic_X8_where rfl (show KD 0 = 7 by decide) (by decide) rfl rfl wq_m_L_113 wq_i_yX8_where wq_s_yX8_where ⟨Nat.le_of_ble_eq_true rfl, Nat.le_of_ble_eq_true rfl⟩ (Nat.le_of_ble_eq_true rfl) ⟨Nat.le_of_ble_eq_true rfl, Nat.le_of_ble_eq_true rfl⟩ dL_law_885 rfl rfl rfl ?_
  refine V.aload_n (j := 2) dL_law_888 rfl rfl rfl ?_
  refine LW.callV (As := []) (rest := [.int v]) (st' := [.int v, .int v]) EXL.ok (mX9_where EXL.b (by decide) e2) mic_X9_where rfl (show KD 262 = 8 by decide) (by decide) rfl rfl wq_m_L_116 wq_i_yX9_where wq_s_yX9_where ⟨Nat.le_of_ble_eq_true rfl, Nat.le_of_ble_eq_true rfl⟩ (Nat.le_of_ble_eq_true rfl) ⟨Nat.le_of_ble_eq_true rfl, Nat.le_of_ble_eq_true rfl⟩ dL_law_889 rfl rfl rfl ?_
  refine V.icmp_eq (tgt := 1367) (A := some 0) (B := (none : Option Nat)) (r := 0) (if_pos rfl) dL_law_892 (by decide) rfl (fun _ => ?_) (fun hx => by cases hx)
  exact kk _ hR2
set_option maxRecDepth 100000 in
set_option maxHeartbeats 4000000 in
theorem law_note {l : Launch} {G : GG} {adV : Nat → Nat} {fm : Option Nat} {b L : Nat} {xs : Nat → Int32} {R : AH → Prop} (ops : OP_note R) {j : Nat} (hj : j + 6 ≤ L) (hL : L ≤ 384) {h : AH} (hR : R h) (kk : ∀ h2, R h2 → V l G (EXL G adV fm b L xs) mi_L ⟨13, 600000, 7302250, 508⟩ (FL G b) 275 3257 1367 [(0, .ref b), (1, .ref (G.1 + 0)), (2, .ref (G.1 + 262)), (3, .int (nI j))] [] (up h2)) : V l G (EXL G adV fm b L xs) mi_L ⟨13, 600000, 7302250, 508⟩ (FL G b) 275 3257 897 [(0, .ref b), (1, .ref (G.1 + 0)), (2, .ref (G.1 + 262)), (3, .int (nI j))] [] (up h) := by
  have hL31 : L < 2 ^ 31 := by omega
  obtain ⟨v, h1, h2, e1, e2, hR2⟩ := ops (xs (j + 1)) (xs (j + 2)) (xs (j + 3)) (xs (j + 4)) (xs (j + 5)) h hR
  refine V.aload_n (j := 1) dL_law_897 rfl rfl rfl ?_
  refine V.aload_n (j := 0) dL_law_898 rfl rfl rfl ?_
  refine V.iload_n (j := 3) dL_law_899 rfl rfl rfl ?_
  refine V.iconst dL_law_900 rfl ki_1 ?_
  refine V.iadd dL_law_901 rfl ?_
  rw [show nI j + (1 : Int32) = nI (j + 1) from nI_plus j 1]
  refine LW.sld (vp_in_nI (show j + 1 < L by omega) hL31) dL_law_902 rfl ?_
  rw [nI_clamp (show j + 1 < 2 ^ 31 by omega)]
  refine V.aload_n (j := 0) dL_law_903 rfl rfl rfl ?_
  refine V.iload_n (j := 3) dL_law_904 rfl rfl rfl ?_
  refine V.iconst dL_law_905 rfl ki_2 ?_
  refine V.iadd dL_law_906 rfl ?_
  rw [show nI j + (2 : Int32) = nI (j + 2) from nI_plus j 2]
  refine LW.sld (vp_in_nI (show j + 2 < L by omega) hL31) dL_law_907 rfl ?_
  rw [nI_clamp (show j + 2 < 2 ^ 31 by omega)]
  refine V.aload_n (j := 0) dL_law_908 rfl rfl rfl ?_
  refine V.iload_n (j := 3) dL_law_909 rfl rfl rfl ?_
  refine V.iconst dL_law_910 rfl ki_3 ?_
  refine V.iadd dL_law_911 rfl ?_
  rw [show nI j + (3 : Int32) = nI (j + 3) from nI_plus j 3]
  refine LW.sld (vp_in_nI (show j + 3 < L by omega) hL31) dL_law_912 rfl ?_
  rw [nI_clamp (show j + 3 < 2 ^ 31 by omega)]
  refine V.aload_n (j := 0) dL_law_913 rfl rfl rfl ?_
  refine V.iload_n (j := 3) dL_law_914 rfl rfl rfl ?_
  refine V.iconst dL_law_915 rfl ki_4 ?_
  refine V.iadd dL_law_916 rfl ?_
  rw [show nI j + (4 : Int32) = nI (j + 4) from nI_plus j 4]
  refine LW.sld (vp_in_nI (show j + 4 < L by omega) hL31) dL_law_917 rfl ?_
  rw [nI_clamp (show j + 4 < 2 ^ 31 by omega)]
  refine V.aload_n (j := 0) dL_law_918 rfl rfl rfl ?_
  refine V.iload_n (j := 3) dL_law_919 rfl rfl rfl ?_
  refine V.iconst dL_law_920 rfl ki_5 ?_
  refine V.iadd dL_law_921 rfl ?_
  rw [show nI j + (5 : Int32) = nI (j + 5) from nI_plus j 5]
  refine LW.sld (vp_in_nI (show j + 5 < L by omega) hL31) dL_law_922 rfl ?_
  rw [nI_clamp (show j + 5 < 2 ^ 31 by omega)]
  refine LW.callV (As := [.int (xs (j + 1)), .int (xs (j + 2)), .int (xs (j + 3)), .int (xs (j + 4)), .int (xs (j + 5))]) (rest := []) (st' := [.int v]) EXL.ok (mX8_note EXL.b (by decide) e1) mic_X8_note rfl (show KD 0 = 7 by decide) (by decide) rfl rfl wq_m_L_117 wq_i_yX8_note wq_s_yX8_note ⟨Nat.le_of_ble_eq_true rfl, Nat.le_of_ble_eq_true rfl⟩ (Nat.le_of_ble_eq_true rfl) ⟨Nat.le_of_ble_eq_true rfl, Nat.le_of_ble_eq_true rfl⟩ dL_law_923 rfl rfl rfl ?_
  refine V.aload_n (j := 2) dL_law_926 rfl rfl rfl ?_
  refine V.aload_n (j := 0) dL_law_927 rfl rfl rfl ?_
  refine V.iload_n (j := 3) dL_law_928 rfl rfl rfl ?_
  refine V.iconst dL_law_929 rfl ki_1 ?_
  refine V.iadd dL_law_930 rfl ?_
  rw [show nI j + (1 : Int32) = nI (j + 1) from nI_plus j 1]
  refine LW.sld (vp_in_nI (show j + 1 < L by omega) hL31) dL_law_931 rfl ?_
  rw [nI_clamp (show j + 1 < 2 ^ 31 by omega)]
  refine V.aload_n (j := 0) dL_law_932 rfl rfl rfl ?_
  refine V.iload_n (j := 3) dL_law_933 rfl rfl rfl ?_
  refine V.iconst dL_law_934 rfl ki_2 ?_
  refine V.iadd dL_law_935 rfl ?_
  rw [show nI j + (2 : Int32) = nI (j + 2) from nI_plus j 2]
  refine LW.sld (vp_in_nI (show j + 2 < L by omega) hL31) dL_law_936 rfl ?_
  rw [nI_clamp (show j + 2 < 2 ^ 31 by omega)]
  refine V.aload_n (j := 0) dL_law_937 rfl rfl rfl ?_
  refine V.iload_n (j := 3) dL_law_938 rfl rfl rfl ?_
  refine V.iconst dL_law_939 rfl ki_3 ?_
  refine V.iadd dL_law_940 rfl ?_
  rw [show nI j + (3 : Int32) = nI (j + 3) from nI_plus j 3]
  refine LW.sld (vp_in_nI (show j + 3 < L by omega) hL31) dL_law_941 rfl ?_
  rw [nI_clamp (show j + 3 < 2 ^ 31 by omega)]
  refine V.aload_n (j := 0) dL_law_942 rfl rfl rfl ?_
  refine V.iload_n (j := 3) dL_law_943 rfl rfl rfl ?_
  refine V.iconst dL_law_944 rfl ki_4 ?_
  refine V.iadd dL_law_945 rfl ?_
  rw [show nI j + (4 : Int32) = nI (j + 4) from nI_plus j 4]
  refine LW.sld (vp_in_nI (show j + 4 < L by omega) hL31) dL_law_946 rfl ?_
  rw [nI_clamp (show j + 4 < 2 ^ 31 by omega)]
  refine V.aload_n (j := 0) dL_law_947 rfl rfl rfl ?_
  refine V.iload_n (j := 3) dL_law_948 rfl rfl rfl ?_
  refine V.iconst dL_law_949 rfl ki_5 ?_
  refine V.iadd dL_law_950 rfl ?_
  rw [show nI j + (5 : Int32) = nI (j + 5) from nI_plus j 5]
  refine LW.sld (vp_in_nI (show j + 5 < L by omega) hL31) dL_law_951 rfl ?_
  rw [nI_clamp (show j + 5 < 2 ^ 31 by omega)]
  refine LW.callV (As := [.int (xs (j + 1)), .int (xs (j + 2)), .int (xs (j + 3)), .int (xs (j + 4)), .int (xs (j + 5))]) (rest := [.int v]) (st' := [.int v, .int v]) EXL.ok (mX9_note EXL.b (by decide) e2) mic_X9_note rfl (show KD 262 = 8 by decide) (by decide) rfl rfl wq_m_L_121 wq_i_yX9_note wq_s_yX9_note ⟨Nat.le_of_ble_eq_true rfl, Nat.le_of_ble_eq_true rfl⟩ (Nat.le_of_ble_eq_true rfl) ⟨Nat.le_of_ble_eq_true rfl, Nat.le_of_ble_eq_true rfl⟩ dL_law_952 rfl rfl rfl ?_
  refine V.icmp_eq (tgt := 1367) (A := some 0) (B := (none : Option Nat)) (r := 0) (if_pos rfl) dL_law_955 (by decide) rfl (fun _ => ?_) (fun hx => by cases hx)
  exact kk _ hR2
set_option maxRecDepth 100000 in
set_option maxHeartbeats 4000000 in
theorem law_mark {l : Launch} {G : GG} {adV : Nat → Nat} {fm : Option Nat} {b L : Nat} {xs : Nat → Int32} {R : AH → Prop} (ops : OP_mark R) {j : Nat} (hj : j + 6 ≤ L) (hL : L ≤ 384) {h : AH} (hR : R h) (kk : ∀ h2, R h2 → V l G (EXL G adV fm b L xs) mi_L ⟨13, 600000, 7302250, 508⟩ (FL G b) 275 3257 1367 [(0, .ref b), (1, .ref (G.1 + 0)), (2, .ref (G.1 + 262)), (3, .int (nI j))] [] (up h2)) : V l G (EXL G adV fm b L xs) mi_L ⟨13, 600000, 7302250, 508⟩ (FL G b) 275 3257 960 [(0, .ref b), (1, .ref (G.1 + 0)), (2, .ref (G.1 + 262)), (3, .int (nI j))] [] (up h) := by
  have hL31 : L < 2 ^ 31 := by omega
  obtain ⟨v, h1, h2, e1, e2, hR2⟩ := ops (xs (j + 1)) (xs (j + 2)) (xs (j + 3)) (xs (j + 4)) h hR
  refine V.aload_n (j := 1) dL_law_960 rfl rfl rfl ?_
  refine V.aload_n (j := 0) dL_law_961 rfl rfl rfl ?_
  refine V.iload_n (j := 3) dL_law_962 rfl rfl rfl ?_
  refine V.iconst dL_law_963 rfl ki_1 ?_
  refine V.iadd dL_law_964 rfl ?_
  rw [show nI j + (1 : Int32) = nI (j + 1) from nI_plus j 1]
  refine LW.sld (vp_in_nI (show j + 1 < L by omega) hL31) dL_law_965 rfl ?_
  rw [nI_clamp (show j + 1 < 2 ^ 31 by omega)]
  refine V.aload_n (j := 0) dL_law_966 rfl rfl rfl ?_
  refine V.iload_n (j := 3) dL_law_967 rfl rfl rfl ?_
  refine V.iconst dL_law_968 rfl ki_2 ?_
  refine V.iadd dL_law_969 rfl ?_
  rw [show nI j + (2 : Int32) = nI (j + 2) from nI_plus j 2]
  refine LW.sld (vp_in_nI (show j + 2 < L by omega) hL31) dL_law_970 rfl ?_
  rw [nI_clamp (show j + 2 < 2 ^ 31 by omega)]
  refine V.aload_n (j := 0) dL_law_971 rfl rfl rfl ?_
  refine V.iload_n (j := 3) dL_law_972 rfl rfl rfl ?_
  refine V.iconst dL_law_973 rfl ki_3 ?_
  refine V.iadd dL_law_974 rfl ?_
  rw [show nI j + (3 : Int32) = nI (j + 3) from nI_plus j 3]
  refine LW.sld (vp_in_nI (show j + 3 < L by omega) hL31) dL_law_975 rfl ?_
  rw [nI_clamp (show j + 3 < 2 ^ 31 by omega)]
  refine V.aload_n (j := 0) dL_law_976 rfl rfl rfl ?_
  refine V.iload_n (j := 3) dL_law_977 rfl rfl rfl ?_
  refine V.iconst dL_law_978 rfl ki_4 ?_
  refine V.iadd dL_law_979 rfl ?_
  rw [show nI j + (4 : Int32) = nI (j + 4) from nI_plus j 4]
  refine LW.sld (vp_in_nI (show j + 4 < L by omega) hL31) dL_law_980 rfl ?_
  rw [nI_clamp (show j + 4 < 2 ^ 31 by omega)]
  refine LW.callV (As := [.int (xs (j + 1)), .int (xs (j + 2)), .int (xs (j + 3)), .int (xs (j + 4))]) (rest := []) (st' := [.int v]) EXL.ok (mX8_mark EXL.b (by decide) e1) mic_X8_mark rfl (show KD 0 = 7 by decide) (by decide) rfl rfl wq_m_L_122 wq_i_yX8_mark wq_s_yX8_mark ⟨Nat.le_of_ble_eq_true rfl, Nat.le_of_ble_eq_true rfl⟩ (Nat.le_of_ble_eq_true rfl) ⟨Nat.le_of_ble_eq_true rfl, Nat.le_of_ble_eq_true rfl⟩ dL_law_981 rfl rfl rfl ?_
  refine V.aload_n (j := 2) dL_law_984 rfl rfl rfl ?_
  refine V.aload_n (j := 0) dL_law_985 rfl rfl rfl ?_
  refine V.iload_n (j := 3) dL_law_986 rfl rfl rfl ?_
  refine V.iconst dL_law_987 rfl ki_1 ?_
  refine V.iadd dL_law_988 rfl ?_
  rw [show nI j + (1 : Int32) = nI (j + 1) from nI_plus j 1]
  refine LW.sld (vp_in_nI (show j + 1 < L by omega) hL31) dL_law_989 rfl ?_
  rw [nI_clamp (show j + 1 < 2 ^ 31 by omega)]
  refine V.aload_n (j := 0) dL_law_990 rfl rfl rfl ?_
  refine V.iload_n (j := 3) dL_law_991 rfl rfl rfl ?_
  refine V.iconst dL_law_992 rfl ki_2 ?_
  refine V.iadd dL_law_993 rfl ?_
  rw [show nI j + (2 : Int32) = nI (j + 2) from nI_plus j 2]
  refine LW.sld (vp_in_nI (show j + 2 < L by omega) hL31) dL_law_994 rfl ?_
  rw [nI_clamp (show j + 2 < 2 ^ 31 by omega)]
  refine V.aload_n (j := 0) dL_law_995 rfl rfl rfl ?_
  refine V.iload_n (j := 3) dL_law_996 rfl rfl rfl ?_
  refine V.iconst dL_law_997 rfl ki_3 ?_
  refine V.iadd dL_law_998 rfl ?_
  rw [show nI j + (3 : Int32) = nI (j + 3) from nI_plus j 3]
  refine LW.sld (vp_in_nI (show j + 3 < L by omega) hL31) dL_law_999 rfl ?_
  rw [nI_clamp (show j + 3 < 2 ^ 31 by omega)]
  refine V.aload_n (j := 0) dL_law_1000 rfl rfl rfl ?_
  refine V.iload_n (j := 3) dL_law_1001 rfl rfl rfl ?_
  refine V.iconst dL_law_1002 rfl ki_4 ?_
  refine V.iadd dL_law_1003 rfl ?_
  rw [show nI j + (4 : Int32) = nI (j + 4) from nI_plus j 4]
  refine LW.sld (vp_in_nI (show j + 4 < L by omega) hL31) dL_law_1004 rfl ?_
  rw [nI_clamp (show j + 4 < 2 ^ 31 by omega)]
  refine LW.callV (As := [.int (xs (j + 1)), .int (xs (j + 2)), .int (xs (j + 3)), .int (xs (j + 4))]) (rest := [.int v]) (st' := [.int v, .int v]) EXL.ok (mX9_mark EXL.b (by decide) e2) mic_X9_mark rfl (show KD 262 = 8 by decide) (by decide) rfl rfl wq_m_L_126 wq_i_yX9_mark wq_s_yX9_mark ⟨Nat.le_of_ble_eq_true rfl, Nat.le_of_ble_eq_true rfl⟩ (Nat.le_of_ble_eq_true rfl) ⟨Nat.le_of_ble_eq_true rfl, Nat.le_of_ble_eq_true rfl⟩ dL_law_1005 rfl rfl rfl ?_
  refine V.icmp_eq (tgt := 1367) (A := some 0) (B := (none : Option Nat)) (r := 0) (if_pos rfl) dL_law_1008 (by decide) rfl (fun _ => ?_) (fun hx => by cases hx)
  exact kk _ hR2
set_option maxRecDepth 100000 in
set_option maxHeartbeats 4000000 in
theorem law_forget {l : Launch} {G : GG} {adV : Nat → Nat} {fm : Option Nat} {b L : Nat} {xs : Nat → Int32} {R : AH → Prop} (ops : OP_forget R) {j : Nat} (hj : j + 6 ≤ L) (hL : L ≤ 384) {h : AH} (hR : R h) (kk : ∀ h2, R h2 → V l G (EXL G adV fm b L xs) mi_L ⟨13, 600000, 7302250, 508⟩ (FL G b) 275 3257 1367 [(0, .ref b), (1, .ref (G.1 + 0)), (2, .ref (G.1 + 262)), (3, .int (nI j))] [] (up h2)) : V l G (EXL G adV fm b L xs) mi_L ⟨13, 600000, 7302250, 508⟩ (FL G b) 275 3257 1013 [(0, .ref b), (1, .ref (G.1 + 0)), (2, .ref (G.1 + 262)), (3, .int (nI j))] [] (up h) := by
  have hL31 : L < 2 ^ 31 := by omega
  obtain ⟨v, h1, h2, e1, e2, hR2⟩ := ops (xs (j + 1)) h hR
  refine V.aload_n (j := 1) dL_law_1013 rfl rfl rfl ?_
  refine V.aload_n (j := 0) dL_law_1014 rfl rfl rfl ?_
  refine V.iload_n (j := 3) dL_law_1015 rfl rfl rfl ?_
  refine V.iconst dL_law_1016 rfl ki_1 ?_
  refine V.iadd dL_law_1017 rfl ?_
  rw [show nI j + (1 : Int32) = nI (j + 1) from nI_plus j 1]
  refine LW.sld (vp_in_nI (show j + 1 < L by omega) hL31) dL_law_1018 rfl ?_
  rw [nI_clamp (show j + 1 < 2 ^ 31 by omega)]
  refine LW.callV (As := [.int (xs (j + 1))]) (rest := []) (st' := [.int v]) EXL.ok (mX8_forget EXL.b (by decide) e1) mic_X8_forget rfl (show KD 0 = 7 by decide) (by decide) rfl rfl wq_m_L_127 wq_i_yX8_forget wq_s_yX8_forget ⟨Nat.le_of_ble_eq_true rfl, Nat.le_of_ble_eq_true rfl⟩ (Nat.le_of_ble_eq_true rfl) ⟨Nat.le_of_ble_eq_true rfl, Nat.le_of_ble_eq_true rfl⟩ dL_law_1019 rfl rfl rfl ?_
  refine V.aload_n (j := 2) dL_law_1022 rfl rfl rfl ?_
  refine V.aload_n (j := 0) dL_law_1023 rfl rfl rfl ?_
  refine V.iload_n (j := 3) dL_law_1024 rfl rfl rfl ?_
  refine V.iconst dL_law_1025 rfl ki_1 ?_
  refine V.iadd dL_law_1026 rfl ?_
  rw [show nI j + (1 : Int32) = nI (j + 1) from nI_plus j 1]
  refine LW.sld (vp_in_nI (show j + 1 < L by omega) hL31) dL_law_1027 rfl ?_
  rw [nI_clamp (show j + 1 < 2 ^ 31 by omega)]
  refine LW.callV (As := [.int (xs (j + 1))]) (rest := [.int v]) (st' := [.int v, .int v]) EXL.ok (mX9_forget EXL.b (by decide) e2) mic_X9_forget rfl (show KD 262 = 8 by decide) (by decide) rfl rfl wq_m_L_130 wq_i_yX9_forget wq_s_yX9_forget ⟨Nat.le_of_ble_eq_true rfl, Nat.le_of_ble_eq_true rfl⟩ (Nat.le_of_ble_eq_true rfl) ⟨Nat.le_of_ble_eq_true rfl, Nat.le_of_ble_eq_true rfl⟩ dL_law_1028 rfl rfl rfl ?_
  refine V.icmp_eq (tgt := 1367) (A := some 0) (B := (none : Option Nat)) (r := 0) (if_pos rfl) dL_law_1031 (by decide) rfl (fun _ => ?_) (fun hx => by cases hx)
  exact kk _ hR2
set_option maxRecDepth 100000 in
set_option maxHeartbeats 4000000 in
theorem law_is {l : Launch} {G : GG} {adV : Nat → Nat} {fm : Option Nat} {b L : Nat} {xs : Nat → Int32} {R : AH → Prop} (ops : OP_is R) {j : Nat} (hj : j + 6 ≤ L) (hL : L ≤ 384) {h : AH} (hR : R h) (kk : ∀ h2, R h2 → V l G (EXL G adV fm b L xs) mi_L ⟨13, 600000, 7302250, 508⟩ (FL G b) 275 3257 1367 [(0, .ref b), (1, .ref (G.1 + 0)), (2, .ref (G.1 + 262)), (3, .int (nI j))] [] (up h2)) : V l G (EXL G adV fm b L xs) mi_L ⟨13, 600000, 7302250, 508⟩ (FL G b) 275 3257 1036 [(0, .ref b), (1, .ref (G.1 + 0)), (2, .ref (G.1 + 262)), (3, .int (nI j))] [] (up h) := by
  have hL31 : L < 2 ^ 31 := by omega
  obtain ⟨v, h1, h2, e1, e2, hR2⟩ := ops (xs (j + 1)) h hR
  refine V.aload_n (j := 1) dL_law_1036 rfl rfl rfl ?_
  refine V.aload_n (j := 0) dL_law_1037 rfl rfl rfl ?_
  refine V.iload_n (j := 3) dL_law_1038 rfl rfl rfl ?_
  refine V.iconst dL_law_1039 rfl ki_1 ?_
  refine V.iadd dL_law_1040 rfl ?_
  rw [show nI j + (1 : Int32) = nI (j + 1) from nI_plus j 1]
  refine LW.sld (vp_in_nI (show j + 1 < L by omega) hL31) dL_law_1041 rfl ?_
  rw [nI_clamp (show j + 1 < 2 ^ 31 by omega)]
  refine LW.callV (As := [.int (xs (j + 1))]) (rest := []) (st' := [.int v]) EXL.ok (mX8_is EXL.b (by decide) e1) mic_X8_is rfl (show KD 0 = 7 by decide) (by decide) rfl rfl wq_m_L_131 wq_i_yX8_is wq_s_yX8_is ⟨Nat.le_of_ble_eq_true rfl, Nat.le_of_ble_eq_true rfl⟩ (Nat.le_of_ble_eq_true rfl) ⟨Nat.le_of_ble_eq_true rfl, Nat.le_of_ble_eq_true rfl⟩ dL_law_1042 rfl rfl rfl ?_
  refine V.aload_n (j := 2) dL_law_1045 rfl rfl rfl ?_
  refine V.aload_n (j := 0) dL_law_1046 rfl rfl rfl ?_
  refine V.iload_n (j := 3) dL_law_1047 rfl rfl rfl ?_
  refine V.iconst dL_law_1048 rfl ki_1 ?_
  refine V.iadd dL_law_1049 rfl ?_
  rw [show nI j + (1 : Int32) = nI (j + 1) from nI_plus j 1]
  refine LW.sld (vp_in_nI (show j + 1 < L by omega) hL31) dL_law_1050 rfl ?_
  rw [nI_clamp (show j + 1 < 2 ^ 31 by omega)]
  refine LW.callV (As := [.int (xs (j + 1))]) (rest := [.int v]) (st' := [.int v, .int v]) EXL.ok (mX9_is EXL.b (by decide) e2) mic_X9_is rfl (show KD 262 = 8 by decide) (by decide) rfl rfl wq_m_L_134 wq_i_yX9_is wq_s_yX9_is ⟨Nat.le_of_ble_eq_true rfl, Nat.le_of_ble_eq_true rfl⟩ (Nat.le_of_ble_eq_true rfl) ⟨Nat.le_of_ble_eq_true rfl, Nat.le_of_ble_eq_true rfl⟩ dL_law_1051 rfl rfl rfl ?_
  refine V.icmp_eq (tgt := 1367) (A := some 0) (B := (none : Option Nat)) (r := 0) (if_pos rfl) dL_law_1054 (by decide) rfl (fun _ => ?_) (fun hx => by cases hx)
  exact kk _ hR2
set_option maxRecDepth 100000 in
set_option maxHeartbeats 4000000 in
theorem law_look {l : Launch} {G : GG} {adV : Nat → Nat} {fm : Option Nat} {b L : Nat} {xs : Nat → Int32} {R : AH → Prop} (ops : OP_look R) {j : Nat} (hj : j + 6 ≤ L) (hL : L ≤ 384) {h : AH} (hR : R h) (kk : ∀ h2, R h2 → V l G (EXL G adV fm b L xs) mi_L ⟨13, 600000, 7302250, 508⟩ (FL G b) 275 3257 1367 [(0, .ref b), (1, .ref (G.1 + 0)), (2, .ref (G.1 + 262)), (3, .int (nI j))] [] (up h2)) : V l G (EXL G adV fm b L xs) mi_L ⟨13, 600000, 7302250, 508⟩ (FL G b) 275 3257 1059 [(0, .ref b), (1, .ref (G.1 + 0)), (2, .ref (G.1 + 262)), (3, .int (nI j))] [] (up h) := by
  have hL31 : L < 2 ^ 31 := by omega
  obtain ⟨v, h1, h2, e1, e2, hR2⟩ := ops (xs (j + 1)) h hR
  refine V.aload_n (j := 1) dL_law_1059 rfl rfl rfl ?_
  refine V.aload_n (j := 0) dL_law_1060 rfl rfl rfl ?_
  refine V.iload_n (j := 3) dL_law_1061 rfl rfl rfl ?_
  refine V.iconst dL_law_1062 rfl ki_1 ?_
  refine V.iadd dL_law_1063 rfl ?_
  rw [show nI j + (1 : Int32) = nI (j + 1) from nI_plus j 1]
  refine LW.sld (vp_in_nI (show j + 1 < L by omega) hL31) dL_law_1064 rfl ?_
  rw [nI_clamp (show j + 1 < 2 ^ 31 by omega)]
  refine LW.callV (As := [.int (xs (j + 1))]) (rest := []) (st' := [.int v]) EXL.ok (mX8_look EXL.b (by decide) e1) mic_X8_look rfl (show KD 0 = 7 by decide) (by decide) rfl rfl wq_m_L_135 wq_i_yX8_look wq_s_yX8_look ⟨Nat.le_of_ble_eq_true rfl, Nat.le_of_ble_eq_true rfl⟩ (Nat.le_of_ble_eq_true rfl) ⟨Nat.le_of_ble_eq_true rfl, Nat.le_of_ble_eq_true rfl⟩ dL_law_1065 rfl rfl rfl ?_
  refine V.aload_n (j := 2) dL_law_1068 rfl rfl rfl ?_
  refine V.aload_n (j := 0) dL_law_1069 rfl rfl rfl ?_
  refine V.iload_n (j := 3) dL_law_1070 rfl rfl rfl ?_
  refine V.iconst dL_law_1071 rfl ki_1 ?_
  refine V.iadd dL_law_1072 rfl ?_
  rw [show nI j + (1 : Int32) = nI (j + 1) from nI_plus j 1]
  refine LW.sld (vp_in_nI (show j + 1 < L by omega) hL31) dL_law_1073 rfl ?_
  rw [nI_clamp (show j + 1 < 2 ^ 31 by omega)]
  refine LW.callV (As := [.int (xs (j + 1))]) (rest := [.int v]) (st' := [.int v, .int v]) EXL.ok (mX9_look EXL.b (by decide) e2) mic_X9_look rfl (show KD 262 = 8 by decide) (by decide) rfl rfl wq_m_L_138 wq_i_yX9_look wq_s_yX9_look ⟨Nat.le_of_ble_eq_true rfl, Nat.le_of_ble_eq_true rfl⟩ (Nat.le_of_ble_eq_true rfl) ⟨Nat.le_of_ble_eq_true rfl, Nat.le_of_ble_eq_true rfl⟩ dL_law_1074 rfl rfl rfl ?_
  refine V.icmp_eq (tgt := 1367) (A := some 0) (B := (none : Option Nat)) (r := 0) (if_pos rfl) dL_law_1077 (by decide) rfl (fun _ => ?_) (fun hx => by cases hx)
  exact kk _ hR2
set_option maxRecDepth 100000 in
set_option maxHeartbeats 4000000 in
theorem law_what {l : Launch} {G : GG} {adV : Nat → Nat} {fm : Option Nat} {b L : Nat} {xs : Nat → Int32} {R : AH → Prop} (ops : OP_what R) {j : Nat} (hj : j + 6 ≤ L) (hL : L ≤ 384) {h : AH} (hR : R h) (kk : ∀ h2, R h2 → V l G (EXL G adV fm b L xs) mi_L ⟨13, 600000, 7302250, 508⟩ (FL G b) 275 3257 1367 [(0, .ref b), (1, .ref (G.1 + 0)), (2, .ref (G.1 + 262)), (3, .int (nI j))] [] (up h2)) : V l G (EXL G adV fm b L xs) mi_L ⟨13, 600000, 7302250, 508⟩ (FL G b) 275 3257 1082 [(0, .ref b), (1, .ref (G.1 + 0)), (2, .ref (G.1 + 262)), (3, .int (nI j))] [] (up h) := by
  have hL31 : L < 2 ^ 31 := by omega
  obtain ⟨v, h1, h2, e1, e2, hR2⟩ := ops (xs (j + 1)) h hR
  refine V.aload_n (j := 1) dL_law_1082 rfl rfl rfl ?_
  refine V.aload_n (j := 0) dL_law_1083 rfl rfl rfl ?_
  refine V.iload_n (j := 3) dL_law_1084 rfl rfl rfl ?_
  refine V.iconst dL_law_1085 rfl ki_1 ?_
  refine V.iadd dL_law_1086 rfl ?_
  rw [show nI j + (1 : Int32) = nI (j + 1) from nI_plus j 1]
  refine LW.sld (vp_in_nI (show j + 1 < L by omega) hL31) dL_law_1087 rfl ?_
  rw [nI_clamp (show j + 1 < 2 ^ 31 by omega)]
  refine LW.callV (As := [.int (xs (j + 1))]) (rest := []) (st' := [.int v]) EXL.ok (mX8_what EXL.b (by decide) e1) mic_X8_what rfl (show KD 0 = 7 by decide) (by decide) rfl rfl wq_m_L_139 wq_i_yX8_what wq_s_yX8_what ⟨Nat.le_of_ble_eq_true rfl, Nat.le_of_ble_eq_true rfl⟩ (Nat.le_of_ble_eq_true rfl) ⟨Nat.le_of_ble_eq_true rfl, Nat.le_of_ble_eq_true rfl⟩ dL_law_1088 rfl rfl rfl ?_
  refine V.aload_n (j := 2) dL_law_1091 rfl rfl rfl ?_
  refine V.aload_n (j := 0) dL_law_1092 rfl rfl rfl ?_
  refine V.iload_n (j := 3) dL_law_1093 rfl rfl rfl ?_
  refine V.iconst dL_law_1094 rfl ki_1 ?_
  refine V.iadd dL_law_1095 rfl ?_
  rw [show nI j + (1 : Int32) = nI (j + 1) from nI_plus j 1]
  refine LW.sld (vp_in_nI (show j + 1 < L by omega) hL31) dL_law_1096 rfl ?_
  rw [nI_clamp (show j + 1 < 2 ^ 31 by omega)]
  refine LW.callV (As := [.int (xs (j + 1))]) (rest := [.int v]) (st' := [.int v, .int v]) EXL.ok (mX9_what EXL.b (by decide) e2) mic_X9_what rfl (show KD 262 = 8 by decide) (by decide) rfl rfl wq_m_L_142 wq_i_yX9_what wq_s_yX9_what ⟨Nat.le_of_ble_eq_true rfl, Nat.le_of_ble_eq_true rfl⟩ (Nat.le_of_ble_eq_true rfl) ⟨Nat.le_of_ble_eq_true rfl, Nat.le_of_ble_eq_true rfl⟩ dL_law_1097 rfl rfl rfl ?_
  refine V.icmp_eq (tgt := 1367) (A := some 0) (B := (none : Option Nat)) (r := 0) (if_pos rfl) dL_law_1100 (by decide) rfl (fun _ => ?_) (fun hx => by cases hx)
  exact kk _ hR2
set_option maxRecDepth 100000 in
set_option maxHeartbeats 4000000 in
theorem law_tries {l : Launch} {G : GG} {adV : Nat → Nat} {fm : Option Nat} {b L : Nat} {xs : Nat → Int32} {R : AH → Prop} (ops : OP_tries R) {j : Nat} (hj : j + 6 ≤ L) (hL : L ≤ 384) {h : AH} (hR : R h) (kk : ∀ h2, R h2 → V l G (EXL G adV fm b L xs) mi_L ⟨13, 600000, 7302250, 508⟩ (FL G b) 275 3257 1367 [(0, .ref b), (1, .ref (G.1 + 0)), (2, .ref (G.1 + 262)), (3, .int (nI j))] [] (up h2)) : V l G (EXL G adV fm b L xs) mi_L ⟨13, 600000, 7302250, 508⟩ (FL G b) 275 3257 1105 [(0, .ref b), (1, .ref (G.1 + 0)), (2, .ref (G.1 + 262)), (3, .int (nI j))] [] (up h) := by
  have hL31 : L < 2 ^ 31 := by omega
  obtain ⟨v, h1, h2, e1, e2, hR2⟩ := ops (xs (j + 1)) h hR
  refine V.aload_n (j := 1) dL_law_1105 rfl rfl rfl ?_
  refine V.aload_n (j := 0) dL_law_1106 rfl rfl rfl ?_
  refine V.iload_n (j := 3) dL_law_1107 rfl rfl rfl ?_
  refine V.iconst dL_law_1108 rfl ki_1 ?_
  refine V.iadd dL_law_1109 rfl ?_
  rw [show nI j + (1 : Int32) = nI (j + 1) from nI_plus j 1]
  refine LW.sld (vp_in_nI (show j + 1 < L by omega) hL31) dL_law_1110 rfl ?_
  rw [nI_clamp (show j + 1 < 2 ^ 31 by omega)]
  refine LW.callV (As := [.int (xs (j + 1))]) (rest := []) (st' := [.int v]) EXL.ok (mX8_tries EXL.b (by decide) e1) mic_X8_tries rfl (show KD 0 = 7 by decide) (by decide) rfl rfl wq_m_L_143 wq_i_yX8_tries wq_s_yX8_tries ⟨Nat.le_of_ble_eq_true rfl, Nat.le_of_ble_eq_true rfl⟩ (Nat.le_of_ble_eq_true rfl) ⟨Nat.le_of_ble_eq_true rfl, Nat.le_of_ble_eq_true rfl⟩ dL_law_1111 rfl rfl rfl ?_
  refine V.aload_n (j := 2) dL_law_1114 rfl rfl rfl ?_
  refine V.aload_n (j := 0) dL_law_1115 rfl rfl rfl ?_
  refine V.iload_n (j := 3) dL_law_1116 rfl rfl rfl ?_
  refine V.iconst dL_law_1117 rfl ki_1 ?_
  refine V.iadd dL_law_1118 rfl ?_
  rw [show nI j + (1 : Int32) = nI (j + 1) from nI_plus j 1]
  refine LW.sld (vp_in_nI (show j + 1 < L by omega) hL31) dL_law_1119 rfl ?_
  rw [nI_clamp (show j + 1 < 2 ^ 31 by omega)]
  refine LW.callV (As := [.int (xs (j + 1))]) (rest := [.int v]) (st' := [.int v, .int v]) EXL.ok (mX9_tries EXL.b (by decide) e2) mic_X9_tries rfl (show KD 262 = 8 by decide) (by decide) rfl rfl wq_m_L_146 wq_i_yX9_tries wq_s_yX9_tries ⟨Nat.le_of_ble_eq_true rfl, Nat.le_of_ble_eq_true rfl⟩ (Nat.le_of_ble_eq_true rfl) ⟨Nat.le_of_ble_eq_true rfl, Nat.le_of_ble_eq_true rfl⟩ dL_law_1120 rfl rfl rfl ?_
  refine V.icmp_eq (tgt := 1367) (A := some 0) (B := (none : Option Nat)) (r := 0) (if_pos rfl) dL_law_1123 (by decide) rfl (fun _ => ?_) (fun hx => by cases hx)
  exact kk _ hR2
set_option maxRecDepth 100000 in
set_option maxHeartbeats 4000000 in
theorem law_game {l : Launch} {G : GG} {adV : Nat → Nat} {fm : Option Nat} {b L : Nat} {xs : Nat → Int32} {R : AH → Prop} (ops : OP_game R) {j : Nat} (hj : j + 6 ≤ L) (hL : L ≤ 384) {h : AH} (hR : R h) (kk : ∀ h2, R h2 → V l G (EXL G adV fm b L xs) mi_L ⟨13, 600000, 7302250, 508⟩ (FL G b) 275 3257 1367 [(0, .ref b), (1, .ref (G.1 + 0)), (2, .ref (G.1 + 262)), (3, .int (nI j))] [] (up h2)) : V l G (EXL G adV fm b L xs) mi_L ⟨13, 600000, 7302250, 508⟩ (FL G b) 275 3257 1128 [(0, .ref b), (1, .ref (G.1 + 0)), (2, .ref (G.1 + 262)), (3, .int (nI j))] [] (up h) := by
  have hL31 : L < 2 ^ 31 := by omega
  obtain ⟨v, h1, h2, e1, e2, hR2⟩ := ops (xs (j + 1)) (xs (j + 2)) (xs (j + 3)) h hR
  refine V.aload_n (j := 1) dL_law_1128 rfl rfl rfl ?_
  refine V.aload_n (j := 0) dL_law_1129 rfl rfl rfl ?_
  refine V.iload_n (j := 3) dL_law_1130 rfl rfl rfl ?_
  refine V.iconst dL_law_1131 rfl ki_1 ?_
  refine V.iadd dL_law_1132 rfl ?_
  rw [show nI j + (1 : Int32) = nI (j + 1) from nI_plus j 1]
  refine LW.sld (vp_in_nI (show j + 1 < L by omega) hL31) dL_law_1133 rfl ?_
  rw [nI_clamp (show j + 1 < 2 ^ 31 by omega)]
  refine V.aload_n (j := 0) dL_law_1134 rfl rfl rfl ?_
  refine V.iload_n (j := 3) dL_law_1135 rfl rfl rfl ?_
  refine V.iconst dL_law_1136 rfl ki_2 ?_
  refine V.iadd dL_law_1137 rfl ?_
  rw [show nI j + (2 : Int32) = nI (j + 2) from nI_plus j 2]
  refine LW.sld (vp_in_nI (show j + 2 < L by omega) hL31) dL_law_1138 rfl ?_
  rw [nI_clamp (show j + 2 < 2 ^ 31 by omega)]
  refine V.aload_n (j := 0) dL_law_1139 rfl rfl rfl ?_
  refine V.iload_n (j := 3) dL_law_1140 rfl rfl rfl ?_
  refine V.iconst dL_law_1141 rfl ki_3 ?_
  refine V.iadd dL_law_1142 rfl ?_
  rw [show nI j + (3 : Int32) = nI (j + 3) from nI_plus j 3]
  refine LW.sld (vp_in_nI (show j + 3 < L by omega) hL31) dL_law_1143 rfl ?_
  rw [nI_clamp (show j + 3 < 2 ^ 31 by omega)]
  refine LW.callV (As := [.int (xs (j + 1)), .int (xs (j + 2)), .int (xs (j + 3))]) (rest := []) (st' := [.int v]) EXL.ok (mX8_game EXL.b (by decide) e1) mic_X8_game rfl (show KD 0 = 7 by decide) (by decide) rfl rfl wq_m_L_147 wq_i_yX8_game wq_s_yX8_game ⟨Nat.le_of_ble_eq_true rfl, Nat.le_of_ble_eq_true rfl⟩ (Nat.le_of_ble_eq_true rfl) ⟨Nat.le_of_ble_eq_true rfl, Nat.le_of_ble_eq_true rfl⟩ dL_law_1144 rfl rfl rfl ?_
  refine V.aload_n (j := 2) dL_law_1147 rfl rfl rfl ?_
  refine V.aload_n (j := 0) dL_law_1148 rfl rfl rfl ?_
  refine V.iload_n (j := 3) dL_law_1149 rfl rfl rfl ?_
  refine V.iconst dL_law_1150 rfl ki_1 ?_
  refine V.iadd dL_law_1151 rfl ?_
  rw [show nI j + (1 : Int32) = nI (j + 1) from nI_plus j 1]
  refine LW.sld (vp_in_nI (show j + 1 < L by omega) hL31) dL_law_1152 rfl ?_
  rw [nI_clamp (show j + 1 < 2 ^ 31 by omega)]
  refine V.aload_n (j := 0) dL_law_1153 rfl rfl rfl ?_
  refine V.iload_n (j := 3) dL_law_1154 rfl rfl rfl ?_
  refine V.iconst dL_law_1155 rfl ki_2 ?_
  refine V.iadd dL_law_1156 rfl ?_
  rw [show nI j + (2 : Int32) = nI (j + 2) from nI_plus j 2]
  refine LW.sld (vp_in_nI (show j + 2 < L by omega) hL31) dL_law_1157 rfl ?_
  rw [nI_clamp (show j + 2 < 2 ^ 31 by omega)]
  refine V.aload_n (j := 0) dL_law_1158 rfl rfl rfl ?_
  refine V.iload_n (j := 3) dL_law_1159 rfl rfl rfl ?_
  refine V.iconst dL_law_1160 rfl ki_3 ?_
  refine V.iadd dL_law_1161 rfl ?_
  rw [show nI j + (3 : Int32) = nI (j + 3) from nI_plus j 3]
  refine LW.sld (vp_in_nI (show j + 3 < L by omega) hL31) dL_law_1162 rfl ?_
  rw [nI_clamp (show j + 3 < 2 ^ 31 by omega)]
  refine LW.callV (As := [.int (xs (j + 1)), .int (xs (j + 2)), .int (xs (j + 3))]) (rest := [.int v]) (st' := [.int v, .int v]) EXL.ok (mX9_game EXL.b (by decide) e2) mic_X9_game rfl (show KD 262 = 8 by decide) (by decide) rfl rfl wq_m_L_150 wq_i_yX9_game wq_s_yX9_game ⟨Nat.le_of_ble_eq_true rfl, Nat.le_of_ble_eq_true rfl⟩ (Nat.le_of_ble_eq_true rfl) ⟨Nat.le_of_ble_eq_true rfl, Nat.le_of_ble_eq_true rfl⟩ dL_law_1163 rfl rfl rfl ?_
  refine V.icmp_eq (tgt := 1367) (A := some 0) (B := (none : Option Nat)) (r := 0) (if_pos rfl) dL_law_1166 (by decide) rfl (fun _ => ?_) (fun hx => by cases hx)
  exact kk _ hR2
set_option maxRecDepth 100000 in
set_option maxHeartbeats 4000000 in
theorem law_fails {l : Launch} {G : GG} {adV : Nat → Nat} {fm : Option Nat} {b L : Nat} {xs : Nat → Int32} {R : AH → Prop} (ops : OP_fails R) {j : Nat} (hj : j + 6 ≤ L) (hL : L ≤ 384) {h : AH} (hR : R h) (kk : ∀ h2, R h2 → V l G (EXL G adV fm b L xs) mi_L ⟨13, 600000, 7302250, 508⟩ (FL G b) 275 3257 1367 [(0, .ref b), (1, .ref (G.1 + 0)), (2, .ref (G.1 + 262)), (3, .int (nI j))] [] (up h2)) : V l G (EXL G adV fm b L xs) mi_L ⟨13, 600000, 7302250, 508⟩ (FL G b) 275 3257 1171 [(0, .ref b), (1, .ref (G.1 + 0)), (2, .ref (G.1 + 262)), (3, .int (nI j))] [] (up h) := by
  have hL31 : L < 2 ^ 31 := by omega
  obtain ⟨v, h1, h2, e1, e2, hR2⟩ := ops (xs (j + 1)) (xs (j + 2)) h hR
  refine V.aload_n (j := 1) dL_law_1171 rfl rfl rfl ?_
  refine V.aload_n (j := 0) dL_law_1172 rfl rfl rfl ?_
  refine V.iload_n (j := 3) dL_law_1173 rfl rfl rfl ?_
  refine V.iconst dL_law_1174 rfl ki_1 ?_
  refine V.iadd dL_law_1175 rfl ?_
  rw [show nI j + (1 : Int32) = nI (j + 1) from nI_plus j 1]
  refine LW.sld (vp_in_nI (show j + 1 < L by omega) hL31) dL_law_1176 rfl ?_
  rw [nI_clamp (show j + 1 < 2 ^ 31 by omega)]
  refine V.aload_n (j := 0) dL_law_1177 rfl rfl rfl ?_
  refine V.iload_n (j := 3) dL_law_1178 rfl rfl rfl ?_
  refine V.iconst dL_law_1179 rfl ki_2 ?_
  refine V.iadd dL_law_1180 rfl ?_
  rw [show nI j + (2 : Int32) = nI (j + 2) from nI_plus j 2]
  refine LW.sld (vp_in_nI (show j + 2 < L by omega) hL31) dL_law_1181 rfl ?_
  rw [nI_clamp (show j + 2 < 2 ^ 31 by omega)]
  refine LW.callV (As := [.int (xs (j + 1)), .int (xs (j + 2))]) (rest := []) (st' := [.int v]) EXL.ok (mX8_fails EXL.b (by decide) e1) mic_X8_fails rfl (show KD 0 = 7 by decide) (by decide) rfl rfl wq_m_L_151 wq_i_yX8_fails wq_s_yX8_fails ⟨Nat.le_of_ble_eq_true rfl, Nat.le_of_ble_eq_true rfl⟩ (Nat.le_of_ble_eq_true rfl) ⟨Nat.le_of_ble_eq_true rfl, Nat.le_of_ble_eq_true rfl⟩ dL_law_1182 rfl rfl rfl ?_
  refine V.aload_n (j := 2) dL_law_1185 rfl rfl rfl ?_
  refine V.aload_n (j := 0) dL_law_1186 rfl rfl rfl ?_
  refine V.iload_n (j := 3) dL_law_1187 rfl rfl rfl ?_
  refine V.iconst dL_law_1188 rfl ki_1 ?_
  refine V.iadd dL_law_1189 rfl ?_
  rw [show nI j + (1 : Int32) = nI (j + 1) from nI_plus j 1]
  refine LW.sld (vp_in_nI (show j + 1 < L by omega) hL31) dL_law_1190 rfl ?_
  rw [nI_clamp (show j + 1 < 2 ^ 31 by omega)]
  refine V.aload_n (j := 0) dL_law_1191 rfl rfl rfl ?_
  refine V.iload_n (j := 3) dL_law_1192 rfl rfl rfl ?_
  refine V.iconst dL_law_1193 rfl ki_2 ?_
  refine V.iadd dL_law_1194 rfl ?_
  rw [show nI j + (2 : Int32) = nI (j + 2) from nI_plus j 2]
  refine LW.sld (vp_in_nI (show j + 2 < L by omega) hL31) dL_law_1195 rfl ?_
  rw [nI_clamp (show j + 2 < 2 ^ 31 by omega)]
  refine LW.callV (As := [.int (xs (j + 1)), .int (xs (j + 2))]) (rest := [.int v]) (st' := [.int v, .int v]) EXL.ok (mX9_fails EXL.b (by decide) e2) mic_X9_fails rfl (show KD 262 = 8 by decide) (by decide) rfl rfl wq_m_L_154 wq_i_yX9_fails wq_s_yX9_fails ⟨Nat.le_of_ble_eq_true rfl, Nat.le_of_ble_eq_true rfl⟩ (Nat.le_of_ble_eq_true rfl) ⟨Nat.le_of_ble_eq_true rfl, Nat.le_of_ble_eq_true rfl⟩ dL_law_1196 rfl rfl rfl ?_
  refine V.icmp_eq (tgt := 1367) (A := some 0) (B := (none : Option Nat)) (r := 0) (if_pos rfl) dL_law_1199 (by decide) rfl (fun _ => ?_) (fun hx => by cases hx)
  exact kk _ hR2
set_option maxRecDepth 100000 in
set_option maxHeartbeats 4000000 in
theorem law_years {l : Launch} {G : GG} {adV : Nat → Nat} {fm : Option Nat} {b L : Nat} {xs : Nat → Int32} {R : AH → Prop} (ops : OP_years R) {j : Nat} (hj : j + 6 ≤ L) (hL : L ≤ 384) {h : AH} (hR : R h) (kk : ∀ h2, R h2 → V l G (EXL G adV fm b L xs) mi_L ⟨13, 600000, 7302250, 508⟩ (FL G b) 275 3257 1367 [(0, .ref b), (1, .ref (G.1 + 0)), (2, .ref (G.1 + 262)), (3, .int (nI j))] [] (up h2)) : V l G (EXL G adV fm b L xs) mi_L ⟨13, 600000, 7302250, 508⟩ (FL G b) 275 3257 1204 [(0, .ref b), (1, .ref (G.1 + 0)), (2, .ref (G.1 + 262)), (3, .int (nI j))] [] (up h) := by
  have hL31 : L < 2 ^ 31 := by omega
  obtain ⟨v, h1, h2, e1, e2, hR2⟩ := ops (xs (j + 1)) (xs (j + 2)) h hR
  refine V.aload_n (j := 1) dL_law_1204 rfl rfl rfl ?_
  refine V.aload_n (j := 0) dL_law_1205 rfl rfl rfl ?_
  refine V.iload_n (j := 3) dL_law_1206 rfl rfl rfl ?_
  refine V.iconst dL_law_1207 rfl ki_1 ?_
  refine V.iadd dL_law_1208 rfl ?_
  rw [show nI j + (1 : Int32) = nI (j + 1) from nI_plus j 1]
  refine LW.sld (vp_in_nI (show j + 1 < L by omega) hL31) dL_law_1209 rfl ?_
  rw [nI_clamp (show j + 1 < 2 ^ 31 by omega)]
  refine V.aload_n (j := 0) dL_law_1210 rfl rfl rfl ?_
  refine V.iload_n (j := 3) dL_law_1211 rfl rfl rfl ?_
  refine V.iconst dL_law_1212 rfl ki_2 ?_
  refine V.iadd dL_law_1213 rfl ?_
  rw [show nI j + (2 : Int32) = nI (j + 2) from nI_plus j 2]
  refine LW.sld (vp_in_nI (show j + 2 < L by omega) hL31) dL_law_1214 rfl ?_
  rw [nI_clamp (show j + 2 < 2 ^ 31 by omega)]
  refine LW.callV (As := [.int (xs (j + 1)), .int (xs (j + 2))]) (rest := []) (st' := [.int v]) EXL.ok (mX8_years EXL.b (by decide) e1) mic_X8_years rfl (show KD 0 = 7 by decide) (by decide) rfl rfl wq_m_L_155 wq_i_yX8_years wq_s_yX8_years ⟨Nat.le_of_ble_eq_true rfl, Nat.le_of_ble_eq_true rfl⟩ (Nat.le_of_ble_eq_true rfl) ⟨Nat.le_of_ble_eq_true rfl, Nat.le_of_ble_eq_true rfl⟩ dL_law_1215 rfl rfl rfl ?_
  refine V.aload_n (j := 2) dL_law_1218 rfl rfl rfl ?_
  refine V.aload_n (j := 0) dL_law_1219 rfl rfl rfl ?_
  refine V.iload_n (j := 3) dL_law_1220 rfl rfl rfl ?_
  refine V.iconst dL_law_1221 rfl ki_1 ?_
  refine V.iadd dL_law_1222 rfl ?_
  rw [show nI j + (1 : Int32) = nI (j + 1) from nI_plus j 1]
  refine LW.sld (vp_in_nI (show j + 1 < L by omega) hL31) dL_law_1223 rfl ?_
  rw [nI_clamp (show j + 1 < 2 ^ 31 by omega)]
  refine V.aload_n (j := 0) dL_law_1224 rfl rfl rfl ?_
  refine V.iload_n (j := 3) dL_law_1225 rfl rfl rfl ?_
  refine V.iconst dL_law_1226 rfl ki_2 ?_
  refine V.iadd dL_law_1227 rfl ?_
  rw [show nI j + (2 : Int32) = nI (j + 2) from nI_plus j 2]
  refine LW.sld (vp_in_nI (show j + 2 < L by omega) hL31) dL_law_1228 rfl ?_
  rw [nI_clamp (show j + 2 < 2 ^ 31 by omega)]
  refine LW.callV (As := [.int (xs (j + 1)), .int (xs (j + 2))]) (rest := [.int v]) (st' := [.int v, .int v]) EXL.ok (mX9_years EXL.b (by decide) e2) mic_X9_years rfl (show KD 262 = 8 by decide) (by decide) rfl rfl wq_m_L_158 wq_i_yX9_years wq_s_yX9_years ⟨Nat.le_of_ble_eq_true rfl, Nat.le_of_ble_eq_true rfl⟩ (Nat.le_of_ble_eq_true rfl) ⟨Nat.le_of_ble_eq_true rfl, Nat.le_of_ble_eq_true rfl⟩ dL_law_1229 rfl rfl rfl ?_
  refine V.icmp_eq (tgt := 1367) (A := some 0) (B := (none : Option Nat)) (r := 0) (if_pos rfl) dL_law_1232 (by decide) rfl (fun _ => ?_) (fun hx => by cases hx)
  exact kk _ hR2
set_option maxRecDepth 100000 in
set_option maxHeartbeats 4000000 in
theorem law_part {l : Launch} {G : GG} {adV : Nat → Nat} {fm : Option Nat} {b L : Nat} {xs : Nat → Int32} {R : AH → Prop} (ops : OP_part R) {j : Nat} (hj : j + 6 ≤ L) (hL : L ≤ 384) {h : AH} (hR : R h) (kk : ∀ h2, R h2 → V l G (EXL G adV fm b L xs) mi_L ⟨13, 600000, 7302250, 508⟩ (FL G b) 275 3257 1367 [(0, .ref b), (1, .ref (G.1 + 0)), (2, .ref (G.1 + 262)), (3, .int (nI j))] [] (up h2)) : V l G (EXL G adV fm b L xs) mi_L ⟨13, 600000, 7302250, 508⟩ (FL G b) 275 3257 1237 [(0, .ref b), (1, .ref (G.1 + 0)), (2, .ref (G.1 + 262)), (3, .int (nI j))] [] (up h) := by
  have hL31 : L < 2 ^ 31 := by omega
  obtain ⟨v, h1, h2, e1, e2, hR2⟩ := ops (xs (j + 1)) h hR
  refine V.aload_n (j := 1) dL_law_1237 rfl rfl rfl ?_
  refine V.aload_n (j := 0) dL_law_1238 rfl rfl rfl ?_
  refine V.iload_n (j := 3) dL_law_1239 rfl rfl rfl ?_
  refine V.iconst dL_law_1240 rfl ki_1 ?_
  refine V.iadd dL_law_1241 rfl ?_
  rw [show nI j + (1 : Int32) = nI (j + 1) from nI_plus j 1]
  refine LW.sld (vp_in_nI (show j + 1 < L by omega) hL31) dL_law_1242 rfl ?_
  rw [nI_clamp (show j + 1 < 2 ^ 31 by omega)]
  refine LW.callV (As := [.int (xs (j + 1))]) (rest := []) (st' := [.long v]) EXL.ok (mX8_part EXL.b (by decide) e1) mic_X8_part rfl (show KD 0 = 7 by decide) (by decide) rfl rfl wq_m_L_159 wq_i_yX8_part wq_s_yX8_part ⟨Nat.le_of_ble_eq_true rfl, Nat.le_of_ble_eq_true rfl⟩ (Nat.le_of_ble_eq_true rfl) ⟨Nat.le_of_ble_eq_true rfl, Nat.le_of_ble_eq_true rfl⟩ dL_law_1243 rfl rfl rfl ?_
  refine V.aload_n (j := 2) dL_law_1246 rfl rfl rfl ?_
  refine V.aload_n (j := 0) dL_law_1247 rfl rfl rfl ?_
  refine V.iload_n (j := 3) dL_law_1248 rfl rfl rfl ?_
  refine V.iconst dL_law_1249 rfl ki_1 ?_
  refine V.iadd dL_law_1250 rfl ?_
  rw [show nI j + (1 : Int32) = nI (j + 1) from nI_plus j 1]
  refine LW.sld (vp_in_nI (show j + 1 < L by omega) hL31) dL_law_1251 rfl ?_
  rw [nI_clamp (show j + 1 < 2 ^ 31 by omega)]
  refine LW.callV (As := [.int (xs (j + 1))]) (rest := [.long v]) (st' := [.long v, .long v]) EXL.ok (mX9_part EXL.b (by decide) e2) mic_X9_part rfl (show KD 262 = 8 by decide) (by decide) rfl rfl wq_m_L_163 wq_i_yX9_part wq_s_yX9_part ⟨Nat.le_of_ble_eq_true rfl, Nat.le_of_ble_eq_true rfl⟩ (Nat.le_of_ble_eq_true rfl) ⟨Nat.le_of_ble_eq_true rfl, Nat.le_of_ble_eq_true rfl⟩ dL_law_1252 rfl rfl rfl ?_
  refine V.lcmp dL_law_1255 rfl ?_
  rw [lg_self]
  refine V.if_eq (tgt := 1367) (A := some 0) (B := (none : Option Nat)) (r := 0) (if_pos rfl) dL_law_1256 (by decide) rfl (fun _ => ?_) (fun hx => by cases hx)
  exact kk _ hR2
set_option maxRecDepth 100000 in
set_option maxHeartbeats 4000000 in
theorem law_image {l : Launch} {G : GG} {adV : Nat → Nat} {fm : Option Nat} {b L : Nat} {xs : Nat → Int32} {R : AH → Prop} (ops : OP_image R) {j : Nat} (hj : j + 6 ≤ L) (hL : L ≤ 384) {h : AH} (hR : R h) (kk : ∀ h2, R h2 → V l G (EXL G adV fm b L xs) mi_L ⟨13, 600000, 7302250, 508⟩ (FL G b) 275 3257 1367 [(0, .ref b), (1, .ref (G.1 + 0)), (2, .ref (G.1 + 262)), (3, .int (nI j))] [] (up h2)) : V l G (EXL G adV fm b L xs) mi_L ⟨13, 600000, 7302250, 508⟩ (FL G b) 275 3257 1261 [(0, .ref b), (1, .ref (G.1 + 0)), (2, .ref (G.1 + 262)), (3, .int (nI j))] [] (up h) := by
  have hL31 : L < 2 ^ 31 := by omega
  obtain ⟨v, h1, h2, e1, e2, hR2⟩ := ops (xs (j + 1)) h hR
  refine V.aload_n (j := 1) dL_law_1261 rfl rfl rfl ?_
  refine V.aload_n (j := 0) dL_law_1262 rfl rfl rfl ?_
  refine V.iload_n (j := 3) dL_law_1263 rfl rfl rfl ?_
  refine V.iconst dL_law_1264 rfl ki_1 ?_
  refine V.iadd dL_law_1265 rfl ?_
  rw [show nI j + (1 : Int32) = nI (j + 1) from nI_plus j 1]
  refine LW.sld (vp_in_nI (show j + 1 < L by omega) hL31) dL_law_1266 rfl ?_
  rw [nI_clamp (show j + 1 < 2 ^ 31 by omega)]
  refine LW.callV (As := [.int (xs (j + 1))]) (rest := []) (st' := [.int v]) EXL.ok (mX8_image EXL.b (by decide) e1) mic_X8_image rfl (show KD 0 = 7 by decide) (by decide) rfl rfl wq_m_L_164 wq_i_yX8_image wq_s_yX8_image ⟨Nat.le_of_ble_eq_true rfl, Nat.le_of_ble_eq_true rfl⟩ (Nat.le_of_ble_eq_true rfl) ⟨Nat.le_of_ble_eq_true rfl, Nat.le_of_ble_eq_true rfl⟩ dL_law_1267 rfl rfl rfl ?_
  refine V.aload_n (j := 2) dL_law_1270 rfl rfl rfl ?_
  refine V.aload_n (j := 0) dL_law_1271 rfl rfl rfl ?_
  refine V.iload_n (j := 3) dL_law_1272 rfl rfl rfl ?_
  refine V.iconst dL_law_1273 rfl ki_1 ?_
  refine V.iadd dL_law_1274 rfl ?_
  rw [show nI j + (1 : Int32) = nI (j + 1) from nI_plus j 1]
  refine LW.sld (vp_in_nI (show j + 1 < L by omega) hL31) dL_law_1275 rfl ?_
  rw [nI_clamp (show j + 1 < 2 ^ 31 by omega)]
  refine LW.callV (As := [.int (xs (j + 1))]) (rest := [.int v]) (st' := [.int v, .int v]) EXL.ok (mX9_image EXL.b (by decide) e2) mic_X9_image rfl (show KD 262 = 8 by decide) (by decide) rfl rfl wq_m_L_167 wq_i_yX9_image wq_s_yX9_image ⟨Nat.le_of_ble_eq_true rfl, Nat.le_of_ble_eq_true rfl⟩ (Nat.le_of_ble_eq_true rfl) ⟨Nat.le_of_ble_eq_true rfl, Nat.le_of_ble_eq_true rfl⟩ dL_law_1276 rfl rfl rfl ?_
  refine V.icmp_eq (tgt := 1367) (A := some 0) (B := (none : Option Nat)) (r := 0) (if_pos rfl) dL_law_1279 (by decide) rfl (fun _ => ?_) (fun hx => by cases hx)
  exact kk _ hR2
set_option maxRecDepth 100000 in
set_option maxHeartbeats 4000000 in
theorem law_from {l : Launch} {G : GG} {adV : Nat → Nat} {fm : Option Nat} {b L : Nat} {xs : Nat → Int32} {R : AH → Prop} (ops : OP_from R) {j : Nat} (hj : j + 6 ≤ L) (hL : L ≤ 384) {h : AH} (hR : R h) (kk : ∀ h2, R h2 → V l G (EXL G adV fm b L xs) mi_L ⟨13, 600000, 7302250, 508⟩ (FL G b) 275 3257 1367 [(0, .ref b), (1, .ref (G.1 + 0)), (2, .ref (G.1 + 262)), (3, .int (nI j))] [] (up h2)) : V l G (EXL G adV fm b L xs) mi_L ⟨13, 600000, 7302250, 508⟩ (FL G b) 275 3257 1284 [(0, .ref b), (1, .ref (G.1 + 0)), (2, .ref (G.1 + 262)), (3, .int (nI j))] [] (up h) := by
  have hL31 : L < 2 ^ 31 := by omega
  obtain ⟨v, h1, h2, e1, e2, hR2⟩ := ops (xs (j + 1)) h hR
  refine V.aload_n (j := 1) dL_law_1284 rfl rfl rfl ?_
  refine V.aload_n (j := 0) dL_law_1285 rfl rfl rfl ?_
  refine V.iload_n (j := 3) dL_law_1286 rfl rfl rfl ?_
  refine V.iconst dL_law_1287 rfl ki_1 ?_
  refine V.iadd dL_law_1288 rfl ?_
  rw [show nI j + (1 : Int32) = nI (j + 1) from nI_plus j 1]
  refine LW.sld (vp_in_nI (show j + 1 < L by omega) hL31) dL_law_1289 rfl ?_
  rw [nI_clamp (show j + 1 < 2 ^ 31 by omega)]
  refine LW.callV (As := [.int (xs (j + 1))]) (rest := []) (st' := [.int v]) EXL.ok (mX8_from EXL.b (by decide) e1) mic_X8_from rfl (show KD 0 = 7 by decide) (by decide) rfl rfl wq_m_L_168 wq_i_yX8_from wq_s_yX8_from ⟨Nat.le_of_ble_eq_true rfl, Nat.le_of_ble_eq_true rfl⟩ (Nat.le_of_ble_eq_true rfl) ⟨Nat.le_of_ble_eq_true rfl, Nat.le_of_ble_eq_true rfl⟩ dL_law_1290 rfl rfl rfl ?_
  refine V.aload_n (j := 2) dL_law_1293 rfl rfl rfl ?_
  refine V.aload_n (j := 0) dL_law_1294 rfl rfl rfl ?_
  refine V.iload_n (j := 3) dL_law_1295 rfl rfl rfl ?_
  refine V.iconst dL_law_1296 rfl ki_1 ?_
  refine V.iadd dL_law_1297 rfl ?_
  rw [show nI j + (1 : Int32) = nI (j + 1) from nI_plus j 1]
  refine LW.sld (vp_in_nI (show j + 1 < L by omega) hL31) dL_law_1298 rfl ?_
  rw [nI_clamp (show j + 1 < 2 ^ 31 by omega)]
  refine LW.callV (As := [.int (xs (j + 1))]) (rest := [.int v]) (st' := [.int v, .int v]) EXL.ok (mX9_from EXL.b (by decide) e2) mic_X9_from rfl (show KD 262 = 8 by decide) (by decide) rfl rfl wq_m_L_171 wq_i_yX9_from wq_s_yX9_from ⟨Nat.le_of_ble_eq_true rfl, Nat.le_of_ble_eq_true rfl⟩ (Nat.le_of_ble_eq_true rfl) ⟨Nat.le_of_ble_eq_true rfl, Nat.le_of_ble_eq_true rfl⟩ dL_law_1299 rfl rfl rfl ?_
  refine V.icmp_eq (tgt := 1367) (A := some 0) (B := (none : Option Nat)) (r := 0) (if_pos rfl) dL_law_1302 (by decide) rfl (fun _ => ?_) (fun hx => by cases hx)
  exact kk _ hR2
set_option maxRecDepth 100000 in
set_option maxHeartbeats 4000000 in
theorem law_status {l : Launch} {G : GG} {adV : Nat → Nat} {fm : Option Nat} {b L : Nat} {xs : Nat → Int32} {R : AH → Prop} (ops : OP_status R) {j : Nat} (hj : j + 6 ≤ L) (hL : L ≤ 384) {h : AH} (hR : R h) (kk : ∀ h2, R h2 → V l G (EXL G adV fm b L xs) mi_L ⟨13, 600000, 7302250, 508⟩ (FL G b) 275 3257 1367 [(0, .ref b), (1, .ref (G.1 + 0)), (2, .ref (G.1 + 262)), (3, .int (nI j))] [] (up h2)) : V l G (EXL G adV fm b L xs) mi_L ⟨13, 600000, 7302250, 508⟩ (FL G b) 275 3257 1307 [(0, .ref b), (1, .ref (G.1 + 0)), (2, .ref (G.1 + 262)), (3, .int (nI j))] [] (up h) := by
  have hL31 : L < 2 ^ 31 := by omega
  obtain ⟨v, h1, h2, e1, e2, hR2⟩ := ops (xs (j + 1)) h hR
  refine V.aload_n (j := 1) dL_law_1307 rfl rfl rfl ?_
  refine V.aload_n (j := 0) dL_law_1308 rfl rfl rfl ?_
  refine V.iload_n (j := 3) dL_law_1309 rfl rfl rfl ?_
  refine V.iconst dL_law_1310 rfl ki_1 ?_
  refine V.iadd dL_law_1311 rfl ?_
  rw [show nI j + (1 : Int32) = nI (j + 1) from nI_plus j 1]
  refine LW.sld (vp_in_nI (show j + 1 < L by omega) hL31) dL_law_1312 rfl ?_
  rw [nI_clamp (show j + 1 < 2 ^ 31 by omega)]
  refine LW.callV (As := [.int (xs (j + 1))]) (rest := []) (st' := [.int v]) EXL.ok (mX8_status EXL.b (by decide) e1) mic_X8_status rfl (show KD 0 = 7 by decide) (by decide) rfl rfl wq_m_L_172 wq_i_yX8_status wq_s_yX8_status ⟨Nat.le_of_ble_eq_true rfl, Nat.le_of_ble_eq_true rfl⟩ (Nat.le_of_ble_eq_true rfl) ⟨Nat.le_of_ble_eq_true rfl, Nat.le_of_ble_eq_true rfl⟩ dL_law_1313 rfl rfl rfl ?_
  refine V.aload_n (j := 2) dL_law_1316 rfl rfl rfl ?_
  refine V.aload_n (j := 0) dL_law_1317 rfl rfl rfl ?_
  refine V.iload_n (j := 3) dL_law_1318 rfl rfl rfl ?_
  refine V.iconst dL_law_1319 rfl ki_1 ?_
  refine V.iadd dL_law_1320 rfl ?_
  rw [show nI j + (1 : Int32) = nI (j + 1) from nI_plus j 1]
  refine LW.sld (vp_in_nI (show j + 1 < L by omega) hL31) dL_law_1321 rfl ?_
  rw [nI_clamp (show j + 1 < 2 ^ 31 by omega)]
  refine LW.callV (As := [.int (xs (j + 1))]) (rest := [.int v]) (st' := [.int v, .int v]) EXL.ok (mX9_status EXL.b (by decide) e2) mic_X9_status rfl (show KD 262 = 8 by decide) (by decide) rfl rfl wq_m_L_175 wq_i_yX9_status wq_s_yX9_status ⟨Nat.le_of_ble_eq_true rfl, Nat.le_of_ble_eq_true rfl⟩ (Nat.le_of_ble_eq_true rfl) ⟨Nat.le_of_ble_eq_true rfl, Nat.le_of_ble_eq_true rfl⟩ dL_law_1322 rfl rfl rfl ?_
  refine V.icmp_eq (tgt := 1367) (A := some 0) (B := (none : Option Nat)) (r := 0) (if_pos rfl) dL_law_1325 (by decide) rfl (fun _ => ?_) (fun hx => by cases hx)
  exact kk _ hR2
set_option maxRecDepth 100000 in
set_option maxHeartbeats 4000000 in
theorem law_count {l : Launch} {G : GG} {adV : Nat → Nat} {fm : Option Nat} {b L : Nat} {xs : Nat → Int32} {R : AH → Prop} (ops : OP_count R) {j : Nat} (hj : j + 6 ≤ L) (hL : L ≤ 384) {h : AH} (hR : R h) (kk : ∀ h2, R h2 → V l G (EXL G adV fm b L xs) mi_L ⟨13, 600000, 7302250, 508⟩ (FL G b) 275 3257 1367 [(0, .ref b), (1, .ref (G.1 + 0)), (2, .ref (G.1 + 262)), (3, .int (nI j))] [] (up h2)) : V l G (EXL G adV fm b L xs) mi_L ⟨13, 600000, 7302250, 508⟩ (FL G b) 275 3257 1330 [(0, .ref b), (1, .ref (G.1 + 0)), (2, .ref (G.1 + 262)), (3, .int (nI j))] [] (up h) := by
  have hL31 : L < 2 ^ 31 := by omega
  obtain ⟨v, h1, h2, e1, e2, hR2⟩ := ops (xs (j + 1)) h hR
  refine V.aload_n (j := 1) dL_law_1330 rfl rfl rfl ?_
  refine V.aload_n (j := 0) dL_law_1331 rfl rfl rfl ?_
  refine V.iload_n (j := 3) dL_law_1332 rfl rfl rfl ?_
  refine V.iconst dL_law_1333 rfl ki_1 ?_
  refine V.iadd dL_law_1334 rfl ?_
  rw [show nI j + (1 : Int32) = nI (j + 1) from nI_plus j 1]
  refine LW.sld (vp_in_nI (show j + 1 < L by omega) hL31) dL_law_1335 rfl ?_
  rw [nI_clamp (show j + 1 < 2 ^ 31 by omega)]
  refine LW.callV (As := [.int (xs (j + 1))]) (rest := []) (st' := [.int v]) EXL.ok (mX8_count EXL.b (by decide) e1) mic_X8_count rfl (show KD 0 = 7 by decide) (by decide) rfl rfl wq_m_L_176 wq_i_yX8_count wq_s_yX8_count ⟨Nat.le_of_ble_eq_true rfl, Nat.le_of_ble_eq_true rfl⟩ (Nat.le_of_ble_eq_true rfl) ⟨Nat.le_of_ble_eq_true rfl, Nat.le_of_ble_eq_true rfl⟩ dL_law_1336 rfl rfl rfl ?_
  refine V.aload_n (j := 2) dL_law_1339 rfl rfl rfl ?_
  refine V.aload_n (j := 0) dL_law_1340 rfl rfl rfl ?_
  refine V.iload_n (j := 3) dL_law_1341 rfl rfl rfl ?_
  refine V.iconst dL_law_1342 rfl ki_1 ?_
  refine V.iadd dL_law_1343 rfl ?_
  rw [show nI j + (1 : Int32) = nI (j + 1) from nI_plus j 1]
  refine LW.sld (vp_in_nI (show j + 1 < L by omega) hL31) dL_law_1344 rfl ?_
  rw [nI_clamp (show j + 1 < 2 ^ 31 by omega)]
  refine LW.callV (As := [.int (xs (j + 1))]) (rest := [.int v]) (st' := [.int v, .int v]) EXL.ok (mX9_count EXL.b (by decide) e2) mic_X9_count rfl (show KD 262 = 8 by decide) (by decide) rfl rfl wq_m_L_179 wq_i_yX9_count wq_s_yX9_count ⟨Nat.le_of_ble_eq_true rfl, Nat.le_of_ble_eq_true rfl⟩ (Nat.le_of_ble_eq_true rfl) ⟨Nat.le_of_ble_eq_true rfl, Nat.le_of_ble_eq_true rfl⟩ dL_law_1345 rfl rfl rfl ?_
  refine V.icmp_eq (tgt := 1367) (A := some 0) (B := (none : Option Nat)) (r := 0) (if_pos rfl) dL_law_1348 (by decide) rfl (fun _ => ?_) (fun hx => by cases hx)
  exact kk _ hR2
set_option maxRecDepth 100000 in
set_option maxHeartbeats 4000000 in
theorem law_digest {l : Launch} {G : GG} {adV : Nat → Nat} {fm : Option Nat} {b L : Nat} {xs : Nat → Int32} {R : AH → Prop} (ops : OP_digest R) {j : Nat} (hj : j + 6 ≤ L) (hL : L ≤ 384) {h : AH} (hR : R h) (kk : ∀ h2, R h2 → V l G (EXL G adV fm b L xs) mi_L ⟨13, 600000, 7302250, 508⟩ (FL G b) 275 3257 1367 [(0, .ref b), (1, .ref (G.1 + 0)), (2, .ref (G.1 + 262)), (3, .int (nI j))] [] (up h2)) : V l G (EXL G adV fm b L xs) mi_L ⟨13, 600000, 7302250, 508⟩ (FL G b) 275 3257 1353 [(0, .ref b), (1, .ref (G.1 + 0)), (2, .ref (G.1 + 262)), (3, .int (nI j))] [] (up h) := by
  have hL31 : L < 2 ^ 31 := by omega
  obtain ⟨v, e1, e2, hR2⟩ := ops h hR
  refine V.aload_n (j := 1) dL_law_1353 rfl rfl rfl ?_
  refine LW.callV (As := []) (rest := []) (st' := [.long v]) EXL.ok (mX8_digest EXL.b (by decide) e1) mic_X8_digest rfl (show KD 0 = 7 by decide) (by decide) rfl rfl wq_m_L_180 wq_i_yX8_digest wq_s_yX8_digest ⟨Nat.le_of_ble_eq_true rfl, Nat.le_of_ble_eq_true rfl⟩ (Nat.le_of_ble_eq_true rfl) ⟨Nat.le_of_ble_eq_true rfl, Nat.le_of_ble_eq_true rfl⟩ dL_law_1354 rfl rfl rfl ?_
  refine V.aload_n (j := 2) dL_law_1357 rfl rfl rfl ?_
  refine LW.callV (As := []) (rest := [.long v]) (st' := [.long v, .long v]) EXL.ok (mX9_digest EXL.b (by decide) e2) mic_X9_digest rfl (show KD 262 = 8 by decide) (by decide) rfl rfl wq_m_L_184 wq_i_yX9_digest wq_s_yX9_digest ⟨Nat.le_of_ble_eq_true rfl, Nat.le_of_ble_eq_true rfl⟩ (Nat.le_of_ble_eq_true rfl) ⟨Nat.le_of_ble_eq_true rfl, Nat.le_of_ble_eq_true rfl⟩ dL_law_1358 rfl rfl rfl ?_
  refine V.lcmp dL_law_1361 rfl ?_
  rw [lg_self]
  refine V.if_eq (tgt := 1367) (A := some 0) (B := (none : Option Nat)) (r := 0) (if_pos rfl) dL_law_1362 (by decide) rfl (fun _ => ?_) (fun hx => by cases hx)
  exact kk _ hR2
theorem law_val {L : Nat} (hL : L ≤ 384) : (Int32.ofNat L - 6).toInt = (L : Int) - 6 := (by decide +kernel : ∀ L, L < 385 → (Int32.ofNat L - 6).toInt = (L : Int) - 6) L (by omega)
theorem law_in {L j : Nat} (hj : j + 6 ≤ L) (hL : L ≤ 384) : ¬ (Int32.ofNat L - 6 < nI j) := by
  rw [Int32.lt_iff_toInt_lt, law_val hL, nI_toInt (by omega)]
  omega
theorem law_out {L j : Nat} (hj : ¬ j + 6 ≤ L) (hL : L ≤ 384) (hjL : j ≤ 400) : Int32.ofNat L - 6 < nI j := by
  rw [Int32.lt_iff_toInt_lt, law_val hL, nI_toInt (by omega)]
  omega
set_option maxRecDepth 100000 in
set_option maxHeartbeats 4000000 in
theorem law_loop {l : Launch} {G : GG} {adV : Nat → Nat} {fm : Option Nat} {b L : Nat} {xs : Nat → Int32} {R : AH → Prop} (ops : OPS R) (hL : L ≤ 384) : ∀ (f j : Nat) (h : AH), 400 < f + j → j ≤ 400 → R h → V l G (EXL G adV fm b L xs) mi_L ⟨13, 600000, 7302250, 508⟩ (FL G b) 275 3257 18 [(0, .ref b), (1, .ref (G.1 + 0)), (2, .ref (G.1 + 262)), (3, .int (nI j))] [] (up h) := by
  intro f
  induction f with
  | zero => intro j h h1 h2; exact absurd h1 (by omega)
  | succ f ih0 =>
    intro j h hf hjL hR
    have ih : ∀ (j2 : Nat) (h2 : AH), (j2 = j + 6 ∧ j + 6 ≤ L) → R h2 → V l G (EXL G adV fm b L xs) mi_L ⟨13, 600000, 7302250, 508⟩ (FL G b) 275 3257 18 [(0, .ref b), (1, .ref (G.1 + 0)), (2, .ref (G.1 + 262)), (3, .int (nI j2))] [] (up h2) := fun j2 h2 e hR2 => ih0 j2 h2 (by omega) (by omega) hR2
    have hL31 : L < 2 ^ 31 := by omega
    refine V.iload_n (j := 3) dL_law_18 rfl rfl rfl ?_
    refine V.aload_n (j := 0) dL_law_19 rfl rfl rfl ?_
    refine LW.slen dL_law_20 rfl ?_
    refine V.bipush dL_law_21 rfl kb_6 ?_
    refine V.isub dL_law_23 rfl ?_
    by_cases hj : j + 6 ≤ L
    · have hc : ¬ (Int32.ofNat L - 6 < nI j) := law_in hj hL
      refine V.icmp_gt (tgt := 1373) (A := (none : Option Nat)) (B := some 0) (r := 0) (if_neg hc) dL_law_24 (by decide) rfl (fun hx => by cases hx) (fun _ => ?_)
      refine V.aload_n (j := 0) dL_law_27 rfl rfl rfl ?_
      refine V.iload_n (j := 3) dL_law_28 rfl rfl rfl ?_
      refine LW.sld (vp_in_nI (show j < L by omega) hL31) dL_law_29 rfl ?_
      refine V.bipush dL_law_30 rfl kb_63 ?_
      refine V.iand dL_law_32 rfl ?_
      generalize (xs (nI j).toNatClampNeg &&& 63) = c
      have nxt : ∀ h2, R h2 → V l G (EXL G adV fm b L xs) mi_L ⟨13, 600000, 7302250, 508⟩ (FL G b) 275 3257 1367 [(0, .ref b), (1, .ref (G.1 + 0)), (2, .ref (G.1 + 262)), (3, .int (nI j))] [] (up h2) := fun h2 hR2 => by
        refine V.iinc (v := nI (j + 6)) [(3, .int (nI (j + 6))), (0, .ref b), (1, .ref (G.1 + 0)), (2, .ref (G.1 + 262))] (j := 3) rfl (d := 6) (by rw [show Int32.ofInt 6 = nI 6 by decide]; exact nI_plus j 6) (Nat.le_of_ble_eq_true rfl) rfl dL_law_1367 rfl ?_
        refine V.goto (q := 18) dL_law_1370 (by decide) ?_
        refine V.pick [1, 2, 3, 0] rfl ?_
        exact ih (j + 6) h2 ⟨rfl, hj⟩ hR2
      by_cases c0 : c.toInt = 0
      · refine V.tableIn (tgt := 212) dL_law_33 (by rw [c0]; decide) (by rw [c0]; decide) (by rw [c0]; rfl) (by decide) ?_
        exact law_land ops.1 hj hL hR nxt
      by_cases c1 : c.toInt = 1
      · refine V.tableIn (tgt := 225) dL_law_33 (by rw [c1]; decide) (by rw [c1]; decide) (by rw [c1]; rfl) (by decide) ?_
        exact law_show ops.2.1 hj hL hR nxt
      by_cases c2 : c.toInt = 2
      · refine V.tableIn (tgt := 268) dL_law_33 (by rw [c2]; decide) (by rw [c2]; decide) (by rw [c2]; rfl) (by decide) ?_
        exact law_watcher ops.2.2.1 hj hL hR nxt
      by_cases c3 : c.toInt = 3
      · refine V.tableIn (tgt := 301) dL_law_33 (by rw [c3]; decide) (by rw [c3]; decide) (by rw [c3]; rfl) (by decide) ?_
        exact law_type ops.2.2.2.1 hj hL hR nxt
      by_cases c4 : c.toInt = 4
      · refine V.tableIn (tgt := 324) dL_law_33 (by rw [c4]; decide) (by rw [c4]; decide) (by rw [c4]; rfl) (by decide) ?_
        exact law_clear ops.2.2.2.2.1 hj hL hR nxt
      by_cases c5 : c.toInt = 5
      · refine V.tableIn (tgt := 337) dL_law_33 (by rw [c5]; decide) (by rw [c5]; decide) (by rw [c5]; rfl) (by decide) ?_
        exact law_read ops.2.2.2.2.2.1 hj hL hR nxt
      by_cases c6 : c.toInt = 6
      · refine V.tableIn (tgt := 350) dL_law_33 (by rw [c6]; decide) (by rw [c6]; decide) (by rw [c6]; rfl) (by decide) ?_
        exact law_does ops.2.2.2.2.2.2.1 hj hL hR nxt
      by_cases c7 : c.toInt = 7
      · refine V.tableIn (tgt := 373) dL_law_33 (by rw [c7]; decide) (by rw [c7]; decide) (by rw [c7]; rfl) (by decide) ?_
        exact law_rest ops.2.2.2.2.2.2.2.1 hj hL hR nxt
      by_cases c8 : c.toInt = 8
      · refine V.tableIn (tgt := 396) dL_law_33 (by rw [c8]; decide) (by rw [c8]; decide) (by rw [c8]; rfl) (by decide) ?_
        exact law_moves ops.2.2.2.2.2.2.2.2.1 hj hL hR nxt
      by_cases c9 : c.toInt = 9
      · refine V.tableIn (tgt := 429) dL_law_33 (by rw [c9]; decide) (by rw [c9]; decide) (by rw [c9]; rfl) (by decide) ?_
        exact law_turns ops.2.2.2.2.2.2.2.2.2.1 hj hL hR nxt
      by_cases c10 : c.toInt = 10
      · refine V.tableIn (tgt := 462) dL_law_33 (by rw [c10]; decide) (by rw [c10]; decide) (by rw [c10]; rfl) (by decide) ?_
        exact law_sends ops.2.2.2.2.2.2.2.2.2.2.1 hj hL hR nxt
      by_cases c11 : c.toInt = 11
      · refine V.tableIn (tgt := 495) dL_law_33 (by rw [c11]; decide) (by rw [c11]; decide) (by rw [c11]; rfl) (by decide) ?_
        exact law_undo ops.2.2.2.2.2.2.2.2.2.2.2.1 hj hL hR nxt
      by_cases c12 : c.toInt = 12
      · refine V.tableIn (tgt := 508) dL_law_33 (by rw [c12]; decide) (by rw [c12]; decide) (by rw [c12]; rfl) (by decide) ?_
        exact law_of ops.2.2.2.2.2.2.2.2.2.2.2.2.1 hj hL hR nxt
      by_cases c13 : c.toInt = 13
      · refine V.tableIn (tgt := 541) dL_law_33 (by rw [c13]; decide) (by rw [c13]; decide) (by rw [c13]; rfl) (by decide) ?_
        exact law_about ops.2.2.2.2.2.2.2.2.2.2.2.2.2.1 hj hL hR nxt
      by_cases c14 : c.toInt = 14
      · refine V.tableIn (tgt := 574) dL_law_33 (by rw [c14]; decide) (by rw [c14]; decide) (by rw [c14]; rfl) (by decide) ?_
        exact law_pull ops.2.2.2.2.2.2.2.2.2.2.2.2.2.2.1 hj hL hR nxt
      by_cases c15 : c.toInt = 15
      · refine V.tableIn (tgt := 607) dL_law_33 (by rw [c15]; decide) (by rw [c15]; decide) (by rw [c15]; rfl) (by decide) ?_
        exact law_drawn ops.2.2.2.2.2.2.2.2.2.2.2.2.2.2.2.1 hj hL hR nxt
      by_cases c16 : c.toInt = 16
      · refine V.tableIn (tgt := 640) dL_law_33 (by rw [c16]; decide) (by rw [c16]; decide) (by rw [c16]; rfl) (by decide) ?_
        exact law_sees ops.2.2.2.2.2.2.2.2.2.2.2.2.2.2.2.2.1 hj hL hR nxt
      by_cases c17 : c.toInt = 17
      · refine V.tableIn (tgt := 673) dL_law_33 (by rw [c17]; decide) (by rw [c17]; decide) (by rw [c17]; rfl) (by decide) ?_
        exact law_unseen ops.2.2.2.2.2.2.2.2.2.2.2.2.2.2.2.2.2.1 hj hL hR nxt
      by_cases c18 : c.toInt = 18
      · refine V.tableIn (tgt := 696) dL_law_33 (by rw [c18]; decide) (by rw [c18]; decide) (by rw [c18]; rfl) (by decide) ?_
        exact law_when ops.2.2.2.2.2.2.2.2.2.2.2.2.2.2.2.2.2.2.1 hj hL hR nxt
      by_cases c19 : c.toInt = 19
      · refine V.tableIn (tgt := 719) dL_law_33 (by rw [c19]; decide) (by rw [c19]; decide) (by rw [c19]; rfl) (by decide) ?_
        exact law_enough ops.2.2.2.2.2.2.2.2.2.2.2.2.2.2.2.2.2.2.2.1 hj hL hR nxt
      by_cases c20 : c.toInt = 20
      · refine V.tableIn (tgt := 742) dL_law_33 (by rw [c20]; decide) (by rw [c20]; decide) (by rw [c20]; rfl) (by decide) ?_
        exact law_place ops.2.2.2.2.2.2.2.2.2.2.2.2.2.2.2.2.2.2.2.2.1 hj hL hR nxt
      by_cases c21 : c.toInt = 21
      · refine V.tableIn (tgt := 785) dL_law_33 (by rw [c21]; decide) (by rw [c21]; decide) (by rw [c21]; rfl) (by decide) ?_
        exact law_plan ops.2.2.2.2.2.2.2.2.2.2.2.2.2.2.2.2.2.2.2.2.2.1 hj hL hR nxt
      by_cases c22 : c.toInt = 22
      · refine V.tableIn (tgt := 818) dL_law_33 (by rw [c22]; decide) (by rw [c22]; decide) (by rw [c22]; rfl) (by decide) ?_
        exact law_guard ops.2.2.2.2.2.2.2.2.2.2.2.2.2.2.2.2.2.2.2.2.2.2.1 hj hL hR nxt
      by_cases c23 : c.toInt = 23
      · refine V.tableIn (tgt := 851) dL_law_33 (by rw [c23]; decide) (by rw [c23]; decide) (by rw [c23]; rfl) (by decide) ?_
        exact law_saw ops.2.2.2.2.2.2.2.2.2.2.2.2.2.2.2.2.2.2.2.2.2.2.2.1 hj hL hR nxt
      by_cases c24 : c.toInt = 24
      · refine V.tableIn (tgt := 884) dL_law_33 (by rw [c24]; decide) (by rw [c24]; decide) (by rw [c24]; rfl) (by decide) ?_
        exact law_where ops.2.2.2.2.2.2.2.2.2.2.2.2.2.2.2.2.2.2.2.2.2.2.2.2.1 hj hL hR nxt
      by_cases c25 : c.toInt = 25
      · refine V.tableIn (tgt := 897) dL_law_33 (by rw [c25]; decide) (by rw [c25]; decide) (by rw [c25]; rfl) (by decide) ?_
        exact law_note ops.2.2.2.2.2.2.2.2.2.2.2.2.2.2.2.2.2.2.2.2.2.2.2.2.2.1 hj hL hR nxt
      by_cases c26 : c.toInt = 26
      · refine V.tableIn (tgt := 960) dL_law_33 (by rw [c26]; decide) (by rw [c26]; decide) (by rw [c26]; rfl) (by decide) ?_
        exact law_mark ops.2.2.2.2.2.2.2.2.2.2.2.2.2.2.2.2.2.2.2.2.2.2.2.2.2.2.1 hj hL hR nxt
      by_cases c27 : c.toInt = 27
      · refine V.tableIn (tgt := 1013) dL_law_33 (by rw [c27]; decide) (by rw [c27]; decide) (by rw [c27]; rfl) (by decide) ?_
        exact law_forget ops.2.2.2.2.2.2.2.2.2.2.2.2.2.2.2.2.2.2.2.2.2.2.2.2.2.2.2.1 hj hL hR nxt
      by_cases c28 : c.toInt = 28
      · refine V.tableIn (tgt := 1036) dL_law_33 (by rw [c28]; decide) (by rw [c28]; decide) (by rw [c28]; rfl) (by decide) ?_
        exact law_is ops.2.2.2.2.2.2.2.2.2.2.2.2.2.2.2.2.2.2.2.2.2.2.2.2.2.2.2.2.1 hj hL hR nxt
      by_cases c29 : c.toInt = 29
      · refine V.tableIn (tgt := 1059) dL_law_33 (by rw [c29]; decide) (by rw [c29]; decide) (by rw [c29]; rfl) (by decide) ?_
        exact law_look ops.2.2.2.2.2.2.2.2.2.2.2.2.2.2.2.2.2.2.2.2.2.2.2.2.2.2.2.2.2.1 hj hL hR nxt
      by_cases c30 : c.toInt = 30
      · refine V.tableIn (tgt := 1082) dL_law_33 (by rw [c30]; decide) (by rw [c30]; decide) (by rw [c30]; rfl) (by decide) ?_
        exact law_what ops.2.2.2.2.2.2.2.2.2.2.2.2.2.2.2.2.2.2.2.2.2.2.2.2.2.2.2.2.2.2.1 hj hL hR nxt
      by_cases c31 : c.toInt = 31
      · refine V.tableIn (tgt := 1105) dL_law_33 (by rw [c31]; decide) (by rw [c31]; decide) (by rw [c31]; rfl) (by decide) ?_
        exact law_tries ops.2.2.2.2.2.2.2.2.2.2.2.2.2.2.2.2.2.2.2.2.2.2.2.2.2.2.2.2.2.2.2.1 hj hL hR nxt
      by_cases c32 : c.toInt = 32
      · refine V.tableIn (tgt := 1128) dL_law_33 (by rw [c32]; decide) (by rw [c32]; decide) (by rw [c32]; rfl) (by decide) ?_
        exact law_game ops.2.2.2.2.2.2.2.2.2.2.2.2.2.2.2.2.2.2.2.2.2.2.2.2.2.2.2.2.2.2.2.2.1 hj hL hR nxt
      by_cases c33 : c.toInt = 33
      · refine V.tableIn (tgt := 1171) dL_law_33 (by rw [c33]; decide) (by rw [c33]; decide) (by rw [c33]; rfl) (by decide) ?_
        exact law_fails ops.2.2.2.2.2.2.2.2.2.2.2.2.2.2.2.2.2.2.2.2.2.2.2.2.2.2.2.2.2.2.2.2.2.1 hj hL hR nxt
      by_cases c34 : c.toInt = 34
      · refine V.tableIn (tgt := 1204) dL_law_33 (by rw [c34]; decide) (by rw [c34]; decide) (by rw [c34]; rfl) (by decide) ?_
        exact law_years ops.2.2.2.2.2.2.2.2.2.2.2.2.2.2.2.2.2.2.2.2.2.2.2.2.2.2.2.2.2.2.2.2.2.2.1 hj hL hR nxt
      by_cases c35 : c.toInt = 35
      · refine V.tableIn (tgt := 1237) dL_law_33 (by rw [c35]; decide) (by rw [c35]; decide) (by rw [c35]; rfl) (by decide) ?_
        exact law_part ops.2.2.2.2.2.2.2.2.2.2.2.2.2.2.2.2.2.2.2.2.2.2.2.2.2.2.2.2.2.2.2.2.2.2.2.1 hj hL hR nxt
      by_cases c36 : c.toInt = 36
      · refine V.tableIn (tgt := 1261) dL_law_33 (by rw [c36]; decide) (by rw [c36]; decide) (by rw [c36]; rfl) (by decide) ?_
        exact law_image ops.2.2.2.2.2.2.2.2.2.2.2.2.2.2.2.2.2.2.2.2.2.2.2.2.2.2.2.2.2.2.2.2.2.2.2.2.1 hj hL hR nxt
      by_cases c37 : c.toInt = 37
      · refine V.tableIn (tgt := 1284) dL_law_33 (by rw [c37]; decide) (by rw [c37]; decide) (by rw [c37]; rfl) (by decide) ?_
        exact law_from ops.2.2.2.2.2.2.2.2.2.2.2.2.2.2.2.2.2.2.2.2.2.2.2.2.2.2.2.2.2.2.2.2.2.2.2.2.2.1 hj hL hR nxt
      by_cases c38 : c.toInt = 38
      · refine V.tableIn (tgt := 1307) dL_law_33 (by rw [c38]; decide) (by rw [c38]; decide) (by rw [c38]; rfl) (by decide) ?_
        exact law_status ops.2.2.2.2.2.2.2.2.2.2.2.2.2.2.2.2.2.2.2.2.2.2.2.2.2.2.2.2.2.2.2.2.2.2.2.2.2.2.1 hj hL hR nxt
      by_cases c39 : c.toInt = 39
      · refine V.tableIn (tgt := 1330) dL_law_33 (by rw [c39]; decide) (by rw [c39]; decide) (by rw [c39]; rfl) (by decide) ?_
        exact law_count ops.2.2.2.2.2.2.2.2.2.2.2.2.2.2.2.2.2.2.2.2.2.2.2.2.2.2.2.2.2.2.2.2.2.2.2.2.2.2.2.1 hj hL hR nxt
      by_cases c40 : c.toInt = 40
      · refine V.tableIn (tgt := 1353) dL_law_33 (by rw [c40]; decide) (by rw [c40]; decide) (by rw [c40]; rfl) (by decide) ?_
        exact law_digest ops.2.2.2.2.2.2.2.2.2.2.2.2.2.2.2.2.2.2.2.2.2.2.2.2.2.2.2.2.2.2.2.2.2.2.2.2.2.2.2.2 hj hL hR nxt
      refine V.tableOut (tgt := 1367) dL_law_33 (by omega) (by decide) ?_
      exact nxt h hR
    · have hc : Int32.ofNat L - 6 < nI j := law_out hj hL hjL
      refine V.icmp_gt (tgt := 1373) (A := some 0) (B := (none : Option Nat)) (r := 0) (if_pos hc) dL_law_24 (by decide) rfl (fun _ => ?_) (fun hx => by cases hx)
      refine V.iconst dL_law_1373 rfl ki_1 ?_
      exact LW.endl (Nat.le_of_ble_eq_true rfl) (Nat.le_of_ble_eq_true rfl) dL_law_1374
