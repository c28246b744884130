/-! the six text constants, by number; String.length, charAt by their own bytecode -/
def STRL : List (List Nat) := [[108, 97, 110, 100], [115, 104, 111, 119], [111, 102, 102], [119, 97, 116, 99, 104, 101, 114], [100, 111], [114, 101, 115, 116]]
def STRB : List (List Int32) := [[108, 97, 110, 100], [115, 104, 111, 119], [111, 102, 102], [119, 97, 116, 99, 104, 101, 114], [100, 111], [114, 101, 115, 116]]
def STRN : List Nat := [4, 4, 3, 7, 2, 4]
def STRT : List String := ["land", "show", "off", "watcher", "do", "rest"]
def STRI : List Nat := [117, 123, 125, 127, 129, 131]
def sLen (w : Nat) : Int32 := Int32.ofNat (STRN.getD w 0)
def sAt (w : Nat) (i : Int32) : Option Int32 := oG (decide (w < 6)) (oG (inb i (STRN.getD w 0)) (some ((STRB.getD w []).getD (ix i) 0)))
/-- what the start gives of them -/
def EXs (G : GG) (adV : Nat → Nat) (fm : Option Nat) : State → Prop := fun U => vk_S 6 STRN STRB G.2.2.2 adV (AA G) U U.heap ∧ (∀ i, i < 6 → vk_R RX5 (STRI.getD i 0) (STRT.getD i "") (G.2.2.2 i) U) ∧ va_Z "java/lang/String" "COMPACT_STRINGS" "Z" (.int 1) (AA G) U U.heap ∧ va_Z "jdk/internal/util/Preconditions" "SIOOBE_FORMATTER" "Ljava/util/function/BiFunction;" (va_rf fm) (AA G) U U.heap
theorem EXs.ok {G : GG} {adV : Nat → Nat} {fm : Option Nat} : EXok G (EXs G adV fm) := by
  refine ⟨fun U g mk a h => ?_, fun s U hW hh h => ?_⟩
  · obtain ⟨h1, h2, h3, h4⟩ := h
    exact ⟨vk_S.moved (u := U) (U := U.calling g mk a) (Vm.Alike.refl U.vm) h1, fun i hi => (h2 i hi).same rfl, va_Z.moved (u := U) (U := U.calling g mk a) (Vm.Alike.refl U.vm) h3, va_Z.moved (u := U) (U := U.calling g mk a) (Vm.Alike.refl U.vm) h4⟩
  · obtain ⟨h1, h2, h3, h4⟩ := h
    exact ⟨(h1.moved hW.alike).kept hh.2, fun i hi => (h2 i hi).warm hW, (h3.moved hW.alike).kept hh.2, (h4.moved hW.alike).kept hh.2⟩
def EXB (G : GG) (EX : State → Prop) : Prop := EXok G EX ∧ ∃ (adV : Nat → Nat) (fm : Option Nat), ∀ U, EX U → EXs G adV fm U
theorem wq_m_J0_335 : Cond.methodLink RJ0 335 yJ0_coder_7d493 ∈ WS := ws2 99 (by decide +kernel) rfl
theorem wq_f_J0_38 : Cond.fieldLink RJ0 38 "java/lang/String" "COMPACT_STRINGS" "Z" ∈ WS := ws2 103 (by decide +kernel) rfl
theorem wq_m_J0_492 : Cond.methodLink RJ0 492 yJ0_isLatin1_aae02 ∈ WS := ws2 109 (by decide +kernel) rfl
theorem wq_m_J0_495 : Cond.methodLink RJ0 495 yJ1_charAt_3b067 ∈ WS := ws2 113 (by decide +kernel) rfl
theorem wq_m_J1_9 : Cond.methodLink RJ1 9 yJ0_checkIndex_df160 ∈ WS := ws2 116 (by decide +kernel) rfl
theorem wq_f_J0_1053 : Cond.fieldLink RJ0 1053 "jdk/internal/util/Preconditions" "SIOOBE_FORMATTER" "Ljava/util/function/BiFunction;" ∈ WS := ws2 119 (by decide +kernel) rfl
theorem wq_m_J0_1059 : Cond.methodLink RJ0 1059 yJ3_checkIndex_8e157 ∈ WS := ws2 121 (by decide +kernel) rfl
theorem wq_f_J0_9 : Cond.fieldLink RJ0 9 "java/lang/String" "value" "[B" ∈ WS := ws6 75 (by decide +kernel) rfl
theorem wq_f_J0_15 : Cond.fieldLink RJ0 15 "java/lang/String" "coder" "B" ∈ WS := ws6 76 (by decide +kernel) rfl
section STRV
variable {l : Launch} {G : GG} {EX : State → Prop} {M : MI} {rm : Room} {FIN : FT1} {k n pc q : Nat} {lv : List (Nat × Value)} {st : List Value} {h : FH} {adV : Nat → Nat} {fm : Option Nat}
theorem V.gets1 {idx : Nat} (hS : ∀ U, EX U → EXs G adV fm U) (hl : Cond.fieldLink M.1.cls idx "java/lang/String" "COMPACT_STRINGS" "Z" ∈ WS) (hdg : decode M.2.1 pc = .ok (.getstatic idx, 3)) (hq : pc + 3 = q) (kk : V l G EX M rm FIN k n q lv (.int 1 :: st) h) : V l G EX M rm FIN k n pc lv st h := by
  subst hq
  intro p e s m args below meth c C0 H locs ls hP hS0 hb hl0
  exact va_gets C0.1 C0.2.1 (hS s C0.2.2.2.2.2.2.2.2.2).2.2.1 hS0 C0.2.2.2.2.2.1 (C0.2.2.2.2.2.2.2.1 _ hl) (fun _ h => h) hdg (kk p e s m args below meth c C0 H locs ls hP hS0 hb hl0)
theorem V.gets2 {idx : Nat} (hS : ∀ U, EX U → EXs G adV fm U) (hl : Cond.fieldLink M.1.cls idx "jdk/internal/util/Preconditions" "SIOOBE_FORMATTER" "Ljava/util/function/BiFunction;" ∈ WS) (hdg : decode M.2.1 pc = .ok (.getstatic idx, 3)) (hq : pc + 3 = q) (kk : V l G EX M rm FIN k n q lv (va_rf fm :: st) h) : V l G EX M rm FIN k n pc lv st h := by
  subst hq
  intro p e s m args below meth c C0 H locs ls hP hS0 hb hl0
  exact va_gets C0.1 C0.2.1 (hS s C0.2.2.2.2.2.2.2.2.2).2.2.2 hS0 C0.2.2.2.2.2.1 (C0.2.2.2.2.2.2.2.1 _ hl) (fun _ h => h) hdg (kk p e s m args below meth c C0 H locs ls hP hS0 hb hl0)
theorem V.getcoder {idx w : Nat} (hw : w < 6) (hS : ∀ U, EX U → EXs G adV fm U) (hl : Cond.fieldLink M.1.cls idx "java/lang/String" "coder" "B" ∈ WS) (hdg : decode M.2.1 pc = .ok (.getfield idx, 3)) (hq : pc + 3 = q) (kk : V l G EX M rm FIN k n q lv (.int 0 :: st) h) : V l G EX M rm FIN k n pc lv (.ref (G.2.2.2 w) :: st) h := by
  subst hq
  intro p e s m args below meth c C0 H locs ls hP hS0 hb hl0
  exact vk_getf C0.1 C0.2.1 ((hS s C0.2.2.2.2.2.2.2.2.2).1.1 w hw).2.1 hS0 C0.2.2.2.2.2.1 (C0.2.2.2.2.2.2.2.1 _ hl) (fun _ h => h) hdg (kk p e s m args below meth c C0 H locs ls hP hS0 hb hl0)
theorem V.getvalue {idx w : Nat} (hw : w < 6) (hS : ∀ U, EX U → EXs G adV fm U) (hl : Cond.fieldLink M.1.cls idx "java/lang/String" "value" "[B" ∈ WS) (hdg : decode M.2.1 pc = .ok (.getfield idx, 3)) (hq : pc + 3 = q) (kk : V l G EX M rm FIN k n q lv (.ref (adV w) :: st) h) : V l G EX M rm FIN k n pc lv (.ref (G.2.2.2 w) :: st) h := by
  subst hq
  intro p e s m args below meth c C0 H locs ls hP hS0 hb hl0
  exact vk_getf C0.1 C0.2.1 ((hS s C0.2.2.2.2.2.2.2.2.2).1.1 w hw).2.2.1 hS0 C0.2.2.2.2.2.1 (C0.2.2.2.2.2.2.2.1 _ hl) (fun _ h => h) hdg (kk p e s m args below meth c C0 H locs ls hP hS0 hb hl0)
theorem V.slenB {w : Nat} (hw : w < 6) (hS : ∀ U, EX U → EXs G adV fm U) (hdg : decode M.2.1 pc = .ok (.arraylength, 1)) (hq : pc + 1 = q) (kk : V l G EX M rm FIN k n q lv (.int (sLen w) :: st) h) : V l G EX M rm FIN k n pc lv (.ref (adV w) :: st) h := by
  subst hq
  intro p e s m args below meth c C0 H locs ls hP hS0 hb hl0
  exact va_tlen C0.1 C0.2.1 ((hS s C0.2.2.2.2.2.2.2.2.2).1.1 w hw).2.2.2 hS0 rfl hdg (kk p e s m args below meth c C0 H locs ls hP hS0 hb hl0)
theorem V.satB {w : Nat} {i : Int32} (hw : w < 6) (hS : ∀ U, EX U → EXs G adV fm U) (hin : inb i (STRN.getD w 0) = true) (hdg : decode M.2.1 pc = .ok (.baload, 1)) (hq : pc + 1 = q) (kk : V l G EX M rm FIN k n q lv (.int ((STRB.getD w []).getD (ix i) 0) :: st) h) : V l G EX M rm FIN k n pc lv (.int i :: .ref (adV w) :: st) h := by
  subst hq
  intro p e s m args below meth c C0 H locs ls hP hS0 hb hl0
  exact va_tb C0.1 C0.2.1 ((hS s C0.2.2.2.2.2.2.2.2.2).1.1 w hw).2.2.2 hS0 (inb_in hin) rfl hdg (kk p e s m args below meth c C0 H locs ls hP hS0 hb hl0)
theorem V.ldcS {idx i : Nat} (hi : i < 6) (hS : ∀ U, EX U → EXs G adV fm U) (hid : STRI.getD i 0 = idx) (hM : M.1.cls = RX5) (hdg : decode M.2.1 pc = .ok (.ldc idx, 2)) (hq : pc + 2 = q) (kk : V l G EX M rm FIN k n q lv (.ref (G.2.2.2 i) :: st) h) : V l G EX M rm FIN k n pc lv st h := by
  subst hq
  subst hid
  intro p e s m args below meth c C0 H locs ls hP hS0 hb hl0
  exact va_ldcS C0.1 C0.2.1 (own := RX5) (tx := STRT.getD i "") (by rw [← hM]; exact C0.2.2.2.2.2.1) ((hS s C0.2.2.2.2.2.2.2.2.2).2.1 i hi) hdg (kk p e s m args below meth c C0 H locs ls hP hS0 hb hl0)
/-- a call whose receiver is a text constant -/
theorem V.callK {Mc : MI} {fr lo fr' lo' mc' ms' idx na : Nat} {Qo' : Option Value → FH → Prop} {As rest : List Value} {w : Nat} (hw : w < 6) (hS : ∀ U, EX U → EXs G adV fm U) (hE : EXok G EX) (hMc : MIc Mc na) (hna : As.length = na) (hrn : Mc.1.cls = "java/lang/String") {mc ms : Nat}
    (hM : Met l Mc.1 (Cond.code Mc.1 Mc.2.1 Mc.2.2.1 Mc.2.2.2 :: WS) ⟨fr', mc', ms', lo'⟩ (PcG G (.ref (G.2.2.2 w) :: As) h EX) (QcG G Qo') mc' ms' (AA G)) (hml : Cond.methodLink M.1.cls idx Mc.1 ∈ WS) (hin : Cond.instanceMethod Mc.1 ∈ WS) (hse : Cond.selects Mc.1.cls Mc.1 Mc.1 ∈ WS)
    (hr : fr' + 1 ≤ fr ∧ 8 + (Mc.2.2.1 + 11) + lo' ≤ lo) (hcat : (rest.map fun v => v.category).sum ≤ 8) (hf : k + mc' ≤ mc ∧ n + ms' ≤ ms) (hdg : decode M.2.1 pc = .ok (.invokevirtual idx, 3)) (hstack : st = As.reverse ++ .ref (G.2.2.2 w) :: rest) (hq : pc + 3 = q)
    (kk : ∀ (v : Option Value) (h' : FH), Qo' v h' → V l G EX M ⟨fr, mc, ms, lo⟩ FIN (k + mc') (n + ms') q lv (v.toList ++ rest) h') : V l G EX M ⟨fr, mc, ms, lo⟩ FIN k n pc lv st h := by
  refine V.run (aa := (Value.ref (G.2.2.2 w) :: As).toArray) (rest := rest) (fun p e s m args below meth c C0 H locs ls hP hS0 hb hl => ?_) hq kk
  have hts := C0.2.2.2.2.2.2.2.1
  have hrecv := vk_recv (hS s C0.2.2.2.2.2.2.2.2.2).1 hw hS0
  rw [← hrn] at hrecv
  exact va_runV (C := Mc.1.cls) (As := As) (rest := rest) (b := G.2.2.2 w) ⟨C0.1, C0.2.1, C0.2.2.1, C0.2.2.2.2.2.1, hts⟩ hM ⟨callB_of na hts (WS_code hMc.1.1) rfl rfl rfl (hts _ hMc.2.1) (hts _ hml) hMc.2.2 hr, hts _ hin, hts _ hse⟩ ⟨PcG_blind hE, hrecv, PcG_pre hE C0 hP hS0⟩ rfl hna hl.1 hstack (lv_room hcat) hdg hf
end STRV
abbrev mi_coder : MI := (yJ0_coder_7d493, cJ0_coder_7d493, 1, (some .byte))
theorem mic_coder : MIc mi_coder 0 := ⟨⟨wq_c_yJ0_coder_7d493, by decide⟩, wq_n_RJ0, by decide +kernel⟩
abbrev mi_isLatin1 : MI := (yJ0_isLatin1_aae02, cJ0_isLatin1_aae02, 1, (some .boolean))
theorem mic_isLatin1 : MIc mi_isLatin1 0 := ⟨⟨wq_c_yJ0_isLatin1_aae02, by decide⟩, wq_n_RJ0, by decide +kernel⟩
abbrev mi_slength : MI := (yJ0_length_8abf5, cJ0_length_8abf5, 1, (some .int))
theorem mic_slength : MIc mi_slength 0 := ⟨⟨wq_c_yJ0_length_8abf5, by decide⟩, wq_n_RJ0, by decide +kernel⟩
abbrev mi_checkP : MI := (yJ3_checkIndex_8e157, cJ3_checkIndex_8e157, 3, (some .int))
theorem mic_checkP : MIc mi_checkP 3 := ⟨⟨wq_c_yJ3_checkIndex_8e157, by decide⟩, wq_n_RJ3, by decide +kernel⟩
abbrev mi_checkI : MI := (yJ0_checkIndex_df160, cJ0_checkIndex_df160, 2, none)
theorem mic_checkI : MIc mi_checkI 2 := ⟨⟨wq_c_yJ0_checkIndex_df160, by decide⟩, wq_n_RJ0, by decide +kernel⟩
abbrev mi_charAtL : MI := (yJ1_charAt_3b067, cJ1_charAt_3b067, 2, (some .char))
theorem mic_charAtL : MIc mi_charAtL 2 := ⟨⟨wq_c_yJ1_charAt_3b067, by decide⟩, wq_n_RJ1, by decide +kernel⟩
abbrev mi_scharAt : MI := (yJ0_charAt_5068e, cJ0_charAt_5068e, 2, (some .char))
theorem mic_scharAt : MIc mi_scharAt 1 := ⟨⟨wq_c_yJ0_charAt_5068e, by decide⟩, wq_n_RJ0, by decide +kernel⟩
section STRM
variable {l : Launch} {G : GG} {EX : State → Prop} {h : AH} {adV : Nat → Nat} {fm : Option Nat} {w : Nat}
theorem m_coder (hw : w < 6) (hS : ∀ U, EX U → EXs G adV fm U) : MetU l G EX mi_coder 0 0 [.ref (G.2.2.2 w)] h (some (.int 0)) h := by
  refine MetU.of mic_coder.1 (Nat.le_of_ble_eq_true rfl) ?_
  refine show U l G EX mi_coder 0 0 (some (.int 0)) h 0 [(0, .ref (G.2.2.2 w))] [] h from ?_
  refine V.gets1 hS wq_f_J0_38 dJ0_coder_7d493_0 rfl ?_
  refine V.if_eq (tgt := 13) (A := (none : Option Nat)) (B := some 0) (r := 0) rfl dJ0_coder_7d493_3 (by decide) rfl (fun hx => ?_) (fun _ => ?_)
  · cases hx
  · refine V.aload_n (j := 0) dJ0_coder_7d493_6 rfl rfl rfl ?_
    refine V.getcoder hw hS wq_f_J0_15 dJ0_coder_7d493_7 rfl ?_
    refine V.goto (q := 14) dJ0_coder_7d493_10 (by decide) ?_
    exact U.retI rfl rfl rfl rfl dJ0_coder_7d493_14
theorem m_isLatin1 (hw : w < 6) (hS : ∀ U, EX U → EXs G adV fm U) : MetU l G EX mi_isLatin1 0 0 [.ref (G.2.2.2 w)] h (some (.int 1)) h := by
  refine MetU.of mic_isLatin1.1 (Nat.le_of_ble_eq_true rfl) ?_
  refine show U l G EX mi_isLatin1 0 0 (some (.int 1)) h 0 [(0, .ref (G.2.2.2 w))] [] h from ?_
  refine V.gets1 hS wq_f_J0_38 dJ0_isLatin1_aae02_0 rfl ?_
  refine V.if_eq (tgt := 17) (A := (none : Option Nat)) (B := some 0) (r := 0) rfl dJ0_isLatin1_aae02_3 (by decide) rfl (fun hx => ?_) (fun _ => ?_)
  · cases hx
  · refine V.aload_n (j := 0) dJ0_isLatin1_aae02_6 rfl rfl rfl ?_
    refine V.getcoder hw hS wq_f_J0_15 dJ0_isLatin1_aae02_7 rfl ?_
    refine V.if_ne (tgt := 17) (A := some 0) (B := (none : Option Nat)) (r := 0) rfl dJ0_isLatin1_aae02_10 (by decide) rfl (fun hx => ?_) (fun _ => ?_)
    · cases hx
    · refine V.iconst (v := 1) dJ0_isLatin1_aae02_13 rfl (by decide) ?_
      refine V.goto (q := 18) dJ0_isLatin1_aae02_14 (by decide) ?_
      exact U.retI rfl rfl rfl rfl dJ0_isLatin1_aae02_18
theorem m_slength (hE : EXok G EX) (hw : w < 6) (hS : ∀ U, EX U → EXs G adV fm U) : MetU l G EX mi_slength 1 20 [.ref (G.2.2.2 w)] h (some (.int (sLen w))) h := by
  refine MetU.of mic_slength.1 (Nat.le_of_ble_eq_true rfl) ?_
  refine show U l G EX mi_slength 1 20 (some (.int (sLen w))) h 0 [(0, .ref (G.2.2.2 w))] [] h from ?_
  refine V.aload_n (j := 0) dJ0_length_8abf5_0 rfl rfl rfl ?_
  refine V.getvalue hw hS wq_f_J0_9 dJ0_length_8abf5_1 rfl ?_
  refine V.slenB hw hS dJ0_length_8abf5_4 rfl ?_
  refine V.aload_n (j := 0) dJ0_length_8abf5_5 rfl rfl rfl ?_
  refine V.callK (As := []) (rest := [.int (sLen w)]) hw hS hE mic_coder rfl rfl (m_coder hw hS) wq_m_J0_335 wq_i_yJ0_coder_7d493 wq_s_yJ0_coder_7d493 ⟨Nat.le_of_ble_eq_true rfl, Nat.le_of_ble_eq_true rfl⟩ (Nat.le_of_ble_eq_true rfl) ⟨Nat.le_refl _, Nat.le_refl _⟩ dJ0_length_8abf5_6 rfl rfl ?_
  rintro _ _ ⟨rfl, rfl⟩
  refine V.ishr (x := sLen w) (y := 0) (st := []) dJ0_length_8abf5_9 rfl ?_
  have e0 : jshr (sLen w) 0 = sLen w := (by decide +kernel : ∀ w, w < 6 → jshr (sLen w) 0 = sLen w) w hw
  rw [e0]
  exact U.retI rfl rfl rfl rfl dJ0_length_8abf5_10
theorem m_checkP {i n : Int32} (h0 : ¬ i < 0) (h1 : i < n) : MetU l G EX mi_checkP 0 0 [.int i, .int n, va_rf fm] h (some (.int i)) h := by
  suffices hc : ∀ fv : Value, (fv = .null ∨ ∃ a, fv = .ref a) → MetU l G EX mi_checkP 0 0 [.int i, .int n, fv] h (some (.int i)) h by
    cases fm with
    | none => exact hc _ (Or.inl rfl)
    | some a => exact hc _ (Or.inr ⟨a, rfl⟩)
  intro fv hfv
  rcases hfv with rfl | ⟨a, rfl⟩
  ·
      refine MetU.of mic_checkP.1 (Nat.le_of_ble_eq_true rfl) ?_
      refine show U l G EX mi_checkP 0 0 (some (.int i)) h 0 [(0, .int i), (1, .int n), (2, .null)] [] h from ?_
      refine V.iload_n (j := 0) dJ3_checkIndex_8e157_0 rfl rfl rfl ?_
      refine V.if_lt (tgt := 9) (A := (none : Option Nat)) (B := some 0) (r := 0) (if_neg h0) dJ3_checkIndex_8e157_1 (by decide) rfl (fun hx => ?_) (fun _ => ?_)
      · cases hx
      · refine V.iload_n (j := 0) dJ3_checkIndex_8e157_4 rfl rfl rfl ?_
        refine V.iload_n (j := 1) dJ3_checkIndex_8e157_5 rfl rfl rfl ?_
        refine V.icmp_lt (tgt := 16) (A := some 0) (B := (none : Option Nat)) (r := 0) (if_pos h1) dJ3_checkIndex_8e157_6 (by decide) rfl (fun _ => ?_) (fun hx => ?_)
        · refine V.iload_n (j := 0) dJ3_checkIndex_8e157_16 rfl rfl rfl ?_
          exact U.retI rfl rfl rfl rfl dJ3_checkIndex_8e157_17
        · cases hx
  ·
      refine MetU.of mic_checkP.1 (Nat.le_of_ble_eq_true rfl) ?_
      refine show U l G EX mi_checkP 0 0 (some (.int i)) h 0 [(0, .int i), (1, .int n), (2, .ref a)] [] h from ?_
      refine V.iload_n (j := 0) dJ3_checkIndex_8e157_0 rfl rfl rfl ?_
      refine V.if_lt (tgt := 9) (A := (none : Option Nat)) (B := some 0) (r := 0) (if_neg h0) dJ3_checkIndex_8e157_1 (by decide) rfl (fun hx => ?_) (fun _ => ?_)
      · cases hx
      · refine V.iload_n (j := 0) dJ3_checkIndex_8e157_4 rfl rfl rfl ?_
        refine V.iload_n (j := 1) dJ3_checkIndex_8e157_5 rfl rfl rfl ?_
        refine V.icmp_lt (tgt := 16) (A := some 0) (B := (none : Option Nat)) (r := 0) (if_pos h1) dJ3_checkIndex_8e157_6 (by decide) rfl (fun _ => ?_) (fun hx => ?_)
        · refine V.iload_n (j := 0) dJ3_checkIndex_8e157_16 rfl rfl rfl ?_
          exact U.retI rfl rfl rfl rfl dJ3_checkIndex_8e157_17
        · cases hx
theorem m_checkI (hE : EXok G EX) (hS : ∀ U, EX U → EXs G adV fm U) {i n : Int32} (h0 : ¬ i < 0) (h1 : i < n) : MetU l G EX mi_checkI 1 22 [.int i, .int n] h none h := by
  refine MetU.of mic_checkI.1 (Nat.le_of_ble_eq_true rfl) ?_
  refine show U l G EX mi_checkI 1 22 none h 0 [(0, .int i), (1, .int n)] [] h from ?_
  refine V.iload_n (j := 0) dJ0_checkIndex_df160_0 rfl rfl rfl ?_
  refine V.iload_n (j := 1) dJ0_checkIndex_df160_1 rfl rfl rfl ?_
  refine V.gets2 hS wq_f_J0_1053 dJ0_checkIndex_df160_2 rfl ?_
  refine U.callS (As := [.int i, .int n, va_rf fm]) (rest := []) (st' := [.int i]) hE (m_checkP h0 h1) mic_checkP rfl wq_m_J0_1059 wq_t_yJ3_checkIndex_8e157 ⟨Nat.le_of_ble_eq_true rfl, Nat.le_of_ble_eq_true rfl⟩ (Nat.le_of_ble_eq_true rfl) dJ0_checkIndex_df160_5 rfl rfl rfl ?_
  refine V.pop dJ0_checkIndex_df160_8 rfl rfl ?_
  exact U.ret0 rfl rfl rfl dJ0_checkIndex_df160_9
theorem inb_lt {i : Int32} {w : Nat} (hw : w < 6) (h : inb i (STRN.getD w 0) = true) : ¬ i < 0 ∧ i < sLen w := by
  have h1 := inb_in h
  have h2 : ¬ i < 0 := fun q => h1 (Or.inl q)
  have h3 : ¬ STRN.getD w 0 ≤ i.toNatClampNeg := fun q => h1 (Or.inr q)
  obtain ⟨j, hj, rfl⟩ := nI_of h2
  refine ⟨h2, ?_⟩
  rw [nI_clamp hj] at h3
  exact nI_lt (Nat.not_le.mp h3) ((by decide +kernel : ∀ w, w < 6 → STRN.getD w 0 < 2 ^ 31) w hw)
theorem m_charAtL (hE : EXok G EX) (hw : w < 6) (hS : ∀ U, EX U → EXs G adV fm U) {i : Int32} (hi : inb i (STRN.getD w 0) = true) : MetU l G EX mi_charAtL 2 43 [.ref (adV w), .int i] h (some (.int ((STRB.getD w []).getD (ix i) 0))) h := by
  refine MetU.of mic_charAtL.1 (Nat.le_of_ble_eq_true rfl) ?_
  refine show U l G EX mi_charAtL 2 43 (some (.int ((STRB.getD w []).getD (ix i) 0))) h 0 [(0, .ref (adV w)), (1, .int i)] [] h from ?_
  refine V.iload_n (j := 1) dJ1_charAt_3b067_0 rfl rfl rfl ?_
  refine V.aload_n (j := 0) dJ1_charAt_3b067_1 rfl rfl rfl ?_
  refine V.slenB hw hS dJ1_charAt_3b067_2 rfl ?_
  refine U.callS (As := [.int i, .int (sLen w)]) (rest := []) (st' := []) hE (m_checkI hE hS (inb_lt hw hi).1 (inb_lt hw hi).2) mic_checkI rfl wq_m_J1_9 wq_t_yJ0_checkIndex_df160 ⟨Nat.le_of_ble_eq_true rfl, Nat.le_of_ble_eq_true rfl⟩ (Nat.le_of_ble_eq_true rfl) dJ1_charAt_3b067_3 rfl rfl rfl ?_
  refine V.aload_n (j := 0) dJ1_charAt_3b067_6 rfl rfl rfl ?_
  refine V.iload_n (j := 1) dJ1_charAt_3b067_7 rfl rfl rfl ?_
  refine V.satB hw hS hi dJ1_charAt_3b067_8 rfl ?_
  refine V.sipush (v := 255) dJ1_charAt_3b067_9 rfl (by decide +kernel) ?_
  refine V.iand dJ1_charAt_3b067_12 rfl ?_
  refine V.i2c dJ1_charAt_3b067_13 rfl ?_
  have hall : ∀ w, w < 6 → ∀ j, j < STRN.getD w 0 → (((STRB.getD w []).getD j 0 &&& 255).toUInt32 % 65536).toInt32 = (STRB.getD w []).getD j 0 ∧ narrow .char (.int ((STRB.getD w []).getD j 0)) = .int ((STRB.getD w []).getD j 0) := by
    intro w hw j hj
    have hj7 : j < 7 := Nat.lt_of_lt_of_le hj ((by decide +kernel : ∀ w, w < 6 → STRN.getD w 0 ≤ 7) w hw)
    exact (by decide +kernel : ∀ w, w < 6 → ∀ j, j < 7 → (((STRB.getD w []).getD j 0 &&& 255).toUInt32 % 65536).toInt32 = (STRB.getD w []).getD j 0 ∧ narrow .char (.int ((STRB.getD w []).getD j 0)) = .int ((STRB.getD w []).getD j 0)) w hw j hj7
  have hj : ix i < STRN.getD w 0 := Nat.not_le.mp fun q => inb_in hi (Or.inr q)
  obtain ⟨e1, e2⟩ := hall w hw _ hj
  rw [e1]
  exact U.retI rfl rfl rfl e2 dJ1_charAt_3b067_14
theorem m_scharAt (hE : EXok G EX) (hw : w < 6) (hS : ∀ U, EX U → EXs G adV fm U) {i : Int32} (hi : inb i (STRN.getD w 0) = true) : MetU l G EX mi_scharAt 3 64 [.ref (G.2.2.2 w), .int i] h (some (.int ((STRB.getD w []).getD (ix i) 0))) h := by
  refine MetU.of mic_scharAt.1 (Nat.le_of_ble_eq_true rfl) ?_
  refine show U l G EX mi_scharAt 3 64 (some (.int ((STRB.getD w []).getD (ix i) 0))) h 0 [(0, .ref (G.2.2.2 w)), (1, .int i)] [] h from ?_
  refine V.aload_n (j := 0) dJ0_charAt_5068e_0 rfl rfl rfl ?_
  refine V.callK (As := []) (rest := []) hw hS hE mic_isLatin1 rfl rfl (m_isLatin1 hw hS) wq_m_J0_492 wq_i_yJ0_isLatin1_aae02 wq_s_yJ0_isLatin1_aae02 ⟨Nat.le_of_ble_eq_true rfl, Nat.le_of_ble_eq_true rfl⟩ (Nat.le_of_ble_eq_true rfl) ⟨Nat.le_refl _, Nat.le_refl _⟩ dJ0_charAt_5068e_1 rfl rfl ?_
  rintro _ _ ⟨rfl, rfl⟩
  refine V.if_eq (x := 1) (st := []) (tgt := 16) (A := (none : Option Nat)) (B := some 0) (r := 0) rfl dJ0_charAt_5068e_4 (by decide) rfl (fun hx => ?_) (fun _ => ?_)
  · cases hx
  · refine V.aload_n (j := 0) dJ0_charAt_5068e_7 rfl rfl rfl ?_
    refine V.getvalue hw hS wq_f_J0_9 dJ0_charAt_5068e_8 rfl ?_
    refine V.iload_n (j := 1) dJ0_charAt_5068e_11 rfl rfl rfl ?_
    refine U.callS (As := [.ref (adV w), .int i]) (rest := []) (st' := [.int ((STRB.getD w []).getD (ix i) 0)]) hE (m_charAtL hE hw hS hi) mic_charAtL rfl wq_m_J0_495 wq_t_yJ1_charAt_3b067 ⟨Nat.le_of_ble_eq_true rfl, Nat.le_of_ble_eq_true rfl⟩ (Nat.le_of_ble_eq_true rfl) dJ0_charAt_5068e_12 rfl rfl rfl ?_
    have hj : ix i < STRN.getD w 0 := Nat.not_le.mp fun q => inb_in hi (Or.inr q)
    have hj7 : ix i < 7 := Nat.lt_of_lt_of_le hj ((by decide +kernel : ∀ w, w < 6 → STRN.getD w 0 ≤ 7) w hw)
    exact U.retI rfl rfl rfl ((by decide +kernel : ∀ w, w < 6 → ∀ j, j < 7 → narrow .char (.int ((STRB.getD w []).getD j 0)) = .int ((STRB.getD w []).getD j 0)) w hw _ hj7) dJ0_charAt_5068e_15
end STRM
section STR
variable {l : Launch} {G : GG} {EX : State → Prop} {M : MI} {fr lo : Nat} {vo : Option Value} {h1 h : AH} {pc q : Nat} {lv : List (Nat × Value)} {st : List Value}
theorem U.ldcS {idx i : Nat} (hE : EXB G EX) (hdg : decode M.2.1 pc = .ok (.ldc idx, 2)) (hq : pc + 2 = q) (hi : i < 6) (hid : STRI.getD i 0 = idx) (hM : M.1.cls = RX5)
    (kk : U l G EX M fr lo vo h1 q lv (.ref (G.2.2.2 i) :: st) h) : U l G EX M fr lo vo h1 pc lv st h := by
  obtain ⟨hE, adV, fm, hS⟩ := hE
  exact V.ldcS hi hS hid hM hdg hq kk
theorem U.slen {idx w : Nat} (hE : EXB G EX) (hw : w < 6) (hml : Cond.methodLink M.1.cls idx yJ0_length_8abf5 ∈ WS) (hr : 2 ≤ fr ∧ 40 ≤ lo) (hcat : (st.map fun v => v.category).sum ≤ 8) (hdg : decode M.2.1 pc = .ok (.invokevirtual idx, 3)) (hq : pc + 3 = q)
    (kk : U l G EX M fr lo vo h1 q lv (.int (sLen w) :: st) h) : U l G EX M fr lo vo h1 pc lv (.ref (G.2.2.2 w) :: st) h := by
  obtain ⟨hE, adV, fm, hS⟩ := hE
  refine V.callK (As := []) (rest := st) hw hS hE mic_slength rfl rfl (m_slength hE hw hS) hml wq_i_yJ0_length_8abf5 wq_s_yJ0_length_8abf5 ⟨hr.1, hr.2⟩ hcat ⟨Nat.le_refl _, Nat.le_refl _⟩ hdg rfl hq ?_
  rintro _ _ ⟨rfl, rfl⟩
  exact kk
theorem U.sat {idx w : Nat} {i v : Int32} (hE : EXB G EX) (hc : sAt w i = some v) (hml : Cond.methodLink M.1.cls idx yJ0_charAt_5068e ∈ WS) (hr : 4 ≤ fr ∧ 85 ≤ lo) (hcat : (st.map fun v => v.category).sum ≤ 8) (hdg : decode M.2.1 pc = .ok (.invokevirtual idx, 3)) (hq : pc + 3 = q)
    (kk : U l G EX M fr lo vo h1 q lv (.int v :: st) h) : U l G EX M fr lo vo h1 pc lv (.int i :: .ref (G.2.2.2 w) :: st) h := by
  obtain ⟨hE, adV, fm, hS⟩ := hE
  obtain ⟨hw, hc⟩ := oG_some hc
  obtain ⟨hi, hc⟩ := oG_some hc
  have hw := of_decide_eq_true hw
  obtain rfl := Option.some.inj hc
  refine V.callK (As := [.int i]) (rest := st) hw hS hE mic_scharAt rfl rfl (m_scharAt hE hw hS hi) hml wq_i_yJ0_charAt_5068e wq_s_yJ0_charAt_5068e ⟨hr.1, hr.2⟩ hcat ⟨Nat.le_refl _, Nat.le_refl _⟩ hdg rfl hq ?_
  rintro _ _ ⟨rfl, rfl⟩
  exact kk
end STR
