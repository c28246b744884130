theorem osw {x : Int32} {a o d : Int} {r : List (Int × Int)} (h : ¬ x.toInt = a) : Op.lookupswitch.offset ((a, o) :: r) d x.toInt = Op.lookupswitch.offset r d x.toInt := by
  first
  | (simp only [Op.lookupswitch.offset]; rw [if_neg (fun e => h e.symm)])
  | (simp only [Op.lookupswitch.offset]; rw [if_neg h])
  | (simp [Op.lookupswitch.offset, h]; done)
theorem ki_m1 : Int32.ofInt (-1) = ((-1) : Int32) := by decide
theorem ki_0 : Int32.ofInt 0 = (0 : Int32) := by decide
theorem ki_1 : Int32.ofInt 1 = (1 : Int32) := by decide
theorem ki_2 : Int32.ofInt 2 = (2 : Int32) := by decide
theorem ki_3 : Int32.ofInt 3 = (3 : Int32) := by decide
theorem ki_4 : Int32.ofInt 4 = (4 : Int32) := by decide
theorem ki_5 : Int32.ofInt 5 = (5 : Int32) := by decide
theorem kl_0 : Int64.ofNat (((0 : Fin 2)) : Nat) = (0 : Int64) := by decide
theorem kl_1 : Int64.ofNat (((1 : Fin 2)) : Nat) = (1 : Int64) := by decide
theorem kb_m10 : (Int8.ofInt (-10)).toInt32 = (-10 : Int32) := by decide +kernel
theorem kb_m5 : (Int8.ofInt (-5)).toInt32 = (-5 : Int32) := by decide +kernel
theorem kb_m4 : (Int8.ofInt (-4)).toInt32 = (-4 : Int32) := by decide +kernel
theorem kb_m3 : (Int8.ofInt (-3)).toInt32 = (-3 : Int32) := by decide +kernel
theorem kb_m2 : (Int8.ofInt (-2)).toInt32 = (-2 : Int32) := by decide +kernel
theorem kb_6 : (Int8.ofInt (6)).toInt32 = (6 : Int32) := by decide +kernel
theorem kb_7 : (Int8.ofInt (7)).toInt32 = (7 : Int32) := by decide +kernel
theorem kb_8 : (Int8.ofInt (8)).toInt32 = (8 : Int32) := by decide +kernel
theorem kb_9 : (Int8.ofInt (9)).toInt32 = (9 : Int32) := by decide +kernel
theorem kb_10 : (Int8.ofInt (10)).toInt32 = (10 : Int32) := by decide +kernel
theorem kb_11 : (Int8.ofInt (11)).toInt32 = (11 : Int32) := by decide +kernel
theorem kb_12 : (Int8.ofInt (12)).toInt32 = (12 : Int32) := by decide +kernel
theorem kb_13 : (Int8.ofInt (13)).toInt32 = (13 : Int32) := by decide +kernel
theorem kb_14 : (Int8.ofInt (14)).toInt32 = (14 : Int32) := by decide +kernel
theorem kb_16 : (Int8.ofInt (16)).toInt32 = (16 : Int32) := by decide +kernel
theorem kb_19 : (Int8.ofInt (19)).toInt32 = (19 : Int32) := by decide +kernel
theorem kb_24 : (Int8.ofInt (24)).toInt32 = (24 : Int32) := by decide +kernel
theorem kb_25 : (Int8.ofInt (25)).toInt32 = (25 : Int32) := by decide +kernel
theorem kb_29 : (Int8.ofInt (29)).toInt32 = (29 : Int32) := by decide +kernel
theorem kb_30 : (Int8.ofInt (30)).toInt32 = (30 : Int32) := by decide +kernel
theorem kb_32 : (Int8.ofInt (32)).toInt32 = (32 : Int32) := by decide +kernel
theorem kb_35 : (Int8.ofInt (35)).toInt32 = (35 : Int32) := by decide +kernel
theorem kb_40 : (Int8.ofInt (40)).toInt32 = (40 : Int32) := by decide +kernel
theorem kb_46 : (Int8.ofInt (46)).toInt32 = (46 : Int32) := by decide +kernel
theorem kb_48 : (Int8.ofInt (48)).toInt32 = (48 : Int32) := by decide +kernel
theorem kb_57 : (Int8.ofInt (57)).toInt32 = (57 : Int32) := by decide +kernel
theorem kb_58 : (Int8.ofInt (58)).toInt32 = (58 : Int32) := by decide +kernel
theorem kb_59 : (Int8.ofInt (59)).toInt32 = (59 : Int32) := by decide +kernel
theorem kb_60 : (Int8.ofInt (60)).toInt32 = (60 : Int32) := by decide +kernel
theorem kb_63 : (Int8.ofInt (63)).toInt32 = (63 : Int32) := by decide +kernel
theorem kb_88 : (Int8.ofInt (88)).toInt32 = (88 : Int32) := by decide +kernel
theorem kb_97 : (Int8.ofInt (97)).toInt32 = (97 : Int32) := by decide +kernel
theorem kb_99 : (Int8.ofInt (99)).toInt32 = (99 : Int32) := by decide +kernel
theorem kb_100 : (Int8.ofInt (100)).toInt32 = (100 : Int32) := by decide +kernel
theorem kb_101 : (Int8.ofInt (101)).toInt32 = (101 : Int32) := by decide +kernel
theorem kb_102 : (Int8.ofInt (102)).toInt32 = (102 : Int32) := by decide +kernel
theorem kb_104 : (Int8.ofInt (104)).toInt32 = (104 : Int32) := by decide +kernel
theorem kb_108 : (Int8.ofInt (108)).toInt32 = (108 : Int32) := by decide +kernel
theorem kb_110 : (Int8.ofInt (110)).toInt32 = (110 : Int32) := by decide +kernel
theorem kb_111 : (Int8.ofInt (111)).toInt32 = (111 : Int32) := by decide +kernel
theorem kb_112 : (Int8.ofInt (112)).toInt32 = (112 : Int32) := by decide +kernel
theorem kb_114 : (Int8.ofInt (114)).toInt32 = (114 : Int32) := by decide +kernel
theorem kb_115 : (Int8.ofInt (115)).toInt32 = (115 : Int32) := by decide +kernel
theorem kb_116 : (Int8.ofInt (116)).toInt32 = (116 : Int32) := by decide +kernel
theorem kb_119 : (Int8.ofInt (119)).toInt32 = (119 : Int32) := by decide +kernel
theorem kb_122 : (Int8.ofInt (122)).toInt32 = (122 : Int32) := by decide +kernel
theorem kb_127 : (Int8.ofInt (127)).toInt32 = (127 : Int32) := by decide +kernel
theorem ks_136 : (Int16.ofInt (136)).toInt32 = (136 : Int32) := by decide +kernel
theorem ks_150 : (Int16.ofInt (150)).toInt32 = (150 : Int32) := by decide +kernel
theorem ks_168 : (Int16.ofInt (168)).toInt32 = (168 : Int32) := by decide +kernel
theorem ks_256 : (Int16.ofInt (256)).toInt32 = (256 : Int32) := by decide +kernel
theorem ks_304 : (Int16.ofInt (304)).toInt32 = (304 : Int32) := by decide +kernel
theorem ks_941 : (Int16.ofInt (941)).toInt32 = (941 : Int32) := by decide +kernel
theorem ks_1110 : (Int16.ofInt (1110)).toInt32 = (1110 : Int32) := by decide +kernel
theorem ks_9999 : (Int16.ofInt (9999)).toInt32 = (9999 : Int32) := by decide +kernel
abbrev mi_X2_makeEmpty : MI := (yX2_makeEmpty, cX2_makeEmpty, 1, none)
theorem mic_X2_makeEmpty : MIc mi_X2_makeEmpty 0 := ⟨⟨wq_c_yX2_makeEmpty, by decide⟩, wq_n_RX2, by decide +kernel⟩
abbrev mi_X0_makeEmpty : MI := (yX0_makeEmpty, cX0_makeEmpty, 1, none)
theorem mic_X0_makeEmpty : MIc mi_X0_makeEmpty 0 := ⟨⟨wq_c_yX0_makeEmpty, by decide⟩, wq_n_RX0, by decide +kernel⟩
abbrev mi_X8_land : MI := (yX8_land, cX8_land, 2, (some .int))
theorem mic_X8_land : MIc mi_X8_land 0 := ⟨⟨wq_c_yX8_land, by decide⟩, wq_n_RX8, by decide +kernel⟩
abbrev mi_X8_within : MI := (yX8_within, cX8_within, 3, (some .boolean))
theorem mic_X8_within : MIc mi_X8_within 3 := ⟨⟨wq_c_yX8_within, by decide⟩, wq_n_RX8, by decide +kernel⟩
abbrev mi_X8_isKind : MI := (yX8_isKind, cX8_isKind, 1, (some .boolean))
theorem mic_X8_isKind : MIc mi_X8_isKind 1 := ⟨⟨wq_c_yX8_isKind, by decide⟩, wq_n_RX8, by decide +kernel⟩
abbrev mi_X8_isCell : MI := (yX8_isCell, cX8_isCell, 1, (some .boolean))
theorem mic_X8_isCell : MIc mi_X8_isCell 1 := ⟨⟨wq_c_yX8_isCell, by decide⟩, wq_n_RX8, by decide +kernel⟩
abbrev mi_X8_isLoud : MI := (yX8_isLoud, cX8_isLoud, 1, (some .boolean))
theorem mic_X8_isLoud : MIc mi_X8_isLoud 1 := ⟨⟨wq_c_yX8_isLoud, by decide⟩, wq_n_RX8, by decide +kernel⟩
abbrev mi_X8_refuse : MI := (yX8_refuse, cX8_refuse, 2, (some .int))
theorem mic_X8_refuse : MIc mi_X8_refuse 1 := ⟨⟨wq_c_yX8_refuse, by decide⟩, wq_n_RX8, by decide +kernel⟩
abbrev mi_X2_addShow : MI := (yX2_addShow, cX2_addShow, 4, (some .int))
theorem mic_X2_addShow : MIc mi_X2_addShow 3 := ⟨⟨wq_c_yX2_addShow, by decide⟩, wq_n_RX2, by decide +kernel⟩
abbrev mi_X8_show : MI := (yX8_show, cX8_show, 4, (some .int))
theorem mic_X8_show : MIc mi_X8_show 3 := ⟨⟨wq_c_yX8_show, by decide⟩, wq_n_RX8, by decide +kernel⟩
abbrev mi_X2_addWatcher : MI := (yX2_addWatcher, cX2_addWatcher, 3, (some .int))
theorem mic_X2_addWatcher : MIc mi_X2_addWatcher 2 := ⟨⟨wq_c_yX2_addWatcher, by decide⟩, wq_n_RX2, by decide +kernel⟩
abbrev mi_X8_watcher : MI := (yX8_watcher, cX8_watcher, 3, (some .int))
theorem mic_X8_watcher : MIc mi_X8_watcher 2 := ⟨⟨wq_c_yX8_watcher, by decide⟩, wq_n_RX8, by decide +kernel⟩
abbrev mi_X5_append : MI := (yX5_append, cX5_append, 2, none)
theorem mic_X5_append : MIc mi_X5_append 1 := ⟨⟨wq_c_yX5_append, by decide⟩, wq_n_RX5, by decide +kernel⟩
abbrev mi_X8_type : MI := (yX8_type, cX8_type, 2, (some .int))
theorem mic_X8_type : MIc mi_X8_type 1 := ⟨⟨wq_c_yX8_type, by decide⟩, wq_n_RX8, by decide +kernel⟩
abbrev mi_X8_clear : MI := (yX8_clear, cX8_clear, 2, (some .int))
theorem mic_X8_clear : MIc mi_X8_clear 0 := ⟨⟨wq_c_yX8_clear, by decide⟩, wq_n_RX8, by decide +kernel⟩
abbrev mi_X5_byteAt : MI := (yX5_byteAt, cX5_byteAt, 2, (some .int))
theorem mic_X5_byteAt : MIc mi_X5_byteAt 1 := ⟨⟨wq_c_yX5_byteAt, by decide⟩, wq_n_RX5, by decide +kernel⟩
abbrev mi_X5_isLetterAt : MI := (yX5_isLetterAt, cX5_isLetterAt, 2, (some .boolean))
theorem mic_X5_isLetterAt : MIc mi_X5_isLetterAt 1 := ⟨⟨wq_c_yX5_isLetterAt, by decide⟩, wq_n_RX5, by decide +kernel⟩
abbrev mi_X5_wordEnd : MI := (yX5_wordEnd, cX5_wordEnd, 3, (some .int))
theorem mic_X5_wordEnd : MIc mi_X5_wordEnd 1 := ⟨⟨wq_c_yX5_wordEnd, by decide⟩, wq_n_RX5, by decide +kernel⟩
abbrev mi_X5_isWord : MI := (yX5_isWord, cX5_isWord, 3, (some .boolean))
theorem mic_X5_isWord : MIc mi_X5_isWord 1 := ⟨⟨wq_c_yX5_isWord, by decide⟩, wq_n_RX5, by decide +kernel⟩
abbrev mi_X5_wordNumber : MI := (yX5_wordNumber, cX5_wordNumber, 1, (some .int))
theorem mic_X5_wordNumber : MIc mi_X5_wordNumber 0 := ⟨⟨wq_c_yX5_wordNumber, by decide⟩, wq_n_RX5, by decide +kernel⟩
abbrev mi_X5_isFigureAt : MI := (yX5_isFigureAt, cX5_isFigureAt, 2, (some .boolean))
theorem mic_X5_isFigureAt : MIc mi_X5_isFigureAt 1 := ⟨⟨wq_c_yX5_isFigureAt, by decide⟩, wq_n_RX5, by decide +kernel⟩
abbrev mi_X5_takeNumber : MI := (yX5_takeNumber, cX5_takeNumber, 1, none)
theorem mic_X5_takeNumber : MIc mi_X5_takeNumber 0 := ⟨⟨wq_c_yX5_takeNumber, by decide⟩, wq_n_RX5, by decide +kernel⟩
abbrev mi_X5_advance : MI := (yX5_advance, cX5_advance, 1, none)
theorem mic_X5_advance : MIc mi_X5_advance 0 := ⟨⟨wq_c_yX5_advance, by decide⟩, wq_n_RX5, by decide +kernel⟩
abbrev mi_X5_mayStand : MI := (yX5_mayStand, cX5_mayStand, 3, (some .boolean))
theorem mic_X5_mayStand : MIc mi_X5_mayStand 3 := ⟨⟨wq_c_yX5_mayStand, by decide⟩, wq_n_RX5, by decide +kernel⟩
abbrev mi_X5_numbersBehind : MI := (yX5_numbersBehind, cX5_numbersBehind, 1, (some .int))
theorem mic_X5_numbersBehind : MIc mi_X5_numbersBehind 1 := ⟨⟨wq_c_yX5_numbersBehind, by decide⟩, wq_n_RX5, by decide +kernel⟩
abbrev mi_X5_least : MI := (yX5_least, cX5_least, 2, (some .int))
theorem mic_X5_least : MIc mi_X5_least 2 := ⟨⟨wq_c_yX5_least, by decide⟩, wq_n_RX5, by decide +kernel⟩
abbrev mi_X5_most : MI := (yX5_most, cX5_most, 3, (some .int))
theorem mic_X5_most : MIc mi_X5_most 3 := ⟨⟨wq_c_yX5_most, by decide⟩, wq_n_RX5, by decide +kernel⟩
abbrev mi_X5_takeItem : MI := (yX5_takeItem, cX5_takeItem, 4, (some .boolean))
theorem mic_X5_takeItem : MIc mi_X5_takeItem 2 := ⟨⟨wq_c_yX5_takeItem, by decide⟩, wq_n_RX5, by decide +kernel⟩
abbrev mi_X2_hasShow : MI := (yX2_hasShow, cX2_hasShow, 2, (some .boolean))
theorem mic_X2_hasShow : MIc mi_X2_hasShow 1 := ⟨⟨wq_c_yX2_hasShow, by decide⟩, wq_n_RX2, by decide +kernel⟩
abbrev mi_X2_onBits : MI := (yX2_onBits, cX2_onBits, 3, (some .int))
theorem mic_X2_onBits : MIc mi_X2_onBits 0 := ⟨⟨wq_c_yX2_onBits, by decide⟩, wq_n_RX2, by decide +kernel⟩
abbrev mi_X2_dayStep : MI := (yX2_dayStep, cX2_dayStep, 2, (some .int))
theorem mic_X2_dayStep : MIc mi_X2_dayStep 1 := ⟨⟨wq_c_yX2_dayStep, by decide⟩, wq_n_RX2, by decide +kernel⟩
abbrev mi_X8_far : MI := (yX8_far, cX8_far, 2, (some .int))
theorem mic_X8_far : MIc mi_X8_far 2 := ⟨⟨wq_c_yX8_far, by decide⟩, wq_n_RX8, by decide +kernel⟩
abbrev mi_X1_pullBy : MI := (yX1_pullBy, cX1_pullBy, 8, (some .int))
theorem mic_X1_pullBy : MIc mi_X1_pullBy 4 := ⟨⟨wq_c_yX1_pullBy, by decide⟩, wq_n_RX1, by decide +kernel⟩
abbrev mi_X2_greatestPull : MI := (yX2_greatestPull, cX2_greatestPull, 7, (some .int))
theorem mic_X2_greatestPull : MIc mi_X2_greatestPull 3 := ⟨⟨wq_c_yX2_greatestPull, by decide⟩, wq_n_RX2, by decide +kernel⟩
abbrev mi_X7_gauge : MI := (yX7_gauge, cX7_gauge, 5, none)
theorem mic_X7_gauge : MIc mi_X7_gauge 3 := ⟨⟨wq_c_yX7_gauge, by decide⟩, wq_n_RX7, by decide +kernel⟩
abbrev mi_X1_notesBy : MI := (yX1_notesBy, cX1_notesBy, 3, (some .int))
theorem mic_X1_notesBy : MIc mi_X1_notesBy 2 := ⟨⟨wq_c_yX1_notesBy, by decide⟩, wq_n_RX1, by decide +kernel⟩
abbrev mi_X1_drawnBy : MI := (yX1_drawnBy, cX1_drawnBy, 4, (some .int))
theorem mic_X1_drawnBy : MIc mi_X1_drawnBy 2 := ⟨⟨wq_c_yX1_drawnBy, by decide⟩, wq_n_RX1, by decide +kernel⟩
abbrev mi_X1_seesBy : MI := (yX1_seesBy, cX1_seesBy, 3, (some .boolean))
theorem mic_X1_seesBy : MIc mi_X1_seesBy 3 := ⟨⟨wq_c_yX1_seesBy, by decide⟩, wq_n_RX1, by decide +kernel⟩
abbrev mi_X7_witnesses : MI := (yX7_witnesses, cX7_witnesses, 5, (some .int))
theorem mic_X7_witnesses : MIc mi_X7_witnesses 2 := ⟨⟨wq_c_yX7_witnesses, by decide⟩, wq_n_RX7, by decide +kernel⟩
abbrev mi_X2_pass : MI := (yX2_pass, cX2_pass, 2, none)
theorem mic_X2_pass : MIc mi_X2_pass 1 := ⟨⟨wq_c_yX2_pass, by decide⟩, wq_n_RX2, by decide +kernel⟩
abbrev mi_X7_doingIn : MI := (yX7_doingIn, cX7_doingIn, 5, (some .int))
theorem mic_X7_doingIn : MIc mi_X7_doingIn 2 := ⟨⟨wq_c_yX7_doingIn, by decide⟩, wq_n_RX7, by decide +kernel⟩
abbrev mi_X5_carryOut : MI := (yX5_carryOut, cX5_carryOut, 3, none)
theorem mic_X5_carryOut : MIc mi_X5_carryOut 2 := ⟨⟨wq_c_yX5_carryOut, by decide⟩, wq_n_RX5, by decide +kernel⟩
abbrev mi_X5_readInto : MI := (yX5_readInto, cX5_readInto, 4, (some .int))
theorem mic_X5_readInto : MIc mi_X5_readInto 2 := ⟨⟨wq_c_yX5_readInto, by decide⟩, wq_n_RX5, by decide +kernel⟩
abbrev mi_X2_copyOf : MI := (yX2_copyOf, cX2_copyOf, 3, none)
theorem mic_X2_copyOf : MIc mi_X2_copyOf 1 := ⟨⟨wq_c_yX2_copyOf, by decide⟩, wq_n_RX2, by decide +kernel⟩
abbrev mi_X8_read : MI := (yX8_read, cX8_read, 2, (some .int))
theorem mic_X8_read : MIc mi_X8_read 0 := ⟨⟨wq_c_yX8_read, by decide⟩, wq_n_RX8, by decide +kernel⟩
abbrev mi_X3_dropOldest : MI := (yX3_dropOldest, cX3_dropOldest, 3, none)
theorem mic_X3_dropOldest : MIc mi_X3_dropOldest 0 := ⟨⟨wq_c_yX3_dropOldest, by decide⟩, wq_n_RX3, by decide +kernel⟩
abbrev mi_X3_keepAt : MI := (yX3_keepAt, cX3_keepAt, 3, none)
theorem mic_X3_keepAt : MIc mi_X3_keepAt 2 := ⟨⟨wq_c_yX3_keepAt, by decide⟩, wq_n_RX3, by decide +kernel⟩
abbrev mi_X3_push : MI := (yX3_push, cX3_push, 2, none)
theorem mic_X3_push : MIc mi_X3_push 1 := ⟨⟨wq_c_yX3_push, by decide⟩, wq_n_RX3, by decide +kernel⟩
abbrev mi_X8_does : MI := (yX8_does, cX8_does, 2, (some .int))
theorem mic_X8_does : MIc mi_X8_does 1 := ⟨⟨wq_c_yX8_does, by decide⟩, wq_n_RX8, by decide +kernel⟩
abbrev mi_X8_rest : MI := (yX8_rest, cX8_rest, 2, (some .int))
theorem mic_X8_rest : MIc mi_X8_rest 1 := ⟨⟨wq_c_yX8_rest, by decide⟩, wq_n_RX8, by decide +kernel⟩
abbrev mi_X8_moves : MI := (yX8_moves, cX8_moves, 4, (some .int))
theorem mic_X8_moves : MIc mi_X8_moves 2 := ⟨⟨wq_c_yX8_moves, by decide⟩, wq_n_RX8, by decide +kernel⟩
abbrev mi_X8_turns : MI := (yX8_turns, cX8_turns, 4, (some .int))
theorem mic_X8_turns : MIc mi_X8_turns 2 := ⟨⟨wq_c_yX8_turns, by decide⟩, wq_n_RX8, by decide +kernel⟩
abbrev mi_X2_hasWatcher : MI := (yX2_hasWatcher, cX2_hasWatcher, 2, (some .boolean))
theorem mic_X2_hasWatcher : MIc mi_X2_hasWatcher 1 := ⟨⟨wq_c_yX2_hasWatcher, by decide⟩, wq_n_RX2, by decide +kernel⟩
abbrev mi_X8_sends : MI := (yX8_sends, cX8_sends, 4, (some .int))
theorem mic_X8_sends : MIc mi_X8_sends 2 := ⟨⟨wq_c_yX8_sends, by decide⟩, wq_n_RX8, by decide +kernel⟩
abbrev mi_X3_popInto : MI := (yX3_popInto, cX3_popInto, 2, none)
theorem mic_X3_popInto : MIc mi_X3_popInto 1 := ⟨⟨wq_c_yX3_popInto, by decide⟩, wq_n_RX3, by decide +kernel⟩
abbrev mi_X8_undo : MI := (yX8_undo, cX8_undo, 1, (some .int))
theorem mic_X8_undo : MIc mi_X8_undo 0 := ⟨⟨wq_c_yX8_undo, by decide⟩, wq_n_RX8, by decide +kernel⟩
abbrev mi_X2_showPart : MI := (yX2_showPart, cX2_showPart, 3, (some .int))
theorem mic_X2_showPart : MIc mi_X2_showPart 2 := ⟨⟨wq_c_yX2_showPart, by decide⟩, wq_n_RX2, by decide +kernel⟩
abbrev mi_X8_of : MI := (yX8_of, cX8_of, 3, (some .int))
theorem mic_X8_of : MIc mi_X8_of 2 := ⟨⟨wq_c_yX8_of, by decide⟩, wq_n_RX8, by decide +kernel⟩
abbrev mi_X2_watcherPart : MI := (yX2_watcherPart, cX2_watcherPart, 3, (some .int))
theorem mic_X2_watcherPart : MIc mi_X2_watcherPart 2 := ⟨⟨wq_c_yX2_watcherPart, by decide⟩, wq_n_RX2, by decide +kernel⟩
abbrev mi_X8_about : MI := (yX8_about, cX8_about, 3, (some .int))
theorem mic_X8_about : MIc mi_X8_about 2 := ⟨⟨wq_c_yX8_about, by decide⟩, wq_n_RX8, by decide +kernel⟩
abbrev mi_X2_pullAt : MI := (yX2_pullAt, cX2_pullAt, 4, (some .int))
theorem mic_X2_pullAt : MIc mi_X2_pullAt 3 := ⟨⟨wq_c_yX2_pullAt, by decide⟩, wq_n_RX2, by decide +kernel⟩
abbrev mi_X8_pull : MI := (yX8_pull, cX8_pull, 3, (some .int))
theorem mic_X8_pull : MIc mi_X8_pull 2 := ⟨⟨wq_c_yX8_pull, by decide⟩, wq_n_RX8, by decide +kernel⟩
abbrev mi_X2_strongest : MI := (yX2_strongest, cX2_strongest, 8, (some .int))
theorem mic_X2_strongest : MIc mi_X2_strongest 3 := ⟨⟨wq_c_yX2_strongest, by decide⟩, wq_n_RX2, by decide +kernel⟩
abbrev mi_X8_drawn : MI := (yX8_drawn, cX8_drawn, 6, (some .int))
theorem mic_X8_drawn : MIc mi_X8_drawn 2 := ⟨⟨wq_c_yX8_drawn, by decide⟩, wq_n_RX8, by decide +kernel⟩
abbrev mi_X7_whoSees : MI := (yX7_whoSees, cX7_whoSees, 4, (some .int))
theorem mic_X7_whoSees : MIc mi_X7_whoSees 3 := ⟨⟨wq_c_yX7_whoSees, by decide⟩, wq_n_RX7, by decide +kernel⟩
abbrev mi_X8_sees : MI := (yX8_sees, cX8_sees, 4, (some .int))
theorem mic_X8_sees : MIc mi_X8_sees 2 := ⟨⟨wq_c_yX8_sees, by decide⟩, wq_n_RX8, by decide +kernel⟩
abbrev mi_X8_isDayStep : MI := (yX8_isDayStep, cX8_isDayStep, 1, (some .boolean))
theorem mic_X8_isDayStep : MIc mi_X8_isDayStep 1 := ⟨⟨wq_c_yX8_isDayStep, by decide⟩, wq_n_RX8, by decide +kernel⟩
abbrev mi_X8_unseen : MI := (yX8_unseen, cX8_unseen, 4, (some .int))
theorem mic_X8_unseen : MIc mi_X8_unseen 1 := ⟨⟨wq_c_yX8_unseen, by decide⟩, wq_n_RX8, by decide +kernel⟩
abbrev mi_X7_openSteps : MI := (yX7_openSteps, cX7_openSteps, 5, (some .int))
theorem mic_X7_openSteps : MIc mi_X7_openSteps 2 := ⟨⟨wq_c_yX7_openSteps, by decide⟩, wq_n_RX7, by decide +kernel⟩
abbrev mi_J6_numberOfTrailingZeros_0f7a4 : MI := (yJ6_numberOfTrailingZeros_0f7a4, cJ6_numberOfTrailingZeros_0f7a4, 2, (some .int))
theorem mic_J6_numberOfTrailingZeros_0f7a4 : MIc mi_J6_numberOfTrailingZeros_0f7a4 1 := ⟨⟨wq_c_yJ6_numberOfTrailingZeros_0f7a4, by decide⟩, wq_n_RJ6, by decide +kernel⟩
abbrev mi_X8_when : MI := (yX8_when, cX8_when, 3, (some .int))
theorem mic_X8_when : MIc mi_X8_when 1 := ⟨⟨wq_c_yX8_when, by decide⟩, wq_n_RX8, by decide +kernel⟩
abbrev mi_J6_bitCount_0f7a4 : MI := (yJ6_bitCount_0f7a4, cJ6_bitCount_0f7a4, 1, (some .int))
theorem mic_J6_bitCount_0f7a4 : MIc mi_J6_bitCount_0f7a4 1 := ⟨⟨wq_c_yJ6_bitCount_0f7a4, by decide⟩, wq_n_RJ6, by decide +kernel⟩
abbrev mi_X8_enough : MI := (yX8_enough, cX8_enough, 6, (some .int))
theorem mic_X8_enough : MIc mi_X8_enough 1 := ⟨⟨wq_c_yX8_enough, by decide⟩, wq_n_RX8, by decide +kernel⟩
abbrev mi_X7_whoSeesWithShowAt : MI := (yX7_whoSeesWithShowAt, cX7_whoSeesWithShowAt, 9, (some .int))
theorem mic_X7_whoSeesWithShowAt : MIc mi_X7_whoSeesWithShowAt 4 := ⟨⟨wq_c_yX7_whoSeesWithShowAt, by decide⟩, wq_n_RX7, by decide +kernel⟩
abbrev mi_X8_place : MI := (yX8_place, cX8_place, 8, (some .int))
theorem mic_X8_place : MIc mi_X8_place 3 := ⟨⟨wq_c_yX8_place, by decide⟩, wq_n_RX8, by decide +kernel⟩
abbrev mi_X8_planCells : MI := (yX8_planCells, cX8_planCells, 3, (some .int))
theorem mic_X8_planCells : MIc mi_X8_planCells 1 := ⟨⟨wq_c_yX8_planCells, by decide⟩, wq_n_RX8, by decide +kernel⟩
abbrev mi_X4_openAt : MI := (yX4_openAt, cX4_openAt, 3, none)
theorem mic_X4_openAt : MIc mi_X4_openAt 2 := ⟨⟨wq_c_yX4_openAt, by decide⟩, wq_n_RX4, by decide +kernel⟩
abbrev mi_X4_upTo : MI := (yX4_upTo, cX4_upTo, 1, (some .int))
theorem mic_X4_upTo : MIc mi_X4_upTo 1 := ⟨⟨wq_c_yX4_upTo, by decide⟩, wq_n_RX4, by decide +kernel⟩
abbrev mi_X4_stepsTogether : MI := (yX4_stepsTogether, cX4_stepsTogether, 5, (some .int))
theorem mic_X4_stepsTogether : MIc mi_X4_stepsTogether 2 := ⟨⟨wq_c_yX4_stepsTogether, by decide⟩, wq_n_RX4, by decide +kernel⟩
abbrev mi_X4_canFill : MI := (yX4_canFill, cX4_canFill, 4, (some .boolean))
theorem mic_X4_canFill : MIc mi_X4_canFill 2 := ⟨⟨wq_c_yX4_canFill, by decide⟩, wq_n_RX4, by decide +kernel⟩
abbrev mi_X4_soonestLast : MI := (yX4_soonestLast, cX4_soonestLast, 2, (some .int))
theorem mic_X4_soonestLast : MIc mi_X4_soonestLast 0 := ⟨⟨wq_c_yX4_soonestLast, by decide⟩, wq_n_RX4, by decide +kernel⟩
abbrev mi_X4_firstStep : MI := (yX4_firstStep, cX4_firstStep, 4, (some .int))
theorem mic_X4_firstStep : MIc mi_X4_firstStep 2 := ⟨⟨wq_c_yX4_firstStep, by decide⟩, wq_n_RX4, by decide +kernel⟩
abbrev mi_X4_stepOf : MI := (yX4_stepOf, cX4_stepOf, 6, (some .int))
theorem mic_X4_stepOf : MIc mi_X4_stepOf 2 := ⟨⟨wq_c_yX4_stepOf, by decide⟩, wq_n_RX4, by decide +kernel⟩
abbrev mi_X8_plan : MI := (yX8_plan, cX8_plan, 6, (some .int))
theorem mic_X8_plan : MIc mi_X8_plan 2 := ⟨⟨wq_c_yX8_plan, by decide⟩, wq_n_RX8, by decide +kernel⟩
abbrev mi_X8_cellsSeenFrom : MI := (yX8_cellsSeenFrom, cX8_cellsSeenFrom, 7, (some .int))
theorem mic_X8_cellsSeenFrom : MIc mi_X8_cellsSeenFrom 2 := ⟨⟨wq_c_yX8_cellsSeenFrom, by decide⟩, wq_n_RX8, by decide +kernel⟩
abbrev mi_X8_guard : MI := (yX8_guard, cX8_guard, 7, (some .int))
theorem mic_X8_guard : MIc mi_X8_guard 2 := ⟨⟨wq_c_yX8_guard, by decide⟩, wq_n_RX8, by decide +kernel⟩
abbrev mi_X6_add : MI := (yX6_add, cX6_add, 7, (some .int))
theorem mic_X6_add : MIc mi_X6_add 5 := ⟨⟨wq_c_yX6_add, by decide⟩, wq_n_RX6, by decide +kernel⟩
abbrev mi_X8_saw : MI := (yX8_saw, cX8_saw, 3, (some .int))
theorem mic_X8_saw : MIc mi_X8_saw 2 := ⟨⟨wq_c_yX8_saw, by decide⟩, wq_n_RX8, by decide +kernel⟩
abbrev mi_X6_told : MI := (yX6_told, cX6_told, 4, (some .int))
theorem mic_X6_told : MIc mi_X6_told 2 := ⟨⟨wq_c_yX6_told, by decide⟩, wq_n_RX6, by decide +kernel⟩
abbrev mi_X8_where : MI := (yX8_where, cX8_where, 4, (some .int))
theorem mic_X8_where : MIc mi_X8_where 0 := ⟨⟨wq_c_yX8_where, by decide⟩, wq_n_RX8, by decide +kernel⟩
abbrev mi_X8_isFar : MI := (yX8_isFar, cX8_isFar, 1, (some .boolean))
theorem mic_X8_isFar : MIc mi_X8_isFar 1 := ⟨⟨wq_c_yX8_isFar, by decide⟩, wq_n_RX8, by decide +kernel⟩
abbrev mi_X8_isPull : MI := (yX8_isPull, cX8_isPull, 1, (some .boolean))
theorem mic_X8_isPull : MIc mi_X8_isPull 1 := ⟨⟨wq_c_yX8_isPull, by decide⟩, wq_n_RX8, by decide +kernel⟩
abbrev mi_X8_note : MI := (yX8_note, cX8_note, 6, (some .int))
theorem mic_X8_note : MIc mi_X8_note 5 := ⟨⟨wq_c_yX8_note, by decide⟩, wq_n_RX8, by decide +kernel⟩
abbrev mi_X8_mark : MI := (yX8_mark, cX8_mark, 5, (some .int))
theorem mic_X8_mark : MIc mi_X8_mark 4 := ⟨⟨wq_c_yX8_mark, by decide⟩, wq_n_RX8, by decide +kernel⟩
abbrev mi_X8_forget : MI := (yX8_forget, cX8_forget, 4, (some .int))
theorem mic_X8_forget : MIc mi_X8_forget 1 := ⟨⟨wq_c_yX8_forget, by decide⟩, wq_n_RX8, by decide +kernel⟩
abbrev mi_X8_showKindsLeft : MI := (yX8_showKindsLeft, cX8_showKindsLeft, 7, (some .int))
theorem mic_X8_showKindsLeft : MIc mi_X8_showKindsLeft 1 := ⟨⟨wq_c_yX8_showKindsLeft, by decide⟩, wq_n_RX8, by decide +kernel⟩
abbrev mi_X8_is : MI := (yX8_is, cX8_is, 2, (some .int))
theorem mic_X8_is : MIc mi_X8_is 1 := ⟨⟨wq_c_yX8_is, by decide⟩, wq_n_RX8, by decide +kernel⟩
abbrev mi_X8_mostAlike : MI := (yX8_mostAlike, cX8_mostAlike, 9, (some .int))
theorem mic_X8_mostAlike : MIc mi_X8_mostAlike 4 := ⟨⟨wq_c_yX8_mostAlike, by decide⟩, wq_n_RX8, by decide +kernel⟩
abbrev mi_X8_look : MI := (yX8_look, cX8_look, 8, (some .int))
theorem mic_X8_look : MIc mi_X8_look 1 := ⟨⟨wq_c_yX8_look, by decide⟩, wq_n_RX8, by decide +kernel⟩
abbrev mi_X8_watcherKindsLeft : MI := (yX8_watcherKindsLeft, cX8_watcherKindsLeft, 7, (some .int))
theorem mic_X8_watcherKindsLeft : MIc mi_X8_watcherKindsLeft 1 := ⟨⟨wq_c_yX8_watcherKindsLeft, by decide⟩, wq_n_RX8, by decide +kernel⟩
abbrev mi_X8_what : MI := (yX8_what, cX8_what, 2, (some .int))
theorem mic_X8_what : MIc mi_X8_what 1 := ⟨⟨wq_c_yX8_what, by decide⟩, wq_n_RX8, by decide +kernel⟩
abbrev mi_X8_greaterPart : MI := (yX8_greaterPart, cX8_greaterPart, 5, (some .int))
theorem mic_X8_greaterPart : MIc mi_X8_greaterPart 3 := ⟨⟨wq_c_yX8_greaterPart, by decide⟩, wq_n_RX8, by decide +kernel⟩
abbrev mi_X8_tries : MI := (yX8_tries, cX8_tries, 8, (some .int))
theorem mic_X8_tries : MIc mi_X8_tries 1 := ⟨⟨wq_c_yX8_tries, by decide⟩, wq_n_RX8, by decide +kernel⟩
abbrev mi_X8_seesStanding : MI := (yX8_seesStanding, cX8_seesStanding, 5, (some .boolean))
theorem mic_X8_seesStanding : MIc mi_X8_seesStanding 3 := ⟨⟨wq_c_yX8_seesStanding, by decide⟩, wq_n_RX8, by decide +kernel⟩
abbrev mi_X8_game : MI := (yX8_game, cX8_game, 13, (some .int))
theorem mic_X8_game : MIc mi_X8_game 3 := ⟨⟨wq_c_yX8_game, by decide⟩, wq_n_RX8, by decide +kernel⟩
abbrev mi_X8_power : MI := (yX8_power, cX8_power, 6, (some .long))
theorem mic_X8_power : MIc mi_X8_power 2 := ⟨⟨wq_c_yX8_power, by decide⟩, wq_n_RX8, by decide +kernel⟩
abbrev mi_X8_oddsOf : MI := (yX8_oddsOf, cX8_oddsOf, 4, (some .long))
theorem mic_X8_oddsOf : MIc mi_X8_oddsOf 3 := ⟨⟨wq_c_yX8_oddsOf, by decide⟩, wq_n_RX8, by decide +kernel⟩
abbrev mi_X8_keepFraction : MI := (yX8_keepFraction, cX8_keepFraction, 12, none)
theorem mic_X8_keepFraction : MIc mi_X8_keepFraction 2 := ⟨⟨wq_c_yX8_keepFraction, by decide⟩, wq_n_RX8, by decide +kernel⟩
abbrev mi_X8_fails : MI := (yX8_fails, cX8_fails, 8, (some .int))
theorem mic_X8_fails : MIc mi_X8_fails 2 := ⟨⟨wq_c_yX8_fails, by decide⟩, wq_n_RX8, by decide +kernel⟩
abbrev mi_X8_years : MI := (yX8_years, cX8_years, 8, (some .int))
theorem mic_X8_years : MIc mi_X8_years 2 := ⟨⟨wq_c_yX8_years, by decide⟩, wq_n_RX8, by decide +kernel⟩
abbrev mi_X8_part : MI := (yX8_part, cX8_part, 2, (some .long))
theorem mic_X8_part : MIc mi_X8_part 1 := ⟨⟨wq_c_yX8_part, by decide⟩, wq_n_RX8, by decide +kernel⟩
abbrev mi_X8_isImage : MI := (yX8_isImage, cX8_isImage, 2, (some .boolean))
theorem mic_X8_isImage : MIc mi_X8_isImage 1 := ⟨⟨wq_c_yX8_isImage, by decide⟩, wq_n_RX8, by decide +kernel⟩
abbrev mi_X3_copyOf : MI := (yX3_copyOf, cX3_copyOf, 3, none)
theorem mic_X3_copyOf : MIc mi_X3_copyOf 1 := ⟨⟨wq_c_yX3_copyOf, by decide⟩, wq_n_RX3, by decide +kernel⟩
abbrev mi_X6_copyOf : MI := (yX6_copyOf, cX6_copyOf, 3, none)
theorem mic_X6_copyOf : MIc mi_X6_copyOf 1 := ⟨⟨wq_c_yX6_copyOf, by decide⟩, wq_n_RX6, by decide +kernel⟩
abbrev mi_X0_copyOf : MI := (yX0_copyOf, cX0_copyOf, 2, none)
theorem mic_X0_copyOf : MIc mi_X0_copyOf 1 := ⟨⟨wq_c_yX0_copyOf, by decide⟩, wq_n_RX0, by decide +kernel⟩
abbrev mi_X8_image : MI := (yX8_image, cX8_image, 2, (some .int))
theorem mic_X8_image : MIc mi_X8_image 1 := ⟨⟨wq_c_yX8_image, by decide⟩, wq_n_RX8, by decide +kernel⟩
abbrev mi_X8_from : MI := (yX8_from, cX8_from, 2, (some .int))
theorem mic_X8_from : MIc mi_X8_from 1 := ⟨⟨wq_c_yX8_from, by decide⟩, wq_n_RX8, by decide +kernel⟩
abbrev mi_X8_status : MI := (yX8_status, cX8_status, 2, (some .int))
theorem mic_X8_status : MIc mi_X8_status 1 := ⟨⟨wq_c_yX8_status, by decide⟩, wq_n_RX8, by decide +kernel⟩
abbrev mi_X2_knownTogether : MI := (yX2_knownTogether, cX2_knownTogether, 3, (some .int))
theorem mic_X2_knownTogether : MIc mi_X2_knownTogether 0 := ⟨⟨wq_c_yX2_knownTogether, by decide⟩, wq_n_RX2, by decide +kernel⟩
abbrev mi_X8_tally : MI := (yX8_tally, cX8_tally, 2, (some .int))
theorem mic_X8_tally : MIc mi_X8_tally 1 := ⟨⟨wq_c_yX8_tally, by decide⟩, wq_n_RX8, by decide +kernel⟩
abbrev mi_X8_count : MI := (yX8_count, cX8_count, 2, (some .int))
theorem mic_X8_count : MIc mi_X8_count 1 := ⟨⟨wq_c_yX8_count, by decide⟩, wq_n_RX8, by decide +kernel⟩
abbrev mi_X6_mixInto : MI := (yX6_mixInto, cX6_mixInto, 8, (some .long))
theorem mic_X6_mixInto : MIc mi_X6_mixInto 2 := ⟨⟨wq_c_yX6_mixInto, by decide⟩, wq_n_RX6, by decide +kernel⟩
abbrev mi_X8_digest : MI := (yX8_digest, cX8_digest, 5, (some .long))
theorem mic_X8_digest : MIc mi_X8_digest 0 := ⟨⟨wq_c_yX8_digest, by decide⟩, wq_n_RX8, by decide +kernel⟩
abbrev mi_X9_in : MI := (yX9_in, cX9_in, 6, (some .boolean))
theorem mic_X9_in : MIc mi_X9_in 3 := ⟨⟨wq_c_yX9_in, by decide⟩, wq_n_RX9, by decide +kernel⟩
abbrev mi_X9_bad : MI := (yX9_bad, cX9_bad, 2, (some .int))
theorem mic_X9_bad : MIc mi_X9_bad 1 := ⟨⟨wq_c_yX9_bad, by decide⟩, wq_n_RX9, by decide +kernel⟩
abbrev mi_X9_no : MI := (yX9_no, cX9_no, 1, (some .int))
theorem mic_X9_no : MIc mi_X9_no 0 := ⟨⟨wq_c_yX9_no, by decide⟩, wq_n_RX9, by decide +kernel⟩
abbrev mi_X9_full : MI := (yX9_full, cX9_full, 1, (some .int))
theorem mic_X9_full : MIc mi_X9_full 0 := ⟨⟨wq_c_yX9_full, by decide⟩, wq_n_RX9, by decide +kernel⟩
abbrev mi_X9_bits : MI := (yX9_bits, cX9_bits, 3, (some .int))
theorem mic_X9_bits : MIc mi_X9_bits 1 := ⟨⟨wq_c_yX9_bits, by decide⟩, wq_n_RX9, by decide +kernel⟩
abbrev mi_X9_has : MI := (yX9_has, cX9_has, 2, (some .boolean))
theorem mic_X9_has : MIc mi_X9_has 2 := ⟨⟨wq_c_yX9_has, by decide⟩, wq_n_RX9, by decide +kernel⟩
abbrev mi_X9_begin : MI := (yX9_begin, cX9_begin, 2, none)
theorem mic_X9_begin : MIc mi_X9_begin 1 := ⟨⟨wq_c_yX9_begin, by decide⟩, wq_n_RX9, by decide +kernel⟩
abbrev mi_X9_many : MI := (yX9_many, cX9_many, 1, (some .int))
theorem mic_X9_many : MIc mi_X9_many 0 := ⟨⟨wq_c_yX9_many, by decide⟩, wq_n_RX9, by decide +kernel⟩
abbrev mi_X9_manyWatchers : MI := (yX9_manyWatchers, cX9_manyWatchers, 1, (some .int))
theorem mic_X9_manyWatchers : MIc mi_X9_manyWatchers 0 := ⟨⟨wq_c_yX9_manyWatchers, by decide⟩, wq_n_RX9, by decide +kernel⟩
abbrev mi_X9_isShow : MI := (yX9_isShow, cX9_isShow, 2, (some .boolean))
theorem mic_X9_isShow : MIc mi_X9_isShow 1 := ⟨⟨wq_c_yX9_isShow, by decide⟩, wq_n_RX9, by decide +kernel⟩
abbrev mi_X9_isWatcher : MI := (yX9_isWatcher, cX9_isWatcher, 2, (some .boolean))
theorem mic_X9_isWatcher : MIc mi_X9_isWatcher 1 := ⟨⟨wq_c_yX9_isWatcher, by decide⟩, wq_n_RX9, by decide +kernel⟩
abbrev mi_X9_isCell : MI := (yX9_isCell, cX9_isCell, 1, (some .boolean))
theorem mic_X9_isCell : MIc mi_X9_isCell 1 := ⟨⟨wq_c_yX9_isCell, by decide⟩, wq_n_RX9, by decide +kernel⟩
abbrev mi_X9_isStep : MI := (yX9_isStep, cX9_isStep, 1, (some .boolean))
theorem mic_X9_isStep : MIc mi_X9_isStep 1 := ⟨⟨wq_c_yX9_isStep, by decide⟩, wq_n_RX9, by decide +kernel⟩
abbrev mi_X9_isFar : MI := (yX9_isFar, cX9_isFar, 1, (some .boolean))
theorem mic_X9_isFar : MIc mi_X9_isFar 1 := ⟨⟨wq_c_yX9_isFar, by decide⟩, wq_n_RX9, by decide +kernel⟩
abbrev mi_X9_land : MI := (yX9_land, cX9_land, 2, (some .int))
theorem mic_X9_land : MIc mi_X9_land 0 := ⟨⟨wq_c_yX9_land, by decide⟩, wq_n_RX9, by decide +kernel⟩
abbrev mi_X9_layShow : MI := (yX9_layShow, cX9_layShow, 5, none)
theorem mic_X9_layShow : MIc mi_X9_layShow 4 := ⟨⟨wq_c_yX9_layShow, by decide⟩, wq_n_RX9, by decide +kernel⟩
abbrev mi_X9_show : MI := (yX9_show, cX9_show, 4, (some .int))
theorem mic_X9_show : MIc mi_X9_show 3 := ⟨⟨wq_c_yX9_show, by decide⟩, wq_n_RX9, by decide +kernel⟩
abbrev mi_X9_layWatcher : MI := (yX9_layWatcher, cX9_layWatcher, 4, none)
theorem mic_X9_layWatcher : MIc mi_X9_layWatcher 3 := ⟨⟨wq_c_yX9_layWatcher, by decide⟩, wq_n_RX9, by decide +kernel⟩
abbrev mi_X9_watcher : MI := (yX9_watcher, cX9_watcher, 3, (some .int))
theorem mic_X9_watcher : MIc mi_X9_watcher 2 := ⟨⟨wq_c_yX9_watcher, by decide⟩, wq_n_RX9, by decide +kernel⟩
abbrev mi_X9_plainPull : MI := (yX9_plainPull, cX9_plainPull, 2, (some .int))
theorem mic_X9_plainPull : MIc mi_X9_plainPull 2 := ⟨⟨wq_c_yX9_plainPull, by decide⟩, wq_n_RX9, by decide +kernel⟩
abbrev mi_X9_firePull : MI := (yX9_firePull, cX9_firePull, 4, (some .int))
theorem mic_X9_firePull : MIc mi_X9_firePull 3 := ⟨⟨wq_c_yX9_firePull, by decide⟩, wq_n_RX9, by decide +kernel⟩
abbrev mi_X9_pullAs : MI := (yX9_pullAs, cX9_pullAs, 6, (some .int))
theorem mic_X9_pullAs : MIc mi_X9_pullAs 4 := ⟨⟨wq_c_yX9_pullAs, by decide⟩, wq_n_RX9, by decide +kernel⟩
abbrev mi_X9_notesAs : MI := (yX9_notesAs, cX9_notesAs, 3, (some .int))
theorem mic_X9_notesAs : MIc mi_X9_notesAs 2 := ⟨⟨wq_c_yX9_notesAs, by decide⟩, wq_n_RX9, by decide +kernel⟩
abbrev mi_X9_drawnAs : MI := (yX9_drawnAs, cX9_drawnAs, 3, (some .int))
theorem mic_X9_drawnAs : MIc mi_X9_drawnAs 2 := ⟨⟨wq_c_yX9_drawnAs, by decide⟩, wq_n_RX9, by decide +kernel⟩
abbrev mi_X9_seesAs : MI := (yX9_seesAs, cX9_seesAs, 3, (some .boolean))
theorem mic_X9_seesAs : MIc mi_X9_seesAs 3 := ⟨⟨wq_c_yX9_seesAs, by decide⟩, wq_n_RX9, by decide +kernel⟩
abbrev mi_X9_distance : MI := (yX9_distance, cX9_distance, 4, (some .int))
theorem mic_X9_distance : MIc mi_X9_distance 2 := ⟨⟨wq_c_yX9_distance, by decide⟩, wq_n_RX9, by decide +kernel⟩
abbrev mi_X9_pullAt : MI := (yX9_pullAt, cX9_pullAt, 4, (some .int))
theorem mic_X9_pullAt : MIc mi_X9_pullAt 4 := ⟨⟨wq_c_yX9_pullAt, by decide⟩, wq_n_RX9, by decide +kernel⟩
abbrev mi_X9_greatest : MI := (yX9_greatest, cX9_greatest, 7, (some .int))
theorem mic_X9_greatest : MIc mi_X9_greatest 4 := ⟨⟨wq_c_yX9_greatest, by decide⟩, wq_n_RX9, by decide +kernel⟩
abbrev mi_X9_isOn : MI := (yX9_isOn, cX9_isOn, 3, (some .int))
theorem mic_X9_isOn : MIc mi_X9_isOn 1 := ⟨⟨wq_c_yX9_isOn, by decide⟩, wq_n_RX9, by decide +kernel⟩
abbrev mi_X9_seesFrom : MI := (yX9_seesFrom, cX9_seesFrom, 6, (some .boolean))
theorem mic_X9_seesFrom : MIc mi_X9_seesFrom 6 := ⟨⟨wq_c_yX9_seesFrom, by decide⟩, wq_n_RX9, by decide +kernel⟩
abbrev mi_X9_whoSees : MI := (yX9_whoSees, cX9_whoSees, 6, (some .int))
theorem mic_X9_whoSees : MIc mi_X9_whoSees 4 := ⟨⟨wq_c_yX9_whoSees, by decide⟩, wq_n_RX9, by decide +kernel⟩
abbrev mi_X9_stepNow : MI := (yX9_stepNow, cX9_stepNow, 1, (some .int))
theorem mic_X9_stepNow : MIc mi_X9_stepNow 0 := ⟨⟨wq_c_yX9_stepNow, by decide⟩, wq_n_RX9, by decide +kernel⟩
abbrev mi_X9_keep : MI := (yX9_keep, cX9_keep, 2, none)
theorem mic_X9_keep : MIc mi_X9_keep 0 := ⟨⟨wq_c_yX9_keep, by decide⟩, wq_n_RX9, by decide +kernel⟩
abbrev mi_X9_goDoing : MI := (yX9_goDoing, cX9_goDoing, 4, (some .int))
theorem mic_X9_goDoing : MIc mi_X9_goDoing 2 := ⟨⟨wq_c_yX9_goDoing, by decide⟩, wq_n_RX9, by decide +kernel⟩
abbrev mi_X9_does : MI := (yX9_does, cX9_does, 2, (some .int))
theorem mic_X9_does : MIc mi_X9_does 1 := ⟨⟨wq_c_yX9_does, by decide⟩, wq_n_RX9, by decide +kernel⟩
abbrev mi_X9_goRest : MI := (yX9_goRest, cX9_goRest, 2, none)
theorem mic_X9_goRest : MIc mi_X9_goRest 2 := ⟨⟨wq_c_yX9_goRest, by decide⟩, wq_n_RX9, by decide +kernel⟩
abbrev mi_X9_rest : MI := (yX9_rest, cX9_rest, 2, (some .int))
theorem mic_X9_rest : MIc mi_X9_rest 1 := ⟨⟨wq_c_yX9_rest, by decide⟩, wq_n_RX9, by decide +kernel⟩
abbrev mi_X9_put : MI := (yX9_put, cX9_put, 4, (some .int))
theorem mic_X9_put : MIc mi_X9_put 2 := ⟨⟨wq_c_yX9_put, by decide⟩, wq_n_RX9, by decide +kernel⟩
abbrev mi_X9_moves : MI := (yX9_moves, cX9_moves, 3, (some .int))
theorem mic_X9_moves : MIc mi_X9_moves 2 := ⟨⟨wq_c_yX9_moves, by decide⟩, wq_n_RX9, by decide +kernel⟩
abbrev mi_X9_turns : MI := (yX9_turns, cX9_turns, 3, (some .int))
theorem mic_X9_turns : MIc mi_X9_turns 2 := ⟨⟨wq_c_yX9_turns, by decide⟩, wq_n_RX9, by decide +kernel⟩
abbrev mi_X9_sends : MI := (yX9_sends, cX9_sends, 3, (some .int))
theorem mic_X9_sends : MIc mi_X9_sends 2 := ⟨⟨wq_c_yX9_sends, by decide⟩, wq_n_RX9, by decide +kernel⟩
abbrev mi_X9_undo : MI := (yX9_undo, cX9_undo, 2, (some .int))
theorem mic_X9_undo : MIc mi_X9_undo 0 := ⟨⟨wq_c_yX9_undo, by decide⟩, wq_n_RX9, by decide +kernel⟩
abbrev mi_X9_of : MI := (yX9_of, cX9_of, 3, (some .int))
theorem mic_X9_of : MIc mi_X9_of 2 := ⟨⟨wq_c_yX9_of, by decide⟩, wq_n_RX9, by decide +kernel⟩
abbrev mi_X9_about : MI := (yX9_about, cX9_about, 3, (some .int))
theorem mic_X9_about : MIc mi_X9_about 2 := ⟨⟨wq_c_yX9_about, by decide⟩, wq_n_RX9, by decide +kernel⟩
abbrev mi_X9_pull : MI := (yX9_pull, cX9_pull, 3, (some .int))
theorem mic_X9_pull : MIc mi_X9_pull 2 := ⟨⟨wq_c_yX9_pull, by decide⟩, wq_n_RX9, by decide +kernel⟩
abbrev mi_X9_drawn : MI := (yX9_drawn, cX9_drawn, 5, (some .int))
theorem mic_X9_drawn : MIc mi_X9_drawn 2 := ⟨⟨wq_c_yX9_drawn, by decide⟩, wq_n_RX9, by decide +kernel⟩
abbrev mi_X9_sees : MI := (yX9_sees, cX9_sees, 4, (some .int))
theorem mic_X9_sees : MIc mi_X9_sees 2 := ⟨⟨wq_c_yX9_sees, by decide⟩, wq_n_RX9, by decide +kernel⟩
abbrev mi_X9_unseen : MI := (yX9_unseen, cX9_unseen, 4, (some .int))
theorem mic_X9_unseen : MIc mi_X9_unseen 1 := ⟨⟨wq_c_yX9_unseen, by decide⟩, wq_n_RX9, by decide +kernel⟩
abbrev mi_X9_isUnseenIn : MI := (yX9_isUnseenIn, cX9_isUnseenIn, 3, (some .boolean))
theorem mic_X9_isUnseenIn : MIc mi_X9_isUnseenIn 2 := ⟨⟨wq_c_yX9_isUnseenIn, by decide⟩, wq_n_RX9, by decide +kernel⟩
abbrev mi_X9_when : MI := (yX9_when, cX9_when, 3, (some .int))
theorem mic_X9_when : MIc mi_X9_when 1 := ⟨⟨wq_c_yX9_when, by decide⟩, wq_n_RX9, by decide +kernel⟩
abbrev mi_X9_enough : MI := (yX9_enough, cX9_enough, 5, (some .int))
theorem mic_X9_enough : MIc mi_X9_enough 1 := ⟨⟨wq_c_yX9_enough, by decide⟩, wq_n_RX9, by decide +kernel⟩
abbrev mi_X9_layHand : MI := (yX9_layHand, cX9_layHand, 2, none)
theorem mic_X9_layHand : MIc mi_X9_layHand 0 := ⟨⟨wq_c_yX9_layHand, by decide⟩, wq_n_RX9, by decide +kernel⟩
abbrev mi_X9_place : MI := (yX9_place, cX9_place, 8, (some .int))
theorem mic_X9_place : MIc mi_X9_place 3 := ⟨⟨wq_c_yX9_place, by decide⟩, wq_n_RX9, by decide +kernel⟩
abbrev mi_X9_layGoals : MI := (yX9_layGoals, cX9_layGoals, 5, (some .int))
theorem mic_X9_layGoals : MIc mi_X9_layGoals 1 := ⟨⟨wq_c_yX9_layGoals, by decide⟩, wq_n_RX9, by decide +kernel⟩
abbrev mi_X9_lastBy : MI := (yX9_lastBy, cX9_lastBy, 8, (some .int))
theorem mic_X9_lastBy : MIc mi_X9_lastBy 2 := ⟨⟨wq_c_yX9_lastBy, by decide⟩, wq_n_RX9, by decide +kernel⟩
abbrev mi_X9_plan : MI := (yX9_plan, cX9_plan, 9, (some .int))
theorem mic_X9_plan : MIc mi_X9_plan 2 := ⟨⟨wq_c_yX9_plan, by decide⟩, wq_n_RX9, by decide +kernel⟩
abbrev mi_X9_guard : MI := (yX9_guard, cX9_guard, 8, (some .int))
theorem mic_X9_guard : MIc mi_X9_guard 2 := ⟨⟨wq_c_yX9_guard, by decide⟩, wq_n_RX9, by decide +kernel⟩
abbrev mi_X9_saw : MI := (yX9_saw, cX9_saw, 3, (some .int))
theorem mic_X9_saw : MIc mi_X9_saw 2 := ⟨⟨wq_c_yX9_saw, by decide⟩, wq_n_RX9, by decide +kernel⟩
abbrev mi_X9_where : MI := (yX9_where, cX9_where, 5, (some .int))
theorem mic_X9_where : MIc mi_X9_where 0 := ⟨⟨wq_c_yX9_where, by decide⟩, wq_n_RX9, by decide +kernel⟩
abbrev mi_X9_note : MI := (yX9_note, cX9_note, 7, (some .int))
theorem mic_X9_note : MIc mi_X9_note 5 := ⟨⟨wq_c_yX9_note, by decide⟩, wq_n_RX9, by decide +kernel⟩
abbrev mi_X9_mark : MI := (yX9_mark, cX9_mark, 6, (some .int))
theorem mic_X9_mark : MIc mi_X9_mark 4 := ⟨⟨wq_c_yX9_mark, by decide⟩, wq_n_RX9, by decide +kernel⟩
abbrev mi_X9_forget : MI := (yX9_forget, cX9_forget, 3, (some .int))
theorem mic_X9_forget : MIc mi_X9_forget 1 := ⟨⟨wq_c_yX9_forget, by decide⟩, wq_n_RX9, by decide +kernel⟩
abbrev mi_X9_kindsOf : MI := (yX9_kindsOf, cX9_kindsOf, 7, (some .int))
theorem mic_X9_kindsOf : MIc mi_X9_kindsOf 1 := ⟨⟨wq_c_yX9_kindsOf, by decide⟩, wq_n_RX9, by decide +kernel⟩
abbrev mi_X9_is : MI := (yX9_is, cX9_is, 2, (some .int))
theorem mic_X9_is : MIc mi_X9_is 1 := ⟨⟨wq_c_yX9_is, by decide⟩, wq_n_RX9, by decide +kernel⟩
abbrev mi_X9_look : MI := (yX9_look, cX9_look, 11, (some .int))
theorem mic_X9_look : MIc mi_X9_look 1 := ⟨⟨wq_c_yX9_look, by decide⟩, wq_n_RX9, by decide +kernel⟩
abbrev mi_X9_kindsOfWatcher : MI := (yX9_kindsOfWatcher, cX9_kindsOfWatcher, 7, (some .int))
theorem mic_X9_kindsOfWatcher : MIc mi_X9_kindsOfWatcher 1 := ⟨⟨wq_c_yX9_kindsOfWatcher, by decide⟩, wq_n_RX9, by decide +kernel⟩
abbrev mi_X9_what : MI := (yX9_what, cX9_what, 2, (some .int))
theorem mic_X9_what : MIc mi_X9_what 1 := ⟨⟨wq_c_yX9_what, by decide⟩, wq_n_RX9, by decide +kernel⟩
abbrev mi_X9_tries : MI := (yX9_tries, cX9_tries, 9, (some .int))
theorem mic_X9_tries : MIc mi_X9_tries 1 := ⟨⟨wq_c_yX9_tries, by decide⟩, wq_n_RX9, by decide +kernel⟩
abbrev mi_X9_game : MI := (yX9_game, cX9_game, 8, (some .int))
theorem mic_X9_game : MIc mi_X9_game 3 := ⟨⟨wq_c_yX9_game, by decide⟩, wq_n_RX9, by decide +kernel⟩
abbrev mi_X9_fraction : MI := (yX9_fraction, cX9_fraction, 11, none)
theorem mic_X9_fraction : MIc mi_X9_fraction 2 := ⟨⟨wq_c_yX9_fraction, by decide⟩, wq_n_RX9, by decide +kernel⟩
abbrev mi_X9_fails : MI := (yX9_fails, cX9_fails, 12, (some .int))
theorem mic_X9_fails : MIc mi_X9_fails 2 := ⟨⟨wq_c_yX9_fails, by decide⟩, wq_n_RX9, by decide +kernel⟩
abbrev mi_X9_years : MI := (yX9_years, cX9_years, 7, (some .int))
theorem mic_X9_years : MIc mi_X9_years 2 := ⟨⟨wq_c_yX9_years, by decide⟩, wq_n_RX9, by decide +kernel⟩
abbrev mi_X9_type : MI := (yX9_type, cX9_type, 2, (some .int))
theorem mic_X9_type : MIc mi_X9_type 1 := ⟨⟨wq_c_yX9_type, by decide⟩, wq_n_RX9, by decide +kernel⟩
abbrev mi_X9_clear : MI := (yX9_clear, cX9_clear, 2, (some .int))
theorem mic_X9_clear : MIc mi_X9_clear 0 := ⟨⟨wq_c_yX9_clear, by decide⟩, wq_n_RX9, by decide +kernel⟩
abbrev mi_X9_isSmall : MI := (yX9_isSmall, cX9_isSmall, 1, (some .boolean))
theorem mic_X9_isSmall : MIc mi_X9_isSmall 1 := ⟨⟨wq_c_yX9_isSmall, by decide⟩, wq_n_RX9, by decide +kernel⟩
abbrev mi_X9_isFigure : MI := (yX9_isFigure, cX9_isFigure, 1, (some .boolean))
theorem mic_X9_isFigure : MIc mi_X9_isFigure 1 := ⟨⟨wq_c_yX9_isFigure, by decide⟩, wq_n_RX9, by decide +kernel⟩
abbrev mi_X9_lookAt : MI := (yX9_lookAt, cX9_lookAt, 5, none)
theorem mic_X9_lookAt : MIc mi_X9_lookAt 1 := ⟨⟨wq_c_yX9_lookAt, by decide⟩, wq_n_RX9, by decide +kernel⟩
abbrev mi_X9_goBehind : MI := (yX9_goBehind, cX9_goBehind, 1, none)
theorem mic_X9_goBehind : MIc mi_X9_goBehind 0 := ⟨⟨wq_c_yX9_goBehind, by decide⟩, wq_n_RX9, by decide +kernel⟩
abbrev mi_X9_spells : MI := (yX9_spells, cX9_spells, 10, (some .boolean))
theorem mic_X9_spells : MIc mi_X9_spells 7 := ⟨⟨wq_c_yX9_spells, by decide⟩, wq_n_RX9, by decide +kernel⟩
abbrev mi_X9_takes : MI := (yX9_takes, cX9_takes, 4, (some .boolean))
theorem mic_X9_takes : MIc mi_X9_takes 3 := ⟨⟨wq_c_yX9_takes, by decide⟩, wq_n_RX9, by decide +kernel⟩
abbrev mi_X9_takesShow : MI := (yX9_takesShow, cX9_takesShow, 1, (some .boolean))
theorem mic_X9_takesShow : MIc mi_X9_takesShow 0 := ⟨⟨wq_c_yX9_takesShow, by decide⟩, wq_n_RX9, by decide +kernel⟩
abbrev mi_X9_takesOff : MI := (yX9_takesOff, cX9_takesOff, 1, (some .boolean))
theorem mic_X9_takesOff : MIc mi_X9_takesOff 0 := ⟨⟨wq_c_yX9_takesOff, by decide⟩, wq_n_RX9, by decide +kernel⟩
abbrev mi_X9_takesWatcher : MI := (yX9_takesWatcher, cX9_takesWatcher, 1, (some .boolean))
theorem mic_X9_takesWatcher : MIc mi_X9_takesWatcher 0 := ⟨⟨wq_c_yX9_takesWatcher, by decide⟩, wq_n_RX9, by decide +kernel⟩
abbrev mi_X9_takesDo : MI := (yX9_takesDo, cX9_takesDo, 1, (some .boolean))
theorem mic_X9_takesDo : MIc mi_X9_takesDo 0 := ⟨⟨wq_c_yX9_takesDo, by decide⟩, wq_n_RX9, by decide +kernel⟩
abbrev mi_X9_takesRest : MI := (yX9_takesRest, cX9_takesRest, 1, (some .boolean))
theorem mic_X9_takesRest : MIc mi_X9_takesRest 0 := ⟨⟨wq_c_yX9_takesRest, by decide⟩, wq_n_RX9, by decide +kernel⟩
abbrev mi_X9_isWatcherWord : MI := (yX9_isWatcherWord, cX9_isWatcherWord, 3, (some .boolean))
theorem mic_X9_isWatcherWord : MIc mi_X9_isWatcherWord 0 := ⟨⟨wq_c_yX9_isWatcherWord, by decide⟩, wq_n_RX9, by decide +kernel⟩
abbrev mi_X9_takesItem : MI := (yX9_takesItem, cX9_takesItem, 1, (some .boolean))
theorem mic_X9_takesItem : MIc mi_X9_takesItem 0 := ⟨⟨wq_c_yX9_takesItem, by decide⟩, wq_n_RX9, by decide +kernel⟩
abbrev mi_X9_read : MI := (yX9_read, cX9_read, 3, (some .int))
theorem mic_X9_read : MIc mi_X9_read 0 := ⟨⟨wq_c_yX9_read, by decide⟩, wq_n_RX9, by decide +kernel⟩
abbrev mi_X9_part : MI := (yX9_part, cX9_part, 2, (some .long))
theorem mic_X9_part : MIc mi_X9_part 1 := ⟨⟨wq_c_yX9_part, by decide⟩, wq_n_RX9, by decide +kernel⟩
abbrev mi_X9_image : MI := (yX9_image, cX9_image, 3, (some .int))
theorem mic_X9_image : MIc mi_X9_image 1 := ⟨⟨wq_c_yX9_image, by decide⟩, wq_n_RX9, by decide +kernel⟩
abbrev mi_X9_from : MI := (yX9_from, cX9_from, 3, (some .int))
theorem mic_X9_from : MIc mi_X9_from 1 := ⟨⟨wq_c_yX9_from, by decide⟩, wq_n_RX9, by decide +kernel⟩
abbrev mi_X9_status : MI := (yX9_status, cX9_status, 2, (some .int))
theorem mic_X9_status : MIc mi_X9_status 1 := ⟨⟨wq_c_yX9_status, by decide⟩, wq_n_RX9, by decide +kernel⟩
abbrev mi_X9_allKnow : MI := (yX9_allKnow, cX9_allKnow, 3, (some .int))
theorem mic_X9_allKnow : MIc mi_X9_allKnow 0 := ⟨⟨wq_c_yX9_allKnow, by decide⟩, wq_n_RX9, by decide +kernel⟩
abbrev mi_X9_counted : MI := (yX9_counted, cX9_counted, 2, (some .int))
theorem mic_X9_counted : MIc mi_X9_counted 1 := ⟨⟨wq_c_yX9_counted, by decide⟩, wq_n_RX9, by decide +kernel⟩
abbrev mi_X9_count : MI := (yX9_count, cX9_count, 2, (some .int))
theorem mic_X9_count : MIc mi_X9_count 1 := ⟨⟨wq_c_yX9_count, by decide⟩, wq_n_RX9, by decide +kernel⟩
abbrev mi_X9_sums : MI := (yX9_sums, cX9_sums, 8, (some .long))
theorem mic_X9_sums : MIc mi_X9_sums 3 := ⟨⟨wq_c_yX9_sums, by decide⟩, wq_n_RX9, by decide +kernel⟩
abbrev mi_X9_digest : MI := (yX9_digest, cX9_digest, 4, (some .long))
theorem mic_X9_digest : MIc mi_X9_digest 0 := ⟨⟨wq_c_yX9_digest, by decide⟩, wq_n_RX9, by decide +kernel⟩
