-- ===== PART A: goes FIRST, ahead of the names: the tables' words, and 'selects' of the private methods out of them =====
/-- a private method of a class that the tables say can be made, by its rows of tables_1 -/
def lw_okq (q : MethodName × Nat) : Prop := (q.1.cls ≠ "java/lang/invoke/MethodHandle" ∧ q.1.cls ≠ "java/lang/invoke/VarHandle") ∧ Cond.instantiable q.1.cls q.2 ∈ tables_1 ∧ Cond.privateMethod q.1 ∈ tables_1 ∧ Cond.instanceMethod q.1 ∈ tables_1
theorem lw_p0 : lw_okq (⟨"CountyTrick", "refuse", "(I)I"⟩, 13) := ⟨⟨by decide +kernel, by decide +kernel⟩, List.mem_of_getElem? (i := 18) (by decide +kernel), List.mem_of_getElem? (i := 274) (by decide +kernel), List.mem_of_getElem? (i := 275) (by decide +kernel)⟩
theorem lw_p1 : lw_okq (⟨"CountyTrick$Reader", "advance", "()V"⟩, 8) := ⟨⟨by decide +kernel, by decide +kernel⟩, List.mem_of_getElem? (i := 160) (by decide +kernel), List.mem_of_getElem? (i := 311) (by decide +kernel), List.mem_of_getElem? (i := 312) (by decide +kernel)⟩
theorem lw_p2 : lw_okq (⟨"CountyTrick$Reader", "byteAt", "(I)I"⟩, 8) := ⟨⟨by decide +kernel, by decide +kernel⟩, List.mem_of_getElem? (i := 160) (by decide +kernel), List.mem_of_getElem? (i := 315) (by decide +kernel), List.mem_of_getElem? (i := 316) (by decide +kernel)⟩
theorem lw_p3 : lw_okq (⟨"CountyTrick$Reader", "isLetterAt", "(I)Z"⟩, 8) := ⟨⟨by decide +kernel, by decide +kernel⟩, List.mem_of_getElem? (i := 160) (by decide +kernel), List.mem_of_getElem? (i := 319) (by decide +kernel), List.mem_of_getElem? (i := 320) (by decide +kernel)⟩
theorem lw_p4 : lw_okq (⟨"CountyTrick$Reader", "wordEnd", "(I)I"⟩, 8) := ⟨⟨by decide +kernel, by decide +kernel⟩, List.mem_of_getElem? (i := 160) (by decide +kernel), List.mem_of_getElem? (i := 323) (by decide +kernel), List.mem_of_getElem? (i := 324) (by decide +kernel)⟩
theorem lw_p5 : lw_okq (⟨"CountyTrick$Reader", "wordNumber", "()I"⟩, 8) := ⟨⟨by decide +kernel, by decide +kernel⟩, List.mem_of_getElem? (i := 160) (by decide +kernel), List.mem_of_getElem? (i := 327) (by decide +kernel), List.mem_of_getElem? (i := 328) (by decide +kernel)⟩
theorem lw_p6 : lw_okq (⟨"CountyTrick$Reader", "isWord", "(Ljava/lang/String;)Z"⟩, 8) := ⟨⟨by decide +kernel, by decide +kernel⟩, List.mem_of_getElem? (i := 160) (by decide +kernel), List.mem_of_getElem? (i := 332) (by decide +kernel), List.mem_of_getElem? (i := 333) (by decide +kernel)⟩
theorem lw_p7 : lw_okq (⟨"CountyTrick$Reader", "isFigureAt", "(I)Z"⟩, 8) := ⟨⟨by decide +kernel, by decide +kernel⟩, List.mem_of_getElem? (i := 160) (by decide +kernel), List.mem_of_getElem? (i := 389) (by decide +kernel), List.mem_of_getElem? (i := 390) (by decide +kernel)⟩
theorem lw_p8 : lw_okq (⟨"CountyTrick$Reader", "takeNumber", "()V"⟩, 8) := ⟨⟨by decide +kernel, by decide +kernel⟩, List.mem_of_getElem? (i := 160) (by decide +kernel), List.mem_of_getElem? (i := 393) (by decide +kernel), List.mem_of_getElem? (i := 394) (by decide +kernel)⟩
theorem lw_p9 : lw_okq (⟨"CountyTrick$Reader", "takeItem", "(ZLCountyTrick$Land;)Z"⟩, 8) := ⟨⟨by decide +kernel, by decide +kernel⟩, List.mem_of_getElem? (i := 160) (by decide +kernel), List.mem_of_getElem? (i := 397) (by decide +kernel), List.mem_of_getElem? (i := 398) (by decide +kernel)⟩
theorem lw_p10 : lw_okq (⟨"CountyTrick$Reader", "carryOut", "(LCountyTrick$Land;LCountyTrick$Sight;)V"⟩, 8) := ⟨⟨by decide +kernel, by decide +kernel⟩, List.mem_of_getElem? (i := 160) (by decide +kernel), List.mem_of_getElem? (i := 413) (by decide +kernel), List.mem_of_getElem? (i := 414) (by decide +kernel)⟩
theorem lw_p11 : lw_okq (⟨"CountyTrick$Past", "dropOldest", "()V"⟩, 2) := ⟨⟨by decide +kernel, by decide +kernel⟩, List.mem_of_getElem? (i := 92) (by decide +kernel), List.mem_of_getElem? (i := 492) (by decide +kernel), List.mem_of_getElem? (i := 493) (by decide +kernel)⟩
theorem lw_p12 : lw_okq (⟨"CountyTrick$Past", "keepAt", "(ILCountyTrick$Land;)V"⟩, 2) := ⟨⟨by decide +kernel, by decide +kernel⟩, List.mem_of_getElem? (i := 92) (by decide +kernel), List.mem_of_getElem? (i := 496) (by decide +kernel), List.mem_of_getElem? (i := 497) (by decide +kernel)⟩
theorem lw_p13 : lw_okq (⟨"CountyTrick$Plan", "canFill", "(II)Z"⟩, 2) := ⟨⟨by decide +kernel, by decide +kernel⟩, List.mem_of_getElem? (i := 192) (by decide +kernel), List.mem_of_getElem? (i := 637) (by decide +kernel), List.mem_of_getElem? (i := 638) (by decide +kernel)⟩
theorem lw_p14 : lw_okq (⟨"CountyTrick$Plan", "stepsTogether", "(II)I"⟩, 2) := ⟨⟨by decide +kernel, by decide +kernel⟩, List.mem_of_getElem? (i := 192) (by decide +kernel), List.mem_of_getElem? (i := 642) (by decide +kernel), List.mem_of_getElem? (i := 643) (by decide +kernel)⟩
theorem lw_p15 : lw_okq (⟨"CountyTrick$Plan", "firstStep", "(II)I"⟩, 2) := ⟨⟨by decide +kernel, by decide +kernel⟩, List.mem_of_getElem? (i := 192) (by decide +kernel), List.mem_of_getElem? (i := 651) (by decide +kernel), List.mem_of_getElem? (i := 652) (by decide +kernel)⟩
def lw_privs_1 : List (MethodName × Nat) := [(⟨"CountyTrick", "refuse", "(I)I"⟩, 13), (⟨"CountyTrick$Reader", "advance", "()V"⟩, 8), (⟨"CountyTrick$Reader", "byteAt", "(I)I"⟩, 8), (⟨"CountyTrick$Reader", "isLetterAt", "(I)Z"⟩, 8), (⟨"CountyTrick$Reader", "wordEnd", "(I)I"⟩, 8), (⟨"CountyTrick$Reader", "wordNumber", "()I"⟩, 8), (⟨"CountyTrick$Reader", "isWord", "(Ljava/lang/String;)Z"⟩, 8), (⟨"CountyTrick$Reader", "isFigureAt", "(I)Z"⟩, 8), (⟨"CountyTrick$Reader", "takeNumber", "()V"⟩, 8), (⟨"CountyTrick$Reader", "takeItem", "(ZLCountyTrick$Land;)Z"⟩, 8), (⟨"CountyTrick$Reader", "carryOut", "(LCountyTrick$Land;LCountyTrick$Sight;)V"⟩, 8), (⟨"CountyTrick$Past", "dropOldest", "()V"⟩, 2), (⟨"CountyTrick$Past", "keepAt", "(ILCountyTrick$Land;)V"⟩, 2), (⟨"CountyTrick$Plan", "canFill", "(II)Z"⟩, 2), (⟨"CountyTrick$Plan", "stepsTogether", "(II)I"⟩, 2), (⟨"CountyTrick$Plan", "firstStep", "(II)I"⟩, 2)]
theorem lw_r1 : ∀ q ∈ lw_privs_1, lw_okq q := List.forall_mem_cons.mpr ⟨lw_p0, List.forall_mem_cons.mpr ⟨lw_p1, List.forall_mem_cons.mpr ⟨lw_p2, List.forall_mem_cons.mpr ⟨lw_p3, List.forall_mem_cons.mpr ⟨lw_p4, List.forall_mem_cons.mpr ⟨lw_p5, List.forall_mem_cons.mpr ⟨lw_p6, List.forall_mem_cons.mpr ⟨lw_p7, List.forall_mem_cons.mpr ⟨lw_p8, List.forall_mem_cons.mpr ⟨lw_p9, List.forall_mem_cons.mpr ⟨lw_p10, List.forall_mem_cons.mpr ⟨lw_p11, List.forall_mem_cons.mpr ⟨lw_p12, List.forall_mem_cons.mpr ⟨lw_p13, List.forall_mem_cons.mpr ⟨lw_p14, List.forall_mem_cons.mpr ⟨lw_p15, fun _ h => absurd h List.not_mem_nil⟩⟩⟩⟩⟩⟩⟩⟩⟩⟩⟩⟩⟩⟩⟩⟩
theorem lw_p16 : lw_okq (⟨"CountyTrick", "cellsSeenFrom", "(II)I"⟩, 13) := ⟨⟨by decide +kernel, by decide +kernel⟩, List.mem_of_getElem? (i := 18) (by decide +kernel), List.mem_of_getElem? (i := 659) (by decide +kernel), List.mem_of_getElem? (i := 660) (by decide +kernel)⟩
theorem lw_p17 : lw_okq (⟨"CountyTrick", "showKindsLeft", "(I)I"⟩, 13) := ⟨⟨by decide +kernel, by decide +kernel⟩, List.mem_of_getElem? (i := 18) (by decide +kernel), List.mem_of_getElem? (i := 704) (by decide +kernel), List.mem_of_getElem? (i := 705) (by decide +kernel)⟩
theorem lw_p18 : lw_okq (⟨"CountyTrick", "mostAlike", "(IIII)I"⟩, 13) := ⟨⟨by decide +kernel, by decide +kernel⟩, List.mem_of_getElem? (i := 18) (by decide +kernel), List.mem_of_getElem? (i := 713) (by decide +kernel), List.mem_of_getElem? (i := 714) (by decide +kernel)⟩
theorem lw_p19 : lw_okq (⟨"CountyTrick", "watcherKindsLeft", "(I)I"⟩, 13) := ⟨⟨by decide +kernel, by decide +kernel⟩, List.mem_of_getElem? (i := 18) (by decide +kernel), List.mem_of_getElem? (i := 722) (by decide +kernel), List.mem_of_getElem? (i := 723) (by decide +kernel)⟩
theorem lw_p20 : lw_okq (⟨"CountyTrick", "seesStanding", "(III)Z"⟩, 13) := ⟨⟨by decide +kernel, by decide +kernel⟩, List.mem_of_getElem? (i := 18) (by decide +kernel), List.mem_of_getElem? (i := 737) (by decide +kernel), List.mem_of_getElem? (i := 738) (by decide +kernel)⟩
theorem lw_p21 : lw_okq (⟨"CountyTrick", "keepFraction", "(JJ)V"⟩, 13) := ⟨⟨by decide +kernel, by decide +kernel⟩, List.mem_of_getElem? (i := 18) (by decide +kernel), List.mem_of_getElem? (i := 752) (by decide +kernel), List.mem_of_getElem? (i := 753) (by decide +kernel)⟩
theorem lw_p22 : lw_okq (⟨"CountyTrick", "isImage", "(I)Z"⟩, 13) := ⟨⟨by decide +kernel, by decide +kernel⟩, List.mem_of_getElem? (i := 18) (by decide +kernel), List.mem_of_getElem? (i := 774) (by decide +kernel), List.mem_of_getElem? (i := 775) (by decide +kernel)⟩
theorem lw_p23 : lw_okq (⟨"CountyTrick", "tally", "(I)I"⟩, 13) := ⟨⟨by decide +kernel, by decide +kernel⟩, List.mem_of_getElem? (i := 18) (by decide +kernel), List.mem_of_getElem? (i := 803) (by decide +kernel), List.mem_of_getElem? (i := 804) (by decide +kernel)⟩
theorem lw_p24 : lw_okq (⟨"CountyTrickModel", "manyWatchers", "()I"⟩, 19) := ⟨⟨by decide +kernel, by decide +kernel⟩, List.mem_of_getElem? (i := 823) (by decide +kernel), List.mem_of_getElem? (i := 894) (by decide +kernel), List.mem_of_getElem? (i := 895) (by decide +kernel)⟩
theorem lw_p25 : lw_okq (⟨"CountyTrickModel", "bad", "(I)I"⟩, 19) := ⟨⟨by decide +kernel, by decide +kernel⟩, List.mem_of_getElem? (i := 823) (by decide +kernel), List.mem_of_getElem? (i := 911) (by decide +kernel), List.mem_of_getElem? (i := 912) (by decide +kernel)⟩
theorem lw_p26 : lw_okq (⟨"CountyTrickModel", "many", "()I"⟩, 19) := ⟨⟨by decide +kernel, by decide +kernel⟩, List.mem_of_getElem? (i := 823) (by decide +kernel), List.mem_of_getElem? (i := 915) (by decide +kernel), List.mem_of_getElem? (i := 916) (by decide +kernel)⟩
theorem lw_p27 : lw_okq (⟨"CountyTrickModel", "full", "()I"⟩, 19) := ⟨⟨by decide +kernel, by decide +kernel⟩, List.mem_of_getElem? (i := 823) (by decide +kernel), List.mem_of_getElem? (i := 919) (by decide +kernel), List.mem_of_getElem? (i := 920) (by decide +kernel)⟩
theorem lw_p28 : lw_okq (⟨"CountyTrickModel", "keep", "()V"⟩, 19) := ⟨⟨by decide +kernel, by decide +kernel⟩, List.mem_of_getElem? (i := 823) (by decide +kernel), List.mem_of_getElem? (i := 937) (by decide +kernel), List.mem_of_getElem? (i := 938) (by decide +kernel)⟩
theorem lw_p29 : lw_okq (⟨"CountyTrickModel", "isShow", "(I)Z"⟩, 19) := ⟨⟨by decide +kernel, by decide +kernel⟩, List.mem_of_getElem? (i := 823) (by decide +kernel), List.mem_of_getElem? (i := 995) (by decide +kernel), List.mem_of_getElem? (i := 996) (by decide +kernel)⟩
theorem lw_p30 : lw_okq (⟨"CountyTrickModel", "put", "(II)I"⟩, 19) := ⟨⟨by decide +kernel, by decide +kernel⟩, List.mem_of_getElem? (i := 823) (by decide +kernel), List.mem_of_getElem? (i := 999) (by decide +kernel), List.mem_of_getElem? (i := 1000) (by decide +kernel)⟩
theorem lw_p31 : lw_okq (⟨"CountyTrickModel", "isWatcher", "(I)Z"⟩, 19) := ⟨⟨by decide +kernel, by decide +kernel⟩, List.mem_of_getElem? (i := 823) (by decide +kernel), List.mem_of_getElem? (i := 1011) (by decide +kernel), List.mem_of_getElem? (i := 1012) (by decide +kernel)⟩
def lw_privs_2 : List (MethodName × Nat) := [(⟨"CountyTrick", "cellsSeenFrom", "(II)I"⟩, 13), (⟨"CountyTrick", "showKindsLeft", "(I)I"⟩, 13), (⟨"CountyTrick", "mostAlike", "(IIII)I"⟩, 13), (⟨"CountyTrick", "watcherKindsLeft", "(I)I"⟩, 13), (⟨"CountyTrick", "seesStanding", "(III)Z"⟩, 13), (⟨"CountyTrick", "keepFraction", "(JJ)V"⟩, 13), (⟨"CountyTrick", "isImage", "(I)Z"⟩, 13), (⟨"CountyTrick", "tally", "(I)I"⟩, 13), (⟨"CountyTrickModel", "manyWatchers", "()I"⟩, 19), (⟨"CountyTrickModel", "bad", "(I)I"⟩, 19), (⟨"CountyTrickModel", "many", "()I"⟩, 19), (⟨"CountyTrickModel", "full", "()I"⟩, 19), (⟨"CountyTrickModel", "keep", "()V"⟩, 19), (⟨"CountyTrickModel", "isShow", "(I)Z"⟩, 19), (⟨"CountyTrickModel", "put", "(II)I"⟩, 19), (⟨"CountyTrickModel", "isWatcher", "(I)Z"⟩, 19)]
theorem lw_r2 : ∀ q ∈ lw_privs_2, lw_okq q := List.forall_mem_cons.mpr ⟨lw_p16, List.forall_mem_cons.mpr ⟨lw_p17, List.forall_mem_cons.mpr ⟨lw_p18, List.forall_mem_cons.mpr ⟨lw_p19, List.forall_mem_cons.mpr ⟨lw_p20, List.forall_mem_cons.mpr ⟨lw_p21, List.forall_mem_cons.mpr ⟨lw_p22, List.forall_mem_cons.mpr ⟨lw_p23, List.forall_mem_cons.mpr ⟨lw_p24, List.forall_mem_cons.mpr ⟨lw_p25, List.forall_mem_cons.mpr ⟨lw_p26, List.forall_mem_cons.mpr ⟨lw_p27, List.forall_mem_cons.mpr ⟨lw_p28, List.forall_mem_cons.mpr ⟨lw_p29, List.forall_mem_cons.mpr ⟨lw_p30, List.forall_mem_cons.mpr ⟨lw_p31, fun _ h => absurd h List.not_mem_nil⟩⟩⟩⟩⟩⟩⟩⟩⟩⟩⟩⟩⟩⟩⟩⟩
theorem lw_p32 : lw_okq (⟨"CountyTrickModel", "no", "()I"⟩, 19) := ⟨⟨by decide +kernel, by decide +kernel⟩, List.mem_of_getElem? (i := 823) (by decide +kernel), List.mem_of_getElem? (i := 1019) (by decide +kernel), List.mem_of_getElem? (i := 1020) (by decide +kernel)⟩
theorem lw_p33 : lw_okq (⟨"CountyTrickModel", "stepNow", "()I"⟩, 19) := ⟨⟨by decide +kernel, by decide +kernel⟩, List.mem_of_getElem? (i := 823) (by decide +kernel), List.mem_of_getElem? (i := 1037) (by decide +kernel), List.mem_of_getElem? (i := 1038) (by decide +kernel)⟩
theorem lw_p34 : lw_okq (⟨"CountyTrickModel", "isUnseenIn", "(II)Z"⟩, 19) := ⟨⟨by decide +kernel, by decide +kernel⟩, List.mem_of_getElem? (i := 823) (by decide +kernel), List.mem_of_getElem? (i := 1063) (by decide +kernel), List.mem_of_getElem? (i := 1064) (by decide +kernel)⟩
theorem lw_p35 : lw_okq (⟨"CountyTrickModel", "layHand", "()V"⟩, 19) := ⟨⟨by decide +kernel, by decide +kernel⟩, List.mem_of_getElem? (i := 823) (by decide +kernel), List.mem_of_getElem? (i := 1079) (by decide +kernel), List.mem_of_getElem? (i := 1080) (by decide +kernel)⟩
theorem lw_p36 : lw_okq (⟨"CountyTrickModel", "layGoals", "(I)I"⟩, 19) := ⟨⟨by decide +kernel, by decide +kernel⟩, List.mem_of_getElem? (i := 823) (by decide +kernel), List.mem_of_getElem? (i := 1087) (by decide +kernel), List.mem_of_getElem? (i := 1088) (by decide +kernel)⟩
theorem lw_p37 : lw_okq (⟨"CountyTrickModel", "lastBy", "(II)I"⟩, 19) := ⟨⟨by decide +kernel, by decide +kernel⟩, List.mem_of_getElem? (i := 823) (by decide +kernel), List.mem_of_getElem? (i := 1092) (by decide +kernel), List.mem_of_getElem? (i := 1093) (by decide +kernel)⟩
theorem lw_p38 : lw_okq (⟨"CountyTrickModel", "kindsOf", "(I)I"⟩, 19) := ⟨⟨by decide +kernel, by decide +kernel⟩, List.mem_of_getElem? (i := 823) (by decide +kernel), List.mem_of_getElem? (i := 1127) (by decide +kernel), List.mem_of_getElem? (i := 1128) (by decide +kernel)⟩
theorem lw_p39 : lw_okq (⟨"CountyTrickModel", "kindsOfWatcher", "(I)I"⟩, 19) := ⟨⟨by decide +kernel, by decide +kernel⟩, List.mem_of_getElem? (i := 823) (by decide +kernel), List.mem_of_getElem? (i := 1139) (by decide +kernel), List.mem_of_getElem? (i := 1140) (by decide +kernel)⟩
theorem lw_p40 : lw_okq (⟨"CountyTrickModel", "fraction", "(JJ)V"⟩, 19) := ⟨⟨by decide +kernel, by decide +kernel⟩, List.mem_of_getElem? (i := 823) (by decide +kernel), List.mem_of_getElem? (i := 1156) (by decide +kernel), List.mem_of_getElem? (i := 1157) (by decide +kernel)⟩
theorem lw_p41 : lw_okq (⟨"CountyTrickModel", "lookAt", "(I)V"⟩, 19) := ⟨⟨by decide +kernel, by decide +kernel⟩, List.mem_of_getElem? (i := 823) (by decide +kernel), List.mem_of_getElem? (i := 1184) (by decide +kernel), List.mem_of_getElem? (i := 1185) (by decide +kernel)⟩
theorem lw_p42 : lw_okq (⟨"CountyTrickModel", "spells", "(IIIIIII)Z"⟩, 19) := ⟨⟨by decide +kernel, by decide +kernel⟩, List.mem_of_getElem? (i := 823) (by decide +kernel), List.mem_of_getElem? (i := 1198) (by decide +kernel), List.mem_of_getElem? (i := 1199) (by decide +kernel)⟩
theorem lw_p43 : lw_okq (⟨"CountyTrickModel", "goBehind", "()V"⟩, 19) := ⟨⟨by decide +kernel, by decide +kernel⟩, List.mem_of_getElem? (i := 823) (by decide +kernel), List.mem_of_getElem? (i := 1202) (by decide +kernel), List.mem_of_getElem? (i := 1203) (by decide +kernel)⟩
theorem lw_p44 : lw_okq (⟨"CountyTrickModel", "takesItem", "()Z"⟩, 19) := ⟨⟨by decide +kernel, by decide +kernel⟩, List.mem_of_getElem? (i := 823) (by decide +kernel), List.mem_of_getElem? (i := 1206) (by decide +kernel), List.mem_of_getElem? (i := 1207) (by decide +kernel)⟩
theorem lw_p45 : lw_okq (⟨"CountyTrickModel", "takesShow", "()Z"⟩, 19) := ⟨⟨by decide +kernel, by decide +kernel⟩, List.mem_of_getElem? (i := 823) (by decide +kernel), List.mem_of_getElem? (i := 1210) (by decide +kernel), List.mem_of_getElem? (i := 1211) (by decide +kernel)⟩
theorem lw_p46 : lw_okq (⟨"CountyTrickModel", "takes", "(III)Z"⟩, 19) := ⟨⟨by decide +kernel, by decide +kernel⟩, List.mem_of_getElem? (i := 823) (by decide +kernel), List.mem_of_getElem? (i := 1214) (by decide +kernel), List.mem_of_getElem? (i := 1215) (by decide +kernel)⟩
theorem lw_p47 : lw_okq (⟨"CountyTrickModel", "takesOff", "()Z"⟩, 19) := ⟨⟨by decide +kernel, by decide +kernel⟩, List.mem_of_getElem? (i := 823) (by decide +kernel), List.mem_of_getElem? (i := 1218) (by decide +kernel), List.mem_of_getElem? (i := 1219) (by decide +kernel)⟩
def lw_privs_3 : List (MethodName × Nat) := [(⟨"CountyTrickModel", "no", "()I"⟩, 19), (⟨"CountyTrickModel", "stepNow", "()I"⟩, 19), (⟨"CountyTrickModel", "isUnseenIn", "(II)Z"⟩, 19), (⟨"CountyTrickModel", "layHand", "()V"⟩, 19), (⟨"CountyTrickModel", "layGoals", "(I)I"⟩, 19), (⟨"CountyTrickModel", "lastBy", "(II)I"⟩, 19), (⟨"CountyTrickModel", "kindsOf", "(I)I"⟩, 19), (⟨"CountyTrickModel", "kindsOfWatcher", "(I)I"⟩, 19), (⟨"CountyTrickModel", "fraction", "(JJ)V"⟩, 19), (⟨"CountyTrickModel", "lookAt", "(I)V"⟩, 19), (⟨"CountyTrickModel", "spells", "(IIIIIII)Z"⟩, 19), (⟨"CountyTrickModel", "goBehind", "()V"⟩, 19), (⟨"CountyTrickModel", "takesItem", "()Z"⟩, 19), (⟨"CountyTrickModel", "takesShow", "()Z"⟩, 19), (⟨"CountyTrickModel", "takes", "(III)Z"⟩, 19), (⟨"CountyTrickModel", "takesOff", "()Z"⟩, 19)]
theorem lw_r3 : ∀ q ∈ lw_privs_3, lw_okq q := List.forall_mem_cons.mpr ⟨lw_p32, List.forall_mem_cons.mpr ⟨lw_p33, List.forall_mem_cons.mpr ⟨lw_p34, List.forall_mem_cons.mpr ⟨lw_p35, List.forall_mem_cons.mpr ⟨lw_p36, List.forall_mem_cons.mpr ⟨lw_p37, List.forall_mem_cons.mpr ⟨lw_p38, List.forall_mem_cons.mpr ⟨lw_p39, List.forall_mem_cons.mpr ⟨lw_p40, List.forall_mem_cons.mpr ⟨lw_p41, List.forall_mem_cons.mpr ⟨lw_p42, List.forall_mem_cons.mpr ⟨lw_p43, List.forall_mem_cons.mpr ⟨lw_p44, List.forall_mem_cons.mpr ⟨lw_p45, List.forall_mem_cons.mpr ⟨lw_p46, List.forall_mem_cons.mpr ⟨lw_p47, fun _ h => absurd h List.not_mem_nil⟩⟩⟩⟩⟩⟩⟩⟩⟩⟩⟩⟩⟩⟩⟩⟩
theorem lw_p48 : lw_okq (⟨"CountyTrickModel", "takesDo", "()Z"⟩, 19) := ⟨⟨by decide +kernel, by decide +kernel⟩, List.mem_of_getElem? (i := 823) (by decide +kernel), List.mem_of_getElem? (i := 1222) (by decide +kernel), List.mem_of_getElem? (i := 1223) (by decide +kernel)⟩
theorem lw_p49 : lw_okq (⟨"CountyTrickModel", "takesRest", "()Z"⟩, 19) := ⟨⟨by decide +kernel, by decide +kernel⟩, List.mem_of_getElem? (i := 823) (by decide +kernel), List.mem_of_getElem? (i := 1226) (by decide +kernel), List.mem_of_getElem? (i := 1227) (by decide +kernel)⟩
theorem lw_p50 : lw_okq (⟨"CountyTrickModel", "isWatcherWord", "()Z"⟩, 19) := ⟨⟨by decide +kernel, by decide +kernel⟩, List.mem_of_getElem? (i := 823) (by decide +kernel), List.mem_of_getElem? (i := 1230) (by decide +kernel), List.mem_of_getElem? (i := 1231) (by decide +kernel)⟩
theorem lw_p51 : lw_okq (⟨"CountyTrickModel", "takesWatcher", "()Z"⟩, 19) := ⟨⟨by decide +kernel, by decide +kernel⟩, List.mem_of_getElem? (i := 823) (by decide +kernel), List.mem_of_getElem? (i := 1234) (by decide +kernel), List.mem_of_getElem? (i := 1235) (by decide +kernel)⟩
theorem lw_p52 : lw_okq (⟨"CountyTrickModel", "counted", "(I)I"⟩, 19) := ⟨⟨by decide +kernel, by decide +kernel⟩, List.mem_of_getElem? (i := 823) (by decide +kernel), List.mem_of_getElem? (i := 1258) (by decide +kernel), List.mem_of_getElem? (i := 1259) (by decide +kernel)⟩
theorem lw_p53 : lw_okq (⟨"CountyTrickModel", "allKnow", "()I"⟩, 19) := ⟨⟨by decide +kernel, by decide +kernel⟩, List.mem_of_getElem? (i := 823) (by decide +kernel), List.mem_of_getElem? (i := 1262) (by decide +kernel), List.mem_of_getElem? (i := 1263) (by decide +kernel)⟩
theorem lw_p54 : lw_okq (⟨"CountyTrickModel", "sums", "(JII)J"⟩, 19) := ⟨⟨by decide +kernel, by decide +kernel⟩, List.mem_of_getElem? (i := 823) (by decide +kernel), List.mem_of_getElem? (i := 1272) (by decide +kernel), List.mem_of_getElem? (i := 1273) (by decide +kernel)⟩
def lw_privs_4 : List (MethodName × Nat) := [(⟨"CountyTrickModel", "takesDo", "()Z"⟩, 19), (⟨"CountyTrickModel", "takesRest", "()Z"⟩, 19), (⟨"CountyTrickModel", "isWatcherWord", "()Z"⟩, 19), (⟨"CountyTrickModel", "takesWatcher", "()Z"⟩, 19), (⟨"CountyTrickModel", "counted", "(I)I"⟩, 19), (⟨"CountyTrickModel", "allKnow", "()I"⟩, 19), (⟨"CountyTrickModel", "sums", "(JII)J"⟩, 19)]
theorem lw_r4 : ∀ q ∈ lw_privs_4, lw_okq q := List.forall_mem_cons.mpr ⟨lw_p48, List.forall_mem_cons.mpr ⟨lw_p49, List.forall_mem_cons.mpr ⟨lw_p50, List.forall_mem_cons.mpr ⟨lw_p51, List.forall_mem_cons.mpr ⟨lw_p52, List.forall_mem_cons.mpr ⟨lw_p53, List.forall_mem_cons.mpr ⟨lw_p54, fun _ h => absurd h List.not_mem_nil⟩⟩⟩⟩⟩⟩⟩
def lw_privs : List (MethodName × Nat) := lw_privs_1 ++ (lw_privs_2 ++ (lw_privs_3 ++ (lw_privs_4)))
def lw_tbl : List Cond := k2_sels lw_privs ++ tables_1
theorem lw_privs_ok : ∀ q ∈ lw_privs, lw_okq q := by
  show ∀ q ∈ lw_privs_1 ++ (lw_privs_2 ++ (lw_privs_3 ++ (lw_privs_4))), lw_okq q
  exact List.forall_mem_append.mpr ⟨lw_r1, List.forall_mem_append.mpr ⟨lw_r2, List.forall_mem_append.mpr ⟨lw_r3, lw_r4⟩⟩⟩

theorem goodIn_r {big : List Cond} (ws : List Cond) (ps : List Nat) (hp : ws = ps.filterMap (fun i => big[i]?)) (h : ws.all goodWord = true) : GoodIn big ws := by
  intro w hw
  have h1 := List.all_eq_true.mp h w hw
  rw [hp] at hw
  obtain ⟨i, -, hi⟩ := List.mem_filterMap.mp hw
  have hm : w ∈ big := by first | exact List.mem_of_getElem? hi | exact List.getElem?_mem hi
  exact ⟨hm, good_of_word h1⟩
theorem goodIn_app {big a b : List Cond} (ha : GoodIn big a) (hb : GoodIn big b) : GoodIn big (a ++ b) := fun w h => (List.mem_append.mp h).elim (ha w) (hb w)
theorem goodIn_ca {big a b : List Cond} {c : Cond} (ha : GoodIn big (c :: a)) (hb : GoodIn big b) : GoodIn big (c :: (a ++ b)) := fun w h => (List.mem_cons.mp h).elim (fun e => ha w (List.mem_cons.mpr (Or.inl e))) (fun h => (List.mem_append.mp h).elim (fun h => ha w (List.mem_cons.mpr (Or.inr h))) (hb w))
theorem goodIn_sub {big ws : List Cond} (hm : ∀ w ∈ ws, w ∈ big) (h : ws.all goodWord = true) : GoodIn big ws := fun w hw => ⟨hm w hw, good_of_word (List.all_eq_true.mp h w hw)⟩
def RX0 : String := "CountyTrick$County"
def TX0 : u_T := fun k => match k with
  | 0 => ("CountyTrick$County", "land", "LCountyTrick$Land;", true)
  | 1 => ("CountyTrick$County", "past", "LCountyTrick$Past;", true)
  | 2 => ("CountyTrick$County", "saws", "LCountyTrick$Sheet;", true)
  | 3 => ("CountyTrick$County", "notes", "LCountyTrick$Sheet;", true)
  | _ => ("CountyTrick$County", "marks", "LCountyTrick$Sheet;", true)
def tyX0 : Nat → FieldType := fun k => match k with
  | 0 => .object "CountyTrick$Land"
  | 1 => .object "CountyTrick$Past"
  | 2 => .object "CountyTrick$Sheet"
  | 3 => .object "CountyTrick$Sheet"
  | _ => .object "CountyTrick$Sheet"
abbrev wsX00 : List Cond := u_ws RX0 TX0 5
theorem nmX0 : ∀ a, a < 5 → ∀ b, b < 5 → a ≠ b → (TX0 a).2.1 ≠ (TX0 b).2.1 := by decide +kernel
theorem tyX0_ok : ∀ k, k < 5 → parseFieldDescriptor (TX0 k).2.2.1 = some (tyX0 k) := by decide +kernel
abbrev cX0_init : ByteArray := prog_2_method_1_code
def yX0_init : MethodName := ⟨RX0, "<init>", "()V"⟩
abbrev cX0_makeEmpty : ByteArray := prog_2_method_2_code
def yX0_makeEmpty : MethodName := ⟨RX0, "makeEmpty", "()V"⟩
abbrev cX0_copyOf : ByteArray := prog_2_method_3_code
def yX0_copyOf : MethodName := ⟨RX0, "copyOf", "(LCountyTrick$County;)V"⟩
def RX1 : String := "CountyTrick$Kinds"
def TX1 : u_T := fun k => match k with
  | _ => ("", "", "", false)
def tyX1 : Nat → FieldType := fun k => match k with
  | _ => .int
abbrev wsX10 : List Cond := u_ws RX1 TX1 0
theorem nmX1 : ∀ a, a < 0 → ∀ b, b < 0 → a ≠ b → (TX1 a).2.1 ≠ (TX1 b).2.1 := by decide +kernel
theorem tyX1_ok : ∀ k, k < 0 → parseFieldDescriptor (TX1 k).2.2.1 = some (tyX1 k) := by decide +kernel
abbrev cX1_pullBy : ByteArray := prog_3_method_2_code
def yX1_pullBy : MethodName := ⟨RX1, "pullBy", "(IIII)I"⟩
abbrev cX1_notesBy : ByteArray := prog_3_method_3_code
def yX1_notesBy : MethodName := ⟨RX1, "notesBy", "(II)I"⟩
abbrev cX1_drawnBy : ByteArray := prog_3_method_4_code
def yX1_drawnBy : MethodName := ⟨RX1, "drawnBy", "(II)I"⟩
abbrev cX1_seesBy : ByteArray := prog_3_method_5_code
def yX1_seesBy : MethodName := ⟨RX1, "seesBy", "(III)Z"⟩
def RX2 : String := "CountyTrick$Land"
def TX2 : u_T := fun k => match k with
  | 0 => ("CountyTrick$Land", "step", "I", false)
  | 1 => ("CountyTrick$Land", "done", "I", false)
  | 2 => ("CountyTrick$Land", "shows", "I", false)
  | 3 => ("CountyTrick$Land", "watchers", "I", false)
  | 4 => ("CountyTrick$Land", "showKind", "[I", true)
  | 5 => ("CountyTrick$Land", "showCell", "[I", true)
  | 6 => ("CountyTrick$Land", "showLoud", "[I", true)
  | 7 => ("CountyTrick$Land", "showOn", "[I", true)
  | 8 => ("CountyTrick$Land", "watcherKind", "[I", true)
  | 9 => ("CountyTrick$Land", "watcherCell", "[I", true)
  | _ => ("CountyTrick$Land", "watcherKnows", "[I", true)
def tyX2 : Nat → FieldType := fun k => match k with
  | 0 => .int
  | 1 => .int
  | 2 => .int
  | 3 => .int
  | 4 => .array .int
  | 5 => .array .int
  | 6 => .array .int
  | 7 => .array .int
  | 8 => .array .int
  | 9 => .array .int
  | _ => .array .int
abbrev wsX20 : List Cond := u_ws RX2 TX2 11
theorem nmX2 : ∀ a, a < 11 → ∀ b, b < 11 → a ≠ b → (TX2 a).2.1 ≠ (TX2 b).2.1 := by decide +kernel
theorem tyX2_ok : ∀ k, k < 11 → parseFieldDescriptor (TX2 k).2.2.1 = some (tyX2 k) := by decide +kernel
abbrev cX2_init : ByteArray := prog_4_method_1_code
def yX2_init : MethodName := ⟨RX2, "<init>", "()V"⟩
abbrev cX2_makeEmpty : ByteArray := prog_4_method_2_code
def yX2_makeEmpty : MethodName := ⟨RX2, "makeEmpty", "()V"⟩
abbrev cX2_copyOf : ByteArray := prog_4_method_3_code
def yX2_copyOf : MethodName := ⟨RX2, "copyOf", "(LCountyTrick$Land;)V"⟩
abbrev cX2_hasShow : ByteArray := prog_4_method_4_code
def yX2_hasShow : MethodName := ⟨RX2, "hasShow", "(I)Z"⟩
abbrev cX2_hasWatcher : ByteArray := prog_4_method_5_code
def yX2_hasWatcher : MethodName := ⟨RX2, "hasWatcher", "(I)Z"⟩
abbrev cX2_addShow : ByteArray := prog_4_method_6_code
def yX2_addShow : MethodName := ⟨RX2, "addShow", "(III)I"⟩
abbrev cX2_addWatcher : ByteArray := prog_4_method_7_code
def yX2_addWatcher : MethodName := ⟨RX2, "addWatcher", "(II)I"⟩
abbrev cX2_showPart : ByteArray := prog_4_method_8_code
def yX2_showPart : MethodName := ⟨RX2, "showPart", "(II)I"⟩
abbrev cX2_watcherPart : ByteArray := prog_4_method_9_code
def yX2_watcherPart : MethodName := ⟨RX2, "watcherPart", "(II)I"⟩
abbrev cX2_onBits : ByteArray := prog_4_method_10_code
def yX2_onBits : MethodName := ⟨RX2, "onBits", "()I"⟩
abbrev cX2_knownTogether : ByteArray := prog_4_method_11_code
def yX2_knownTogether : MethodName := ⟨RX2, "knownTogether", "()I"⟩
abbrev cX2_dayStep : ByteArray := prog_4_method_12_code
def yX2_dayStep : MethodName := ⟨RX2, "dayStep", "(I)I"⟩
abbrev cX2_pass : ByteArray := prog_4_method_13_code
def yX2_pass : MethodName := ⟨RX2, "pass", "(I)V"⟩
abbrev cX2_pullAt : ByteArray := prog_4_method_14_code
def yX2_pullAt : MethodName := ⟨RX2, "pullAt", "(III)I"⟩
abbrev cX2_strongest : ByteArray := prog_4_method_15_code
def yX2_strongest : MethodName := ⟨RX2, "strongest", "(III)I"⟩
abbrev cX2_greatestPull : ByteArray := prog_4_method_16_code
def yX2_greatestPull : MethodName := ⟨RX2, "greatestPull", "(III)I"⟩
def RX3 : String := "CountyTrick$Past"
def TX3 : u_T := fun k => match k with
  | 0 => ("CountyTrick$Past", "lands", "[LCountyTrick$Land;", true)
  | _ => ("CountyTrick$Past", "size", "I", false)
def tyX3 : Nat → FieldType := fun k => match k with
  | 0 => .array (.object "CountyTrick$Land")
  | _ => .int
abbrev wsX30 : List Cond := u_ws RX3 TX3 2
theorem nmX3 : ∀ a, a < 2 → ∀ b, b < 2 → a ≠ b → (TX3 a).2.1 ≠ (TX3 b).2.1 := by decide +kernel
theorem tyX3_ok : ∀ k, k < 2 → parseFieldDescriptor (TX3 k).2.2.1 = some (tyX3 k) := by decide +kernel
abbrev cX3_init : ByteArray := prog_5_method_1_code
def yX3_init : MethodName := ⟨RX3, "<init>", "()V"⟩
abbrev cX3_push : ByteArray := prog_5_method_2_code
def yX3_push : MethodName := ⟨RX3, "push", "(LCountyTrick$Land;)V"⟩
abbrev cX3_dropOldest : ByteArray := prog_5_method_3_code
def yX3_dropOldest : MethodName := ⟨RX3, "dropOldest", "()V"⟩
abbrev cX3_keepAt : ByteArray := prog_5_method_4_code
def yX3_keepAt : MethodName := ⟨RX3, "keepAt", "(ILCountyTrick$Land;)V"⟩
abbrev cX3_popInto : ByteArray := prog_5_method_5_code
def yX3_popInto : MethodName := ⟨RX3, "popInto", "(LCountyTrick$Land;)V"⟩
abbrev cX3_copyOf : ByteArray := prog_5_method_6_code
def yX3_copyOf : MethodName := ⟨RX3, "copyOf", "(LCountyTrick$Past;)V"⟩
def RX4 : String := "CountyTrick$Plan"
def TX4 : u_T := fun k => match k with
  | 0 => ("CountyTrick$Plan", "open", "[I", true)
  | _ => ("CountyTrick$Plan", "cells", "I", false)
def tyX4 : Nat → FieldType := fun k => match k with
  | 0 => .array .int
  | _ => .int
abbrev wsX40 : List Cond := u_ws RX4 TX4 2
theorem nmX4 : ∀ a, a < 2 → ∀ b, b < 2 → a ≠ b → (TX4 a).2.1 ≠ (TX4 b).2.1 := by decide +kernel
theorem tyX4_ok : ∀ k, k < 2 → parseFieldDescriptor (TX4 k).2.2.1 = some (tyX4 k) := by decide +kernel
abbrev cX4_init : ByteArray := prog_6_method_1_code
def yX4_init : MethodName := ⟨RX4, "<init>", "()V"⟩
abbrev cX4_openAt : ByteArray := prog_6_method_2_code
def yX4_openAt : MethodName := ⟨RX4, "openAt", "(II)V"⟩
abbrev cX4_soonestLast : ByteArray := prog_6_method_3_code
def yX4_soonestLast : MethodName := ⟨RX4, "soonestLast", "()I"⟩
abbrev cX4_stepOf : ByteArray := prog_6_method_4_code
def yX4_stepOf : MethodName := ⟨RX4, "stepOf", "(II)I"⟩
abbrev cX4_firstStep : ByteArray := prog_6_method_5_code
def yX4_firstStep : MethodName := ⟨RX4, "firstStep", "(II)I"⟩
abbrev cX4_upTo : ByteArray := prog_6_method_6_code
def yX4_upTo : MethodName := ⟨RX4, "upTo", "(I)I"⟩
abbrev cX4_canFill : ByteArray := prog_6_method_7_code
def yX4_canFill : MethodName := ⟨RX4, "canFill", "(II)Z"⟩
abbrev cX4_stepsTogether : ByteArray := prog_6_method_8_code
def yX4_stepsTogether : MethodName := ⟨RX4, "stepsTogether", "(II)I"⟩
def RX5 : String := "CountyTrick$Reader"
def TX5 : u_T := fun k => match k with
  | 0 => ("CountyTrick$Reader", "bytes", "[I", true)
  | 1 => ("CountyTrick$Reader", "word", "I", false)
  | 2 => ("CountyTrick$Reader", "numbers", "[I", true)
  | 3 => ("CountyTrick$Reader", "length", "I", false)
  | 4 => ("CountyTrick$Reader", "at", "I", false)
  | 5 => ("CountyTrick$Reader", "sort", "I", false)
  | 6 => ("CountyTrick$Reader", "begin", "I", false)
  | _ => ("CountyTrick$Reader", "value", "I", false)
def tyX5 : Nat → FieldType := fun k => match k with
  | 0 => .array .int
  | 1 => .int
  | 2 => .array .int
  | 3 => .int
  | 4 => .int
  | 5 => .int
  | 6 => .int
  | _ => .int
abbrev wsX50 : List Cond := u_ws RX5 TX5 8
theorem nmX5 : ∀ a, a < 8 → ∀ b, b < 8 → a ≠ b → (TX5 a).2.1 ≠ (TX5 b).2.1 := by decide +kernel
theorem tyX5_ok : ∀ k, k < 8 → parseFieldDescriptor (TX5 k).2.2.1 = some (tyX5 k) := by decide +kernel
abbrev cX5_init : ByteArray := prog_7_method_1_code
def yX5_init : MethodName := ⟨RX5, "<init>", "()V"⟩
abbrev cX5_append : ByteArray := prog_7_method_2_code
def yX5_append : MethodName := ⟨RX5, "append", "(I)V"⟩
abbrev cX5_readInto : ByteArray := prog_7_method_3_code
def yX5_readInto : MethodName := ⟨RX5, "readInto", "(LCountyTrick$Land;LCountyTrick$Sight;)I"⟩
abbrev cX5_takeItem : ByteArray := prog_7_method_4_code
def yX5_takeItem : MethodName := ⟨RX5, "takeItem", "(ZLCountyTrick$Land;)Z"⟩
abbrev cX5_mayStand : ByteArray := prog_7_method_5_code
def yX5_mayStand : MethodName := ⟨RX5, "mayStand", "(IZLCountyTrick$Land;)Z"⟩
abbrev cX5_numbersBehind : ByteArray := prog_7_method_6_code
def yX5_numbersBehind : MethodName := ⟨RX5, "numbersBehind", "(I)I"⟩
abbrev cX5_least : ByteArray := prog_7_method_7_code
def yX5_least : MethodName := ⟨RX5, "least", "(II)I"⟩
abbrev cX5_most : ByteArray := prog_7_method_8_code
def yX5_most : MethodName := ⟨RX5, "most", "(III)I"⟩
abbrev cX5_carryOut : ByteArray := prog_7_method_9_code
def yX5_carryOut : MethodName := ⟨RX5, "carryOut", "(LCountyTrick$Land;LCountyTrick$Sight;)V"⟩
abbrev cX5_byteAt : ByteArray := prog_7_method_10_code
def yX5_byteAt : MethodName := ⟨RX5, "byteAt", "(I)I"⟩
abbrev cX5_isLetterAt : ByteArray := prog_7_method_11_code
def yX5_isLetterAt : MethodName := ⟨RX5, "isLetterAt", "(I)Z"⟩
abbrev cX5_isFigureAt : ByteArray := prog_7_method_12_code
def yX5_isFigureAt : MethodName := ⟨RX5, "isFigureAt", "(I)Z"⟩
abbrev cX5_advance : ByteArray := prog_7_method_13_code
def yX5_advance : MethodName := ⟨RX5, "advance", "()V"⟩
abbrev cX5_wordEnd : ByteArray := prog_7_method_14_code
def yX5_wordEnd : MethodName := ⟨RX5, "wordEnd", "(I)I"⟩
abbrev cX5_takeNumber : ByteArray := prog_7_method_15_code
def yX5_takeNumber : MethodName := ⟨RX5, "takeNumber", "()V"⟩
abbrev cX5_wordNumber : ByteArray := prog_7_method_16_code
def yX5_wordNumber : MethodName := ⟨RX5, "wordNumber", "()I"⟩
abbrev cX5_isWord : ByteArray := prog_7_method_17_code
def yX5_isWord : MethodName := ⟨RX5, "isWord", "(Ljava/lang/String;)Z"⟩
def RX6 : String := "CountyTrick$Sheet"
def TX6 : u_T := fun k => match k with
  | 0 => ("CountyTrick$Sheet", "numbers", "[I", true)
  | _ => ("CountyTrick$Sheet", "size", "I", false)
def tyX6 : Nat → FieldType := fun k => match k with
  | 0 => .array .int
  | _ => .int
abbrev wsX60 : List Cond := u_ws RX6 TX6 2
theorem nmX6 : ∀ a, a < 2 → ∀ b, b < 2 → a ≠ b → (TX6 a).2.1 ≠ (TX6 b).2.1 := by decide +kernel
theorem tyX6_ok : ∀ k, k < 2 → parseFieldDescriptor (TX6 k).2.2.1 = some (tyX6 k) := by decide +kernel
abbrev cX6_init : ByteArray := prog_8_method_1_code
def yX6_init : MethodName := ⟨RX6, "<init>", "()V"⟩
abbrev cX6_add : ByteArray := prog_8_method_2_code
def yX6_add : MethodName := ⟨RX6, "add", "(IIIII)I"⟩
abbrev cX6_told : ByteArray := prog_8_method_3_code
def yX6_told : MethodName := ⟨RX6, "told", "(II)I"⟩
abbrev cX6_copyOf : ByteArray := prog_8_method_4_code
def yX6_copyOf : MethodName := ⟨RX6, "copyOf", "(LCountyTrick$Sheet;)V"⟩
abbrev cX6_mixInto : ByteArray := prog_8_method_5_code
def yX6_mixInto : MethodName := ⟨RX6, "mixInto", "(JI)J"⟩
def RX7 : String := "CountyTrick$Sight"
def TX7 : u_T := fun k => match k with
  | _ => ("CountyTrick$Sight", "greatest", "[I", true)
def tyX7 : Nat → FieldType := fun k => match k with
  | _ => .array .int
abbrev wsX70 : List Cond := u_ws RX7 TX7 1
theorem nmX7 : ∀ a, a < 1 → ∀ b, b < 1 → a ≠ b → (TX7 a).2.1 ≠ (TX7 b).2.1 := by decide +kernel
theorem tyX7_ok : ∀ k, k < 1 → parseFieldDescriptor (TX7 k).2.2.1 = some (tyX7 k) := by decide +kernel
abbrev cX7_init : ByteArray := prog_9_method_1_code
def yX7_init : MethodName := ⟨RX7, "<init>", "()V"⟩
abbrev cX7_gauge : ByteArray := prog_9_method_2_code
def yX7_gauge : MethodName := ⟨RX7, "gauge", "(LCountyTrick$Land;II)V"⟩
abbrev cX7_witnesses : ByteArray := prog_9_method_3_code
def yX7_witnesses : MethodName := ⟨RX7, "witnesses", "(LCountyTrick$Land;I)I"⟩
abbrev cX7_whoSees : ByteArray := prog_9_method_4_code
def yX7_whoSees : MethodName := ⟨RX7, "whoSees", "(LCountyTrick$Land;II)I"⟩
abbrev cX7_whoSeesWithShowAt : ByteArray := prog_9_method_5_code
def yX7_whoSeesWithShowAt : MethodName := ⟨RX7, "whoSeesWithShowAt", "(LCountyTrick$Land;III)I"⟩
abbrev cX7_openSteps : ByteArray := prog_9_method_6_code
def yX7_openSteps : MethodName := ⟨RX7, "openSteps", "(LCountyTrick$Land;I)I"⟩
abbrev cX7_doingIn : ByteArray := prog_9_method_7_code
def yX7_doingIn : MethodName := ⟨RX7, "doingIn", "(LCountyTrick$Land;I)I"⟩
def RX8 : String := "CountyTrick"
def TX8 : u_T := fun k => match k with
  | 0 => ("CountyTrick", "now", "LCountyTrick$County;", true)
  | 1 => ("CountyTrick", "kept", "[LCountyTrick$County;", true)
  | 2 => ("CountyTrick", "isKept", "[Z", true)
  | 3 => ("CountyTrick", "draft", "LCountyTrick$Land;", true)
  | 4 => ("CountyTrick", "sight", "LCountyTrick$Sight;", true)
  | 5 => ("CountyTrick", "text", "LCountyTrick$Reader;", true)
  | 6 => ("CountyTrick", "course", "LCountyTrick$Plan;", true)
  | 7 => ("CountyTrick", "pulls", "[I", true)
  | 8 => ("CountyTrick", "above", "J", false)
  | 9 => ("CountyTrick", "below", "J", false)
  | 10 => ("CountyTrick", "refusedBad", "I", false)
  | 11 => ("CountyTrick", "refusedNo", "I", false)
  | _ => ("CountyTrick", "refusedFull", "I", false)
def tyX8 : Nat → FieldType := fun k => match k with
  | 0 => .object "CountyTrick$County"
  | 1 => .array (.object "CountyTrick$County")
  | 2 => .array .boolean
  | 3 => .object "CountyTrick$Land"
  | 4 => .object "CountyTrick$Sight"
  | 5 => .object "CountyTrick$Reader"
  | 6 => .object "CountyTrick$Plan"
  | 7 => .array .int
  | 8 => .long
  | 9 => .long
  | 10 => .int
  | 11 => .int
  | _ => .int
abbrev wsX80 : List Cond := u_ws RX8 TX8 13
theorem nmX8 : ∀ a, a < 13 → ∀ b, b < 13 → a ≠ b → (TX8 a).2.1 ≠ (TX8 b).2.1 := by decide +kernel
theorem tyX8_ok : ∀ k, k < 13 → parseFieldDescriptor (TX8 k).2.2.1 = some (tyX8 k) := by decide +kernel
abbrev cX8_init : ByteArray := prog_1_method_1_code
def yX8_init : MethodName := ⟨RX8, "<init>", "()V"⟩
abbrev cX8_land : ByteArray := prog_1_method_2_code
def yX8_land : MethodName := ⟨RX8, "land", "()I"⟩
abbrev cX8_show : ByteArray := prog_1_method_3_code
def yX8_show : MethodName := ⟨RX8, "show", "(III)I"⟩
abbrev cX8_watcher : ByteArray := prog_1_method_4_code
def yX8_watcher : MethodName := ⟨RX8, "watcher", "(II)I"⟩
abbrev cX8_type : ByteArray := prog_1_method_5_code
def yX8_type : MethodName := ⟨RX8, "type", "(I)I"⟩
abbrev cX8_clear : ByteArray := prog_1_method_6_code
def yX8_clear : MethodName := ⟨RX8, "clear", "()I"⟩
abbrev cX8_read : ByteArray := prog_1_method_7_code
def yX8_read : MethodName := ⟨RX8, "read", "()I"⟩
abbrev cX8_does : ByteArray := prog_1_method_8_code
def yX8_does : MethodName := ⟨RX8, "does", "(I)I"⟩
abbrev cX8_rest : ByteArray := prog_1_method_9_code
def yX8_rest : MethodName := ⟨RX8, "rest", "(I)I"⟩
abbrev cX8_moves : ByteArray := prog_1_method_10_code
def yX8_moves : MethodName := ⟨RX8, "moves", "(II)I"⟩
abbrev cX8_turns : ByteArray := prog_1_method_11_code
def yX8_turns : MethodName := ⟨RX8, "turns", "(II)I"⟩
abbrev cX8_sends : ByteArray := prog_1_method_12_code
def yX8_sends : MethodName := ⟨RX8, "sends", "(II)I"⟩
abbrev cX8_undo : ByteArray := prog_1_method_13_code
def yX8_undo : MethodName := ⟨RX8, "undo", "()I"⟩
abbrev cX8_of : ByteArray := prog_1_method_14_code
def yX8_of : MethodName := ⟨RX8, "of", "(II)I"⟩
abbrev cX8_about : ByteArray := prog_1_method_15_code
def yX8_about : MethodName := ⟨RX8, "about", "(II)I"⟩
abbrev cX8_pull : ByteArray := prog_1_method_16_code
def yX8_pull : MethodName := ⟨RX8, "pull", "(II)I"⟩
abbrev cX8_drawn : ByteArray := prog_1_method_17_code
def yX8_drawn : MethodName := ⟨RX8, "drawn", "(II)I"⟩
abbrev cX8_sees : ByteArray := prog_1_method_18_code
def yX8_sees : MethodName := ⟨RX8, "sees", "(II)I"⟩
abbrev cX8_unseen : ByteArray := prog_1_method_19_code
def yX8_unseen : MethodName := ⟨RX8, "unseen", "(I)I"⟩
abbrev cX8_when : ByteArray := prog_1_method_20_code
def yX8_when : MethodName := ⟨RX8, "when", "(I)I"⟩
abbrev cX8_enough : ByteArray := prog_1_method_21_code
def yX8_enough : MethodName := ⟨RX8, "enough", "(I)I"⟩
abbrev cX8_place : ByteArray := prog_1_method_22_code
def yX8_place : MethodName := ⟨RX8, "place", "(III)I"⟩
abbrev cX8_plan : ByteArray := prog_1_method_23_code
def yX8_plan : MethodName := ⟨RX8, "plan", "(II)I"⟩
abbrev cX8_guard : ByteArray := prog_1_method_24_code
def yX8_guard : MethodName := ⟨RX8, "guard", "(II)I"⟩
abbrev cX8_saw : ByteArray := prog_1_method_25_code
def yX8_saw : MethodName := ⟨RX8, "saw", "(II)I"⟩
abbrev cX8_where : ByteArray := prog_1_method_26_code
def yX8_where : MethodName := ⟨RX8, "where", "()I"⟩
abbrev cX8_note : ByteArray := prog_1_method_27_code
def yX8_note : MethodName := ⟨RX8, "note", "(IIIII)I"⟩
abbrev cX8_mark : ByteArray := prog_1_method_28_code
def yX8_mark : MethodName := ⟨RX8, "mark", "(IIII)I"⟩
abbrev cX8_forget : ByteArray := prog_1_method_29_code
def yX8_forget : MethodName := ⟨RX8, "forget", "(I)I"⟩
abbrev cX8_is : ByteArray := prog_1_method_30_code
def yX8_is : MethodName := ⟨RX8, "is", "(I)I"⟩
abbrev cX8_look : ByteArray := prog_1_method_31_code
def yX8_look : MethodName := ⟨RX8, "look", "(I)I"⟩
abbrev cX8_what : ByteArray := prog_1_method_32_code
def yX8_what : MethodName := ⟨RX8, "what", "(I)I"⟩
abbrev cX8_tries : ByteArray := prog_1_method_33_code
def yX8_tries : MethodName := ⟨RX8, "tries", "(I)I"⟩
abbrev cX8_game : ByteArray := prog_1_method_34_code
def yX8_game : MethodName := ⟨RX8, "game", "(III)I"⟩
abbrev cX8_fails : ByteArray := prog_1_method_35_code
def yX8_fails : MethodName := ⟨RX8, "fails", "(II)I"⟩
abbrev cX8_years : ByteArray := prog_1_method_36_code
def yX8_years : MethodName := ⟨RX8, "years", "(II)I"⟩
abbrev cX8_part : ByteArray := prog_1_method_37_code
def yX8_part : MethodName := ⟨RX8, "part", "(I)J"⟩
abbrev cX8_image : ByteArray := prog_1_method_38_code
def yX8_image : MethodName := ⟨RX8, "image", "(I)I"⟩
abbrev cX8_from : ByteArray := prog_1_method_39_code
def yX8_from : MethodName := ⟨RX8, "from", "(I)I"⟩
abbrev cX8_status : ByteArray := prog_1_method_40_code
def yX8_status : MethodName := ⟨RX8, "status", "(I)I"⟩
abbrev cX8_count : ByteArray := prog_1_method_41_code
def yX8_count : MethodName := ⟨RX8, "count", "(I)I"⟩
abbrev cX8_digest : ByteArray := prog_1_method_42_code
def yX8_digest : MethodName := ⟨RX8, "digest", "()J"⟩
abbrev cX8_within : ByteArray := prog_1_method_43_code
def yX8_within : MethodName := ⟨RX8, "within", "(III)Z"⟩
abbrev cX8_isKind : ByteArray := prog_1_method_44_code
def yX8_isKind : MethodName := ⟨RX8, "isKind", "(I)Z"⟩
abbrev cX8_isCell : ByteArray := prog_1_method_45_code
def yX8_isCell : MethodName := ⟨RX8, "isCell", "(I)Z"⟩
abbrev cX8_isLoud : ByteArray := prog_1_method_46_code
def yX8_isLoud : MethodName := ⟨RX8, "isLoud", "(I)Z"⟩
abbrev cX8_isDayStep : ByteArray := prog_1_method_47_code
def yX8_isDayStep : MethodName := ⟨RX8, "isDayStep", "(I)Z"⟩
abbrev cX8_isFar : ByteArray := prog_1_method_48_code
def yX8_isFar : MethodName := ⟨RX8, "isFar", "(I)Z"⟩
abbrev cX8_isPull : ByteArray := prog_1_method_49_code
def yX8_isPull : MethodName := ⟨RX8, "isPull", "(I)Z"⟩
abbrev cX8_isImage : ByteArray := prog_1_method_50_code
def yX8_isImage : MethodName := ⟨RX8, "isImage", "(I)Z"⟩
abbrev cX8_refuse : ByteArray := prog_1_method_51_code
def yX8_refuse : MethodName := ⟨RX8, "refuse", "(I)I"⟩
abbrev cX8_far : ByteArray := prog_1_method_52_code
def yX8_far : MethodName := ⟨RX8, "far", "(II)I"⟩
abbrev cX8_planCells : ByteArray := prog_1_method_53_code
def yX8_planCells : MethodName := ⟨RX8, "planCells", "(I)I"⟩
abbrev cX8_seesStanding : ByteArray := prog_1_method_54_code
def yX8_seesStanding : MethodName := ⟨RX8, "seesStanding", "(III)Z"⟩
abbrev cX8_cellsSeenFrom : ByteArray := prog_1_method_55_code
def yX8_cellsSeenFrom : MethodName := ⟨RX8, "cellsSeenFrom", "(II)I"⟩
abbrev cX8_showKindsLeft : ByteArray := prog_1_method_56_code
def yX8_showKindsLeft : MethodName := ⟨RX8, "showKindsLeft", "(I)I"⟩
abbrev cX8_watcherKindsLeft : ByteArray := prog_1_method_57_code
def yX8_watcherKindsLeft : MethodName := ⟨RX8, "watcherKindsLeft", "(I)I"⟩
abbrev cX8_mostAlike : ByteArray := prog_1_method_58_code
def yX8_mostAlike : MethodName := ⟨RX8, "mostAlike", "(IIII)I"⟩
abbrev cX8_greaterPart : ByteArray := prog_1_method_59_code
def yX8_greaterPart : MethodName := ⟨RX8, "greaterPart", "(III)I"⟩
abbrev cX8_power : ByteArray := prog_1_method_60_code
def yX8_power : MethodName := ⟨RX8, "power", "(JI)J"⟩
abbrev cX8_oddsOf : ByteArray := prog_1_method_61_code
def yX8_oddsOf : MethodName := ⟨RX8, "oddsOf", "(III)J"⟩
abbrev cX8_keepFraction : ByteArray := prog_1_method_62_code
def yX8_keepFraction : MethodName := ⟨RX8, "keepFraction", "(JJ)V"⟩
abbrev cX8_tally : ByteArray := prog_1_method_63_code
def yX8_tally : MethodName := ⟨RX8, "tally", "(I)I"⟩
def RX9 : String := "CountyTrickModel"
def TX9 : u_T := fun k => match k with
  | 0 => ("CountyTrickModel", "told", "[I", true)
  | 1 => ("CountyTrickModel", "kept", "[I", true)
  | 2 => ("CountyTrickModel", "isKept", "[Z", true)
  | 3 => ("CountyTrickModel", "refused", "[I", true)
  | 4 => ("CountyTrickModel", "above", "J", false)
  | 5 => ("CountyTrickModel", "below", "J", false)
  | 6 => ("CountyTrickModel", "hand", "[I", true)
  | 7 => ("CountyTrickModel", "goals", "[I", true)
  | 8 => ("CountyTrickModel", "isFree", "[Z", true)
  | 9 => ("CountyTrickModel", "steps0", "[I", true)
  | 10 => ("CountyTrickModel", "bestSteps", "[I", true)
  | 11 => ("CountyTrickModel", "bytes", "[I", true)
  | 12 => ("CountyTrickModel", "bytesLong", "I", false)
  | 13 => ("CountyTrickModel", "tokenAt", "I", false)
  | 14 => ("CountyTrickModel", "tokenLong", "I", false)
  | 15 => ("CountyTrickModel", "token", "I", false)
  | 16 => ("CountyTrickModel", "value", "I", false)
  | 17 => ("CountyTrickModel", "anew", "[I", true)
  | _ => ("CountyTrickModel", "values", "[I", true)
def tyX9 : Nat → FieldType := fun k => match k with
  | 0 => .array .int
  | 1 => .array .int
  | 2 => .array .boolean
  | 3 => .array .int
  | 4 => .long
  | 5 => .long
  | 6 => .array .int
  | 7 => .array .int
  | 8 => .array .boolean
  | 9 => .array .int
  | 10 => .array .int
  | 11 => .array .int
  | 12 => .int
  | 13 => .int
  | 14 => .int
  | 15 => .int
  | 16 => .int
  | 17 => .array .int
  | _ => .array .int
abbrev wsX90 : List Cond := u_ws RX9 TX9 19
theorem nmX9 : ∀ a, a < 19 → ∀ b, b < 19 → a ≠ b → (TX9 a).2.1 ≠ (TX9 b).2.1 := by decide +kernel
theorem tyX9_ok : ∀ k, k < 19 → parseFieldDescriptor (TX9 k).2.2.1 = some (tyX9 k) := by decide +kernel
abbrev cX9_init : ByteArray := prog_11_method_1_code
def yX9_init : MethodName := ⟨RX9, "<init>", "()V"⟩
abbrev cX9_in : ByteArray := prog_11_method_3_code
def yX9_in : MethodName := ⟨RX9, "in", "(JJJ)Z"⟩
abbrev cX9_bad : ByteArray := prog_11_method_4_code
def yX9_bad : MethodName := ⟨RX9, "bad", "(I)I"⟩
abbrev cX9_no : ByteArray := prog_11_method_5_code
def yX9_no : MethodName := ⟨RX9, "no", "()I"⟩
abbrev cX9_full : ByteArray := prog_11_method_6_code
def yX9_full : MethodName := ⟨RX9, "full", "()I"⟩
abbrev cX9_bits : ByteArray := prog_11_method_7_code
def yX9_bits : MethodName := ⟨RX9, "bits", "(I)I"⟩
abbrev cX9_has : ByteArray := prog_11_method_8_code
def yX9_has : MethodName := ⟨RX9, "has", "(II)Z"⟩
abbrev cX9_begin : ByteArray := prog_11_method_9_code
def yX9_begin : MethodName := ⟨RX9, "begin", "([I)V"⟩
abbrev cX9_many : ByteArray := prog_11_method_10_code
def yX9_many : MethodName := ⟨RX9, "many", "()I"⟩
abbrev cX9_manyWatchers : ByteArray := prog_11_method_11_code
def yX9_manyWatchers : MethodName := ⟨RX9, "manyWatchers", "()I"⟩
abbrev cX9_isShow : ByteArray := prog_11_method_12_code
def yX9_isShow : MethodName := ⟨RX9, "isShow", "(I)Z"⟩
abbrev cX9_isWatcher : ByteArray := prog_11_method_13_code
def yX9_isWatcher : MethodName := ⟨RX9, "isWatcher", "(I)Z"⟩
abbrev cX9_isCell : ByteArray := prog_11_method_14_code
def yX9_isCell : MethodName := ⟨RX9, "isCell", "(I)Z"⟩
abbrev cX9_isStep : ByteArray := prog_11_method_15_code
def yX9_isStep : MethodName := ⟨RX9, "isStep", "(I)Z"⟩
abbrev cX9_isFar : ByteArray := prog_11_method_16_code
def yX9_isFar : MethodName := ⟨RX9, "isFar", "(I)Z"⟩
abbrev cX9_land : ByteArray := prog_11_method_17_code
def yX9_land : MethodName := ⟨RX9, "land", "()I"⟩
abbrev cX9_layShow : ByteArray := prog_11_method_18_code
def yX9_layShow : MethodName := ⟨RX9, "layShow", "([IIII)V"⟩
abbrev cX9_show : ByteArray := prog_11_method_19_code
def yX9_show : MethodName := ⟨RX9, "show", "(III)I"⟩
abbrev cX9_layWatcher : ByteArray := prog_11_method_20_code
def yX9_layWatcher : MethodName := ⟨RX9, "layWatcher", "([III)V"⟩
abbrev cX9_watcher : ByteArray := prog_11_method_21_code
def yX9_watcher : MethodName := ⟨RX9, "watcher", "(II)I"⟩
abbrev cX9_plainPull : ByteArray := prog_11_method_22_code
def yX9_plainPull : MethodName := ⟨RX9, "plainPull", "(II)I"⟩
abbrev cX9_firePull : ByteArray := prog_11_method_23_code
def yX9_firePull : MethodName := ⟨RX9, "firePull", "(III)I"⟩
abbrev cX9_pullAs : ByteArray := prog_11_method_24_code
def yX9_pullAs : MethodName := ⟨RX9, "pullAs", "(IIII)I"⟩
abbrev cX9_notesAs : ByteArray := prog_11_method_25_code
def yX9_notesAs : MethodName := ⟨RX9, "notesAs", "(II)I"⟩
abbrev cX9_drawnAs : ByteArray := prog_11_method_26_code
def yX9_drawnAs : MethodName := ⟨RX9, "drawnAs", "(II)I"⟩
abbrev cX9_seesAs : ByteArray := prog_11_method_27_code
def yX9_seesAs : MethodName := ⟨RX9, "seesAs", "(III)Z"⟩
abbrev cX9_distance : ByteArray := prog_11_method_28_code
def yX9_distance : MethodName := ⟨RX9, "distance", "(II)I"⟩
abbrev cX9_pullAt : ByteArray := prog_11_method_29_code
def yX9_pullAt : MethodName := ⟨RX9, "pullAt", "([IIII)I"⟩
abbrev cX9_greatest : ByteArray := prog_11_method_30_code
def yX9_greatest : MethodName := ⟨RX9, "greatest", "([IIII)I"⟩
abbrev cX9_isOn : ByteArray := prog_11_method_31_code
def yX9_isOn : MethodName := ⟨RX9, "isOn", "([I)I"⟩
abbrev cX9_seesFrom : ByteArray := prog_11_method_32_code
def yX9_seesFrom : MethodName := ⟨RX9, "seesFrom", "([IIIIII)Z"⟩
abbrev cX9_whoSees : ByteArray := prog_11_method_33_code
def yX9_whoSees : MethodName := ⟨RX9, "whoSees", "([IIII)I"⟩
abbrev cX9_stepNow : ByteArray := prog_11_method_34_code
def yX9_stepNow : MethodName := ⟨RX9, "stepNow", "()I"⟩
abbrev cX9_keep : ByteArray := prog_11_method_35_code
def yX9_keep : MethodName := ⟨RX9, "keep", "()V"⟩
abbrev cX9_goDoing : ByteArray := prog_11_method_36_code
def yX9_goDoing : MethodName := ⟨RX9, "goDoing", "([II)I"⟩
abbrev cX9_does : ByteArray := prog_11_method_37_code
def yX9_does : MethodName := ⟨RX9, "does", "(I)I"⟩
abbrev cX9_goRest : ByteArray := prog_11_method_38_code
def yX9_goRest : MethodName := ⟨RX9, "goRest", "([II)V"⟩
abbrev cX9_rest : ByteArray := prog_11_method_39_code
def yX9_rest : MethodName := ⟨RX9, "rest", "(I)I"⟩
abbrev cX9_put : ByteArray := prog_11_method_40_code
def yX9_put : MethodName := ⟨RX9, "put", "(II)I"⟩
abbrev cX9_moves : ByteArray := prog_11_method_41_code
def yX9_moves : MethodName := ⟨RX9, "moves", "(II)I"⟩
abbrev cX9_turns : ByteArray := prog_11_method_42_code
def yX9_turns : MethodName := ⟨RX9, "turns", "(II)I"⟩
abbrev cX9_sends : ByteArray := prog_11_method_43_code
def yX9_sends : MethodName := ⟨RX9, "sends", "(II)I"⟩
abbrev cX9_undo : ByteArray := prog_11_method_44_code
def yX9_undo : MethodName := ⟨RX9, "undo", "()I"⟩
abbrev cX9_of : ByteArray := prog_11_method_45_code
def yX9_of : MethodName := ⟨RX9, "of", "(II)I"⟩
abbrev cX9_about : ByteArray := prog_11_method_46_code
def yX9_about : MethodName := ⟨RX9, "about", "(II)I"⟩
abbrev cX9_pull : ByteArray := prog_11_method_47_code
def yX9_pull : MethodName := ⟨RX9, "pull", "(II)I"⟩
abbrev cX9_drawn : ByteArray := prog_11_method_48_code
def yX9_drawn : MethodName := ⟨RX9, "drawn", "(II)I"⟩
abbrev cX9_sees : ByteArray := prog_11_method_49_code
def yX9_sees : MethodName := ⟨RX9, "sees", "(II)I"⟩
abbrev cX9_unseen : ByteArray := prog_11_method_50_code
def yX9_unseen : MethodName := ⟨RX9, "unseen", "(I)I"⟩
abbrev cX9_isUnseenIn : ByteArray := prog_11_method_51_code
def yX9_isUnseenIn : MethodName := ⟨RX9, "isUnseenIn", "(II)Z"⟩
abbrev cX9_when : ByteArray := prog_11_method_52_code
def yX9_when : MethodName := ⟨RX9, "when", "(I)I"⟩
abbrev cX9_enough : ByteArray := prog_11_method_53_code
def yX9_enough : MethodName := ⟨RX9, "enough", "(I)I"⟩
abbrev cX9_layHand : ByteArray := prog_11_method_54_code
def yX9_layHand : MethodName := ⟨RX9, "layHand", "()V"⟩
abbrev cX9_place : ByteArray := prog_11_method_55_code
def yX9_place : MethodName := ⟨RX9, "place", "(III)I"⟩
abbrev cX9_layGoals : ByteArray := prog_11_method_56_code
def yX9_layGoals : MethodName := ⟨RX9, "layGoals", "(I)I"⟩
abbrev cX9_lastBy : ByteArray := prog_11_method_57_code
def yX9_lastBy : MethodName := ⟨RX9, "lastBy", "(II)I"⟩
abbrev cX9_plan : ByteArray := prog_11_method_58_code
def yX9_plan : MethodName := ⟨RX9, "plan", "(II)I"⟩
abbrev cX9_guard : ByteArray := prog_11_method_59_code
def yX9_guard : MethodName := ⟨RX9, "guard", "(II)I"⟩
abbrev cX9_saw : ByteArray := prog_11_method_60_code
def yX9_saw : MethodName := ⟨RX9, "saw", "(II)I"⟩
abbrev cX9_where : ByteArray := prog_11_method_61_code
def yX9_where : MethodName := ⟨RX9, "where", "()I"⟩
abbrev cX9_note : ByteArray := prog_11_method_62_code
def yX9_note : MethodName := ⟨RX9, "note", "(IIIII)I"⟩
abbrev cX9_mark : ByteArray := prog_11_method_63_code
def yX9_mark : MethodName := ⟨RX9, "mark", "(IIII)I"⟩
abbrev cX9_forget : ByteArray := prog_11_method_64_code
def yX9_forget : MethodName := ⟨RX9, "forget", "(I)I"⟩
abbrev cX9_kindsOf : ByteArray := prog_11_method_65_code
def yX9_kindsOf : MethodName := ⟨RX9, "kindsOf", "(I)I"⟩
abbrev cX9_is : ByteArray := prog_11_method_66_code
def yX9_is : MethodName := ⟨RX9, "is", "(I)I"⟩
abbrev cX9_look : ByteArray := prog_11_method_67_code
def yX9_look : MethodName := ⟨RX9, "look", "(I)I"⟩
abbrev cX9_kindsOfWatcher : ByteArray := prog_11_method_68_code
def yX9_kindsOfWatcher : MethodName := ⟨RX9, "kindsOfWatcher", "(I)I"⟩
abbrev cX9_what : ByteArray := prog_11_method_69_code
def yX9_what : MethodName := ⟨RX9, "what", "(I)I"⟩
abbrev cX9_tries : ByteArray := prog_11_method_70_code
def yX9_tries : MethodName := ⟨RX9, "tries", "(I)I"⟩
abbrev cX9_game : ByteArray := prog_11_method_71_code
def yX9_game : MethodName := ⟨RX9, "game", "(III)I"⟩
abbrev cX9_fraction : ByteArray := prog_11_method_72_code
def yX9_fraction : MethodName := ⟨RX9, "fraction", "(JJ)V"⟩
abbrev cX9_fails : ByteArray := prog_11_method_73_code
def yX9_fails : MethodName := ⟨RX9, "fails", "(II)I"⟩
abbrev cX9_years : ByteArray := prog_11_method_74_code
def yX9_years : MethodName := ⟨RX9, "years", "(II)I"⟩
abbrev cX9_type : ByteArray := prog_11_method_75_code
def yX9_type : MethodName := ⟨RX9, "type", "(I)I"⟩
abbrev cX9_clear : ByteArray := prog_11_method_76_code
def yX9_clear : MethodName := ⟨RX9, "clear", "()I"⟩
abbrev cX9_isSmall : ByteArray := prog_11_method_77_code
def yX9_isSmall : MethodName := ⟨RX9, "isSmall", "(I)Z"⟩
abbrev cX9_isFigure : ByteArray := prog_11_method_78_code
def yX9_isFigure : MethodName := ⟨RX9, "isFigure", "(I)Z"⟩
abbrev cX9_lookAt : ByteArray := prog_11_method_79_code
def yX9_lookAt : MethodName := ⟨RX9, "lookAt", "(I)V"⟩
abbrev cX9_goBehind : ByteArray := prog_11_method_80_code
def yX9_goBehind : MethodName := ⟨RX9, "goBehind", "()V"⟩
abbrev cX9_spells : ByteArray := prog_11_method_81_code
def yX9_spells : MethodName := ⟨RX9, "spells", "(IIIIIII)Z"⟩
abbrev cX9_takes : ByteArray := prog_11_method_82_code
def yX9_takes : MethodName := ⟨RX9, "takes", "(III)Z"⟩
abbrev cX9_takesShow : ByteArray := prog_11_method_83_code
def yX9_takesShow : MethodName := ⟨RX9, "takesShow", "()Z"⟩
abbrev cX9_takesOff : ByteArray := prog_11_method_84_code
def yX9_takesOff : MethodName := ⟨RX9, "takesOff", "()Z"⟩
abbrev cX9_takesWatcher : ByteArray := prog_11_method_85_code
def yX9_takesWatcher : MethodName := ⟨RX9, "takesWatcher", "()Z"⟩
abbrev cX9_takesDo : ByteArray := prog_11_method_86_code
def yX9_takesDo : MethodName := ⟨RX9, "takesDo", "()Z"⟩
abbrev cX9_takesRest : ByteArray := prog_11_method_87_code
def yX9_takesRest : MethodName := ⟨RX9, "takesRest", "()Z"⟩
abbrev cX9_isWatcherWord : ByteArray := prog_11_method_88_code
def yX9_isWatcherWord : MethodName := ⟨RX9, "isWatcherWord", "()Z"⟩
abbrev cX9_takesItem : ByteArray := prog_11_method_89_code
def yX9_takesItem : MethodName := ⟨RX9, "takesItem", "()Z"⟩
abbrev cX9_read : ByteArray := prog_11_method_90_code
def yX9_read : MethodName := ⟨RX9, "read", "()I"⟩
abbrev cX9_part : ByteArray := prog_11_method_91_code
def yX9_part : MethodName := ⟨RX9, "part", "(I)J"⟩
abbrev cX9_image : ByteArray := prog_11_method_92_code
def yX9_image : MethodName := ⟨RX9, "image", "(I)I"⟩
abbrev cX9_from : ByteArray := prog_11_method_93_code
def yX9_from : MethodName := ⟨RX9, "from", "(I)I"⟩
abbrev cX9_status : ByteArray := prog_11_method_94_code
def yX9_status : MethodName := ⟨RX9, "status", "(I)I"⟩
abbrev cX9_allKnow : ByteArray := prog_11_method_95_code
def yX9_allKnow : MethodName := ⟨RX9, "allKnow", "()I"⟩
abbrev cX9_counted : ByteArray := prog_11_method_96_code
def yX9_counted : MethodName := ⟨RX9, "counted", "(I)I"⟩
abbrev cX9_count : ByteArray := prog_11_method_97_code
def yX9_count : MethodName := ⟨RX9, "count", "(I)I"⟩
abbrev cX9_sums : ByteArray := prog_11_method_98_code
def yX9_sums : MethodName := ⟨RX9, "sums", "(JII)J"⟩
abbrev cX9_digest : ByteArray := prog_11_method_99_code
def yX9_digest : MethodName := ⟨RX9, "digest", "()J"⟩
def RJ6 : String := "java/lang/Integer"
def TJ6 : u_T := fun k => match k with
  | _ => ("", "", "", false)
def tyJ6 : Nat → FieldType := fun k => match k with
  | _ => .int
theorem nmJ6 : ∀ a, a < 0 → ∀ b, b < 0 → a ≠ b → (TJ6 a).2.1 ≠ (TJ6 b).2.1 := by decide +kernel
theorem tyJ6_ok : ∀ k, k < 0 → parseFieldDescriptor (TJ6 k).2.2.1 = some (tyJ6 k) := by decide +kernel
abbrev cJ6_numberOfTrailingZeros_0f7a4 : ByteArray := prog_12_method_48_code
def yJ6_numberOfTrailingZeros_0f7a4 : MethodName := ⟨RJ6, "numberOfTrailingZeros", "(I)I"⟩
abbrev cJ6_bitCount_0f7a4 : ByteArray := prog_12_method_49_code
def yJ6_bitCount_0f7a4 : MethodName := ⟨RJ6, "bitCount", "(I)I"⟩
def RJ9 : String := "java/lang/Math"
def TJ9 : u_T := fun k => match k with
  | _ => ("", "", "", false)
def tyJ9 : Nat → FieldType := fun k => match k with
  | _ => .int
theorem nmJ9 : ∀ a, a < 0 → ∀ b, b < 0 → a ≠ b → (TJ9 a).2.1 ≠ (TJ9 b).2.1 := by decide +kernel
theorem tyJ9_ok : ∀ k, k < 0 → parseFieldDescriptor (TJ9 k).2.2.1 = some (tyJ9 k) := by decide +kernel
abbrev cJ9_abs_0f7a4 : ByteArray := prog_13_method_59_code
def yJ9_abs_0f7a4 : MethodName := ⟨RJ9, "abs", "(I)I"⟩
abbrev cJ9_max_7cf53 : ByteArray := prog_13_method_65_code
def yJ9_max_7cf53 : MethodName := ⟨RJ9, "max", "(II)I"⟩
abbrev cJ9_min_7cf53 : ByteArray := prog_13_method_69_code
def yJ9_min_7cf53 : MethodName := ⟨RJ9, "min", "(II)I"⟩
def RJ0 : String := "java/lang/String"
def TJ0 : u_T := fun k => match k with
  | _ => ("", "", "", false)
def tyJ0 : Nat → FieldType := fun k => match k with
  | _ => .int
theorem nmJ0 : ∀ a, a < 0 → ∀ b, b < 0 → a ≠ b → (TJ0 a).2.1 ≠ (TJ0 b).2.1 := by decide +kernel
theorem tyJ0_ok : ∀ k, k < 0 → parseFieldDescriptor (TJ0 k).2.2.1 = some (tyJ0 k) := by decide +kernel
abbrev cJ0_length_8abf5 : ByteArray := prog_14_method_54_code
def yJ0_length_8abf5 : MethodName := ⟨RJ0, "length", "()I"⟩
abbrev cJ0_charAt_5068e : ByteArray := prog_14_method_56_code
def yJ0_charAt_5068e : MethodName := ⟨RJ0, "charAt", "(I)C"⟩
abbrev cJ0_coder_7d493 : ByteArray := prog_14_method_152_code
def yJ0_coder_7d493 : MethodName := ⟨RJ0, "coder", "()B"⟩
abbrev cJ0_isLatin1_aae02 : ByteArray := prog_14_method_154_code
def yJ0_isLatin1_aae02 : MethodName := ⟨RJ0, "isLatin1", "()Z"⟩
abbrev cJ0_checkIndex_df160 : ByteArray := prog_14_method_155_code
def yJ0_checkIndex_df160 : MethodName := ⟨RJ0, "checkIndex", "(II)V"⟩
def RJ1 : String := "java/lang/StringLatin1"
def TJ1 : u_T := fun k => match k with
  | _ => ("", "", "", false)
def tyJ1 : Nat → FieldType := fun k => match k with
  | _ => .int
theorem nmJ1 : ∀ a, a < 0 → ∀ b, b < 0 → a ≠ b → (TJ1 a).2.1 ≠ (TJ1 b).2.1 := by decide +kernel
theorem tyJ1_ok : ∀ k, k < 0 → parseFieldDescriptor (TJ1 k).2.2.1 = some (tyJ1 k) := by decide +kernel
abbrev cJ1_charAt_3b067 : ByteArray := prog_15_method_2_code
def yJ1_charAt_3b067 : MethodName := ⟨RJ1, "charAt", "([BI)C"⟩
def RJ2 : String := "java/lang/StringUTF16"
def TJ2 : u_T := fun k => match k with
  | _ => ("", "", "", false)
def tyJ2 : Nat → FieldType := fun k => match k with
  | _ => .int
theorem nmJ2 : ∀ a, a < 0 → ∀ b, b < 0 → a ≠ b → (TJ2 a).2.1 ≠ (TJ2 b).2.1 := by decide +kernel
theorem tyJ2_ok : ∀ k, k < 0 → parseFieldDescriptor (TJ2 k).2.2.1 = some (tyJ2 k) := by decide +kernel
abbrev cJ2_getChar_3b067 : ByteArray := prog_16_method_5_code
def yJ2_getChar_3b067 : MethodName := ⟨RJ2, "getChar", "([BI)C"⟩
abbrev cJ2_length_9d52b : ByteArray := prog_16_method_6_code
def yJ2_length_9d52b : MethodName := ⟨RJ2, "length", "([B)I"⟩
abbrev cJ2_charAt_3b067 : ByteArray := prog_16_method_83_code
def yJ2_charAt_3b067 : MethodName := ⟨RJ2, "charAt", "([BI)C"⟩
abbrev cJ2_checkIndex_2214a : ByteArray := prog_16_method_91_code
def yJ2_checkIndex_2214a : MethodName := ⟨RJ2, "checkIndex", "(I[B)V"⟩
def RJ3 : String := "jdk/internal/util/Preconditions"
def TJ3 : u_T := fun k => match k with
  | _ => ("", "", "", false)
def tyJ3 : Nat → FieldType := fun k => match k with
  | _ => .int
theorem nmJ3 : ∀ a, a < 0 → ∀ b, b < 0 → a ≠ b → (TJ3 a).2.1 ≠ (TJ3 b).2.1 := by decide +kernel
theorem tyJ3_ok : ∀ k, k < 0 → parseFieldDescriptor (TJ3 k).2.2.1 = some (tyJ3 k) := by decide +kernel
abbrev cJ3_checkIndex_8e157 : ByteArray := prog_17_method_11_code
def yJ3_checkIndex_8e157 : MethodName := ⟨RJ3, "checkIndex", "(IILjava/util/function/BiFunction;)I"⟩
def RL : String := "CountyTrickLaw"
abbrev cL_law : ByteArray := code
def yL_law : MethodName := ⟨RL, "law", "([I)Z"⟩
abbrev vwCl : List vw_C := [(RX0, TX0, 5), (RX2, TX2, 11), (RX3, TX3, 2), (RX4, TX4, 2), (RX5, TX5, 8), (RX6, TX6, 2), (RX7, TX7, 1), (RX8, TX8, 13), (RX9, TX9, 19)]
