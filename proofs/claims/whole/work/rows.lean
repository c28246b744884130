section
-- ===== PART A: goes FIRST, ahead of the names: the tables' words, and 'selects' of the private methods out of them =====
/-- a private method of a class that the tables say can be made, by its rows of tables_1 -/
def lw_okq (q : MethodName × Nat) : Prop := (q.1.cls ≠ "java/lang/invoke/MethodHandle" ∧ q.1.cls ≠ "java/lang/invoke/VarHandle") ∧ Cond.instantiable q.1.cls q.2 ∈ tables_1 ∧ Cond.privateMethod q.1 ∈ tables_1 ∧ Cond.instanceMethod q.1 ∈ tables_1
theorem lw_p0 : lw_okq (⟨"CountyTrick", "refuse", "(I)I"⟩, 13) := ⟨⟨by decide +kernel, by decide +kernel⟩, List.mem_of_getElem? (i := 18) (by decide +kernel), List.mem_of_getElem? (i := 274) (by decide +kernel), List.mem_of_getElem? (i := 275) (by decide +kernel)⟩
theorem lw_p1 : lw_okq (⟨"CountyTrick$Reader", "advance", "()V"⟩, 8) := ⟨⟨by decide +kernel, by decide +kernel⟩, List.mem_of_getElem? (i := 160) (by decide +kernel), List.mem_of_getElem? (i := 311) (by decide +kernel), List.mem_of_getElem? (i := 312) (by decide +kernel)⟩
theorem lw_p2 : lw_okq (⟨"CountyTrick$Reader", "byteAt", "(I)I"⟩, 8) := ⟨⟨by decide +kernel, by decide +kernel⟩, List.mem_of_getElem? (i := 160) (by decide +kernel), List.mem_of_getElem? (i := 315) (by decide +kernel), List.mem_of_getElem? (i := 316) (by decide +kernel)⟩
theorem lw_p3 : lw_okq (⟨"CountyTrick$Reader", "isLetterAt", "(I)Z"⟩, 8) := ⟨⟨by decide +kernel, by decide +kernel⟩, List.mem_of_getElem? (i := 160) (by decide +kernel), List.mem_of_getElem? (i := 319) (by decide +kernel), List.mem_of_getElem? (i := 320) (by decide +kernel)⟩
theorem lw_p4 : lw_okq (⟨"CountyTrick$Reader", "wordEnd", "(I)I"⟩, 8) := ⟨⟨by decide +kernel, by decide +kernel⟩, List.mem_of_getElem? (i := 160) (by decide +kernel), List.mem_of_getElem? (i := 323) (by decide +kernel), List.mem_of_getElem? (i := 324) (by decide +kernel)⟩
theorem lw_p5 : lw_okq (⟨"CountyTrick$Reader", "wordNumber", "()I"⟩, 8) := ⟨⟨by decide +kernel, by decide +kernel⟩, List.mem_of_getElem? (i := 160) (by decide +kernel), List.mem_of_getElem? (i := 327) (by decide +kernel), List.mem_of_getElem? (i := 328) (by decide +kernel)⟩
theorem lw_p6 : lw_okq (⟨"CountyTrick$Reader", "isWord", "(Ljava/lang/String;)Z"⟩, 8) := ⟨⟨by decide +kernel, by decide +kernel⟩, List.mem_of_getElem? (i := 160) (by decide +kernel), List.mem_of_getElem? (i := 332) (by decide +kernel), List.mem_of_getElem? (i := 333) (by decide +kernel)⟩
theorem lw_p7 : lw_okq (⟨"CountyTrick$Reader", "isFigureAt", "(I)Z"⟩, 8) := ⟨⟨by decide +kernel, by decide +kernel⟩, List.mem_of_getElem? (i := 160) (by decide +kernel), List.mem_of_getElem? (i := 389) (by decide +kernel), List.mem_of_getElem? (i := 390) (by decide +kernel)⟩
theorem lw_p8 : lw_okq (⟨"CountyTrick$Reader", "takeNumber", "()V"⟩, 8) := ⟨⟨by decide +kernel, by decide +kernel⟩, List.mem_of_getElem? (i := 160) (by decide +kernel), List.mem_of_getElem? (i := 393) (by decide +kernel), List.mem_of_getElem? (i := 394) (by decide +kernel)⟩
theorem lw_p9 : lw_okq (⟨"CountyTrick$Reader", "takeItem", "(ZLCountyTrick$Land;)Z"⟩, 8) := ⟨⟨by decide +kernel, by decide +kernel⟩, List.mem_of_getElem? (i := 160) (by decide +kernel), List.mem_of_getElem? (i := 397) (by decide +kernel), List.mem_of_getElem? (i := 398) (by decide +kernel)⟩
theorem lw_p10 : lw_okq (⟨"CountyTrick$Reader", "carryOut", "(LCountyTrick$Land;LCountyTrick$Sight;)V"⟩, 8) := ⟨⟨by decide +kernel, by decide +kernel⟩, List.mem_of_getElem? (i := 160) (by decide +kernel), List.mem_of_getElem? (i := 413) (by decide +kernel), List.mem_of_getElem? (i := 414) (by decide +kernel)⟩
theorem lw_p11 : lw_okq (⟨"CountyTrick$Past", "dropOldest", "()V"⟩, 2) := ⟨⟨by decide +kernel, by decide +kernel⟩, List.mem_of_getElem? (i := 92) (by decide +kernel), List.mem_of_getElem? (i := 492) (by decide +kernel), List.mem_of_getElem? (i := 493) (by decide +kernel)⟩
theorem lw_p12 : lw_okq (⟨"CountyTrick$Past", "keepAt", "(ILCountyTrick$Land;)V"⟩, 2) := ⟨⟨by decide +kernel, by decide +kernel⟩, List.mem_of_getElem? (i := 92) (by decide +kernel), List.mem_of_getElem? (i := 496) (by decide +kernel), List.mem_of_getElem? (i := 497) (by decide +kernel)⟩
theorem lw_p13 : lw_okq (⟨"CountyTrick$Plan", "canFill", "(II)Z"⟩, 2) := ⟨⟨by decide +kernel, by decide +kernel⟩, List.mem_of_getElem? (i := 192) (by decide +kernel), List.mem_of_getElem? (i := 637) (by decide +kernel), List.mem_of_getElem? (i := 638) (by decide +kernel)⟩
theorem lw_p14 : lw_okq (⟨"CountyTrick$Plan", "stepsTogether", "(II)I"⟩, 2) := ⟨⟨by decide +kernel, by decide +kernel⟩, List.mem_of_getElem? (i := 192) (by decide +kernel), List.mem_of_getElem? (i := 642) (by decide +kernel), List.mem_of_getElem? (i := 643) (by decide +kernel)⟩
theorem lw_p15 : lw_okq (⟨"CountyTrick$Plan", "firstStep", "(II)I"⟩, 2) := ⟨⟨by decide +kernel, by decide +kernel⟩, List.mem_of_getElem? (i := 192) (by decide +kernel), List.mem_of_getElem? (i := 651) (by decide +kernel), List.mem_of_getElem? (i := 652) (by decide +kernel)⟩
def lw_privs_1 : List (MethodName × Nat) := [(⟨"CountyTrick", "refuse", "(I)I"⟩, 13), (⟨"CountyTrick$Reader", "advance", "()V"⟩, 8), (⟨"CountyTrick$Reader", "byteAt", "(I)I"⟩, 8), (⟨"CountyTrick$Reader", "isLetterAt", "(I)Z"⟩, 8), (⟨"CountyTrick$Reader", "wordEnd", "(I)I"⟩, 8), (⟨"CountyTrick$Reader", "wordNumber", "()I"⟩, 8), (⟨"CountyTrick$Reader", "isWord", "(Ljava/lang/String;)Z"⟩, 8), (⟨"CountyTrick$Reader", "isFigureAt", "(I)Z"⟩, 8), (⟨"CountyTrick$Reader", "takeNumber", "()V"⟩, 8), (⟨"CountyTrick$Reader", "takeItem", "(ZLCountyTrick$Land;)Z"⟩, 8), (⟨"CountyTrick$Reader", "carryOut", "(LCountyTrick$Land;LCountyTrick$Sight;)V"⟩, 8), (⟨"CountyTrick$Past", "dropOldest", "()V"⟩, 2), (⟨"CountyTrick$Past", "keepAt", "(ILCountyTrick$Land;)V"⟩, 2), (⟨"CountyTrick$Plan", "canFill", "(II)Z"⟩, 2), (⟨"CountyTrick$Plan", "stepsTogether", "(II)I"⟩, 2), (⟨"CountyTrick$Plan", "firstStep", "(II)I"⟩, 2)]
theorem lw_r1 : ∀ q ∈ lw_privs_1, lw_okq q := List.forall_mem_cons.mpr ⟨lw_p0, List.forall_mem_cons.mpr ⟨lw_p1, List.forall_mem_cons.mpr ⟨lw_p2, List.forall_mem_cons.mpr ⟨lw_p3, List.forall_mem_cons.mpr ⟨lw_p4, List.forall_mem_cons.mpr ⟨lw_p5, List.forall_mem_cons.mpr ⟨lw_p6, List.forall_mem_cons.mpr ⟨lw_p7, List.forall_mem_cons.mpr ⟨lw_p8, List.forall_mem_cons.mpr ⟨lw_p9, List.forall_mem_cons.mpr ⟨lw_p10, List.forall_mem_cons.mpr ⟨lw_p11, List.forall_mem_cons.mpr ⟨lw_p12, List.forall_mem_cons.mpr ⟨lw_p13, List.forall_mem_cons.mpr ⟨lw_p14, List.forall_mem_cons.mpr ⟨lw_p15, fun _ h => absurd h List.not_mem_nil⟩⟩⟩⟩⟩⟩⟩⟩⟩⟩⟩⟩⟩⟩⟩⟩
theorem lw_p16 : lw_okq (⟨"CountyTrick", "cellsSeenFrom", "(II)I"⟩, 13) := ⟨⟨by decide +kernel, by decide +kernel⟩, List.mem_of_getElem? (i := 18) (by decide +kernel), List.mem_of_getElem? (i := 659) (by decide +kernel), List.mem_of_getElem? (i := 660) (by decide +kernel)⟩
theorem lw_p17 : lw_okq (⟨"CountyTrick", "showKindsLeft", "(I)I"⟩, 13) := ⟨⟨by decide +kernel, by decide +kernel⟩, List.mem_of_getElem? (i := 18) (by decide +kernel), List.mem_of_getElem? (i := 704) (by decide +kernel), List.mem_of_getElem? (i := 705) (by decide +kernel)⟩
theorem lw_p18 : lw_okq (⟨"CountyTrick", "mostAlike", "(IIII)I"⟩, 13) := ⟨⟨by decide +kernel, by decide +kernel⟩, List.mem_of_getElem? (i := 18) (by decide +kernel), List.mem_of_getElem? (i := 713) (by decide +kernel), List.mem_of_getElem? (i := 714) (by decide +kernel)⟩
theorem lw_p19 : lw_okq (⟨"CountyTrick", "watcherKindsLeft", "(I)I"⟩, 13) := ⟨⟨by decide +kernel, by decide +kernel⟩, List.mem_of_getElem? (i := 18) (by decide +kernel), List.mem_of_getElem? (i := 722) (by decide +kernel), List.mem_of_getElem? (i := 723) (by decide +kernel)⟩
theorem lw_p20 : lw_okq (⟨"CountyTrick", "seesStanding", "(III)Z"⟩, 13) := ⟨⟨by decide +kernel, by decide +kernel⟩, List.mem_of_getElem? (i := 18) (by decide +kernel), List.mem_of_getElem? (i := 737) (by decide +kernel), List.mem_of_getElem? (i := 738) (by decide +kernel)⟩
theorem lw_p21 : lw_okq (⟨"CountyTrick", "keepFraction", "(JJ)V"⟩, 13) := ⟨⟨by decide +kernel, by decide +kernel⟩, List.mem_of_getElem? (i := 18) (by decide +kernel), List.mem_of_getElem? (i := 752) (by decide +kernel), List.mem_of_getElem? (i := 753) (by decide +kernel)⟩
theorem lw_p22 : lw_okq (⟨"CountyTrick", "isImage", "(I)Z"⟩, 13) := ⟨⟨by decide +kernel, by decide +kernel⟩, List.mem_of_getElem? (i := 18) (by decide +kernel), List.mem_of_getElem? (i := 774) (by decide +kernel), List.mem_of_getElem? (i := 775) (by decide +kernel)⟩
theorem lw_p23 : lw_okq (⟨"CountyTrick", "tally", "(I)I"⟩, 13) := ⟨⟨by decide +kernel, by decide +kernel⟩, List.mem_of_getElem? (i := 18) (by decide +kernel), List.mem_of_getElem? (i := 803) (by decide +kernel), List.mem_of_getElem? (i := 804) (by decide +kernel)⟩
theorem lw_p24 : lw_okq (⟨"CountyTrickModel", "manyWatchers", "()I"⟩, 19) := ⟨⟨by decide +kernel, by decide +kernel⟩, List.mem_of_getElem? (i := 823) (by decide +kernel), List.mem_of_getElem? (i := 894) (by decide +kernel), List.mem_of_getElem? (i := 895) (by decide +kernel)⟩
theorem lw_p25 : lw_okq (⟨"CountyTrickModel", "bad", "(I)I"⟩, 19) := ⟨⟨by decide +kernel, by decide +kernel⟩, List.mem_of_getElem? (i := 823) (by decide +kernel), List.mem_of_getElem? (i := 911) (by decide +kernel), List.mem_of_getElem? (i := 912) (by decide +kernel)⟩
theorem lw_p26 : lw_okq (⟨"CountyTrickModel", "many", "()I"⟩, 19) := ⟨⟨by decide +kernel, by decide +kernel⟩, List.mem_of_getElem? (i := 823) (by decide +kernel), List.mem_of_getElem? (i := 915) (by decide +kernel), List.mem_of_getElem? (i := 916) (by decide +kernel)⟩
theorem lw_p27 : lw_okq (⟨"CountyTrickModel", "full", "()I"⟩, 19) := ⟨⟨by decide +kernel, by decide +kernel⟩, List.mem_of_getElem? (i := 823) (by decide +kernel), List.mem_of_getElem? (i := 919) (by decide +kernel), List.mem_of_getElem? (i := 920) (by decide +kernel)⟩
theorem lw_p28 : lw_okq (⟨"CountyTrickModel", "keep", "()V"⟩, 19) := ⟨⟨by decide +kernel, by decide +kernel⟩, List.mem_of_getElem? (i := 823) (by decide +kernel), List.mem_of_getElem? (i := 937) (by decide +kernel), List.mem_of_getElem? (i := 938) (by decide +kernel)⟩
theorem lw_p29 : lw_okq (⟨"CountyTrickModel", "isShow", "(I)Z"⟩, 19) := ⟨⟨by decide +kernel, by decide +kernel⟩, List.mem_of_getElem? (i := 823) (by decide +kernel), List.mem_of_getElem? (i := 995) (by decide +kernel), List.mem_of_getElem? (i := 996) (by decide +kernel)⟩
theorem lw_p30 : lw_okq (⟨"CountyTrickModel", "put", "(II)I"⟩, 19) := ⟨⟨by decide +kernel, by decide +kernel⟩, List.mem_of_getElem? (i := 823) (by decide +kernel), List.mem_of_getElem? (i := 999) (by decide +kernel), List.mem_of_getElem? (i := 1000) (by decide +kernel)⟩
theorem lw_p31 : lw_okq (⟨"CountyTrickModel", "isWatcher", "(I)Z"⟩, 19) := ⟨⟨by decide +kernel, by decide +kernel⟩, List.mem_of_getElem? (i := 823) (by decide +kernel), List.mem_of_getElem? (i := 1011) (by decide +kernel), List.mem_of_getElem? (i := 1012) (by decide +kernel)⟩
def lw_privs_2 : List (MethodName × Nat) := [(⟨"CountyTrick", "cellsSeenFrom", "(II)I"⟩, 13), (⟨"CountyTrick", "showKindsLeft", "(I)I"⟩, 13), (⟨"CountyTrick", "mostAlike", "(IIII)I"⟩, 13), (⟨"CountyTrick", "watcherKindsLeft", "(I)I"⟩, 13), (⟨"CountyTrick", "seesStanding", "(III)Z"⟩, 13), (⟨"CountyTrick", "keepFraction", "(JJ)V"⟩, 13), (⟨"CountyTrick", "isImage", "(I)Z"⟩, 13), (⟨"CountyTrick", "tally", "(I)I"⟩, 13), (⟨"CountyTrickModel", "manyWatchers", "()I"⟩, 19), (⟨"CountyTrickModel", "bad", "(I)I"⟩, 19), (⟨"CountyTrickModel", "many", "()I"⟩, 19), (⟨"CountyTrickModel", "full", "()I"⟩, 19), (⟨"CountyTrickModel", "keep", "()V"⟩, 19), (⟨"CountyTrickModel", "isShow", "(I)Z"⟩, 19), (⟨"CountyTrickModel", "put", "(II)I"⟩, 19), (⟨"CountyTrickModel", "isWatcher", "(I)Z"⟩, 19)]
theorem lw_r2 : ∀ q ∈ lw_privs_2, lw_okq q := List.forall_mem_cons.mpr ⟨lw_p16, List.forall_mem_cons.mpr ⟨lw_p17, List.forall_mem_cons.mpr ⟨lw_p18, List.forall_mem_cons.mpr ⟨lw_p19, List.forall_mem_cons.mpr ⟨lw_p20, List.forall_mem_cons.mpr ⟨lw_p21, List.forall_mem_cons.mpr ⟨lw_p22, List.forall_mem_cons.mpr ⟨lw_p23, List.forall_mem_cons.mpr ⟨lw_p24, List.forall_mem_cons.mpr ⟨lw_p25, List.forall_mem_cons.mpr ⟨lw_p26, List.forall_mem_cons.mpr ⟨lw_p27, List.forall_mem_cons.mpr ⟨lw_p28, List.forall_mem_cons.mpr ⟨lw_p29, List.forall_mem_cons.mpr ⟨lw_p30, List.forall_mem_cons.mpr ⟨lw_p31, fun _ h => absurd h List.not_mem_nil⟩⟩⟩⟩⟩⟩⟩⟩⟩⟩⟩⟩⟩⟩⟩⟩
theorem lw_p32 : lw_okq (⟨"CountyTrickModel", "no", "()I"⟩, 19) := ⟨⟨by decide +kernel, by decide +kernel⟩, List.mem_of_getElem? (i := 823) (by decide +kernel), List.mem_of_getElem? (i := 1019) (by decide +kernel), List.mem_of_getElem? (i := 1020) (by decide +kernel)⟩
theorem lw_p33 : lw_okq (⟨"CountyTrickModel", "stepNow", "()I"⟩, 19) := ⟨⟨by decide +kernel, by decide +kernel⟩, List.mem_of_getElem? (i := 823) (by decide +kernel), List.mem_of_getElem? (i := 1037) (by decide +kernel), List.mem_of_getElem? (i := 1038) (by decide +kernel)⟩
theorem lw_p34 : lw_okq (⟨"CountyTrickModel", "isUnseenIn", "(II)Z"⟩, 19) := ⟨⟨by decide +kernel, by decide +kernel⟩, List.mem_of_getElem? (i := 823) (by decide +kernel), List.mem_of_getElem? (i := 1063) (by decide +kernel), List.mem_of_getElem? (i := 1064) (by decide +kernel)⟩
theorem lw_p35 : lw_okq (⟨"CountyTrickModel", "layHand", "()V"⟩, 19) := ⟨⟨by decide +kernel, by decide +kernel⟩, List.mem_of_getElem? (i := 823) (by decide +kernel), List.mem_of_getElem? (i := 1079) (by decide +kernel), List.mem_of_getElem? (i := 1080) (by decide +kernel)⟩
theorem lw_p36 : lw_okq (⟨"CountyTrickModel", "layGoals", "(I)I"⟩, 19) := ⟨⟨by decide +kernel, by decide +kernel⟩, List.mem_of_getElem? (i := 823) (by decide +kernel), List.mem_of_getElem? (i := 1087) (by decide +kernel), List.mem_of_getElem? (i := 1088) (by decide +kernel)⟩
theorem lw_p37 : lw_okq (⟨"CountyTrickModel", "lastBy", "(II)I"⟩, 19) := ⟨⟨by decide +kernel, by decide +kernel⟩, List.mem_of_getElem? (i := 823) (by decide +kernel), List.mem_of_getElem? (i := 1092) (by decide +kernel), List.mem_of_getElem? (i := 1093) (by decide +kernel)⟩
theorem lw_p38 : lw_okq (⟨"CountyTrickModel", "kindsOf", "(I)I"⟩, 19) := ⟨⟨by decide +kernel, by decide +kernel⟩, List.mem_of_getElem? (i := 823) (by decide +kernel), List.mem_of_getElem? (i := 1127) (by decide +kernel), List.mem_of_getElem? (i := 1128) (by decide +kernel)⟩
theorem lw_p39 : lw_okq (⟨"CountyTrickModel", "kindsOfWatcher", "(I)I"⟩, 19) := ⟨⟨by decide +kernel, by decide +kernel⟩, List.mem_of_getElem? (i := 823) (by decide +kernel), List.mem_of_getElem? (i := 1139) (by decide +kernel), List.mem_of_getElem? (i := 1140) (by decide +kernel)⟩
theorem lw_p40 : lw_okq (⟨"CountyTrickModel", "fraction", "(JJ)V"⟩, 19) := ⟨⟨by decide +kernel, by decide +kernel⟩, List.mem_of_getElem? (i := 823) (by decide +kernel), List.mem_of_getElem? (i := 1156) (by decide +kernel), List.mem_of_getElem? (i := 1157) (by decide +kernel)⟩
theorem lw_p41 : lw_okq (⟨"CountyTrickModel", "lookAt", "(I)V"⟩, 19) := ⟨⟨by decide +kernel, by decide +kernel⟩, List.mem_of_getElem? (i := 823) (by decide +kernel), List.mem_of_getElem? (i := 1184) (by decide +kernel), List.mem_of_getElem? (i := 1185) (by decide +kernel)⟩
theorem lw_p42 : lw_okq (⟨"CountyTrickModel", "spells", "(IIIIIII)Z"⟩, 19) := ⟨⟨by decide +kernel, by decide +kernel⟩, List.mem_of_getElem? (i := 823) (by decide +kernel), List.mem_of_getElem? (i := 1198) (by decide +kernel), List.mem_of_getElem? (i := 1199) (by decide +kernel)⟩
theorem lw_p43 : lw_okq (⟨"CountyTrickModel", "goBehind", "()V"⟩, 19) := ⟨⟨by decide +kernel, by decide +kernel⟩, List.mem_of_getElem? (i := 823) (by decide +kernel), List.mem_of_getElem? (i := 1202) (by decide +kernel), List.mem_of_getElem? (i := 1203) (by decide +kernel)⟩
theorem lw_p44 : lw_okq (⟨"CountyTrickModel", "takesItem", "()Z"⟩, 19) := ⟨⟨by decide +kernel, by decide +kernel⟩, List.mem_of_getElem? (i := 823) (by decide +kernel), List.mem_of_getElem? (i := 1206) (by decide +kernel), List.mem_of_getElem? (i := 1207) (by decide +kernel)⟩
theorem lw_p45 : lw_okq (⟨"CountyTrickModel", "takesShow", "()Z"⟩, 19) := ⟨⟨by decide +kernel, by decide +kernel⟩, List.mem_of_getElem? (i := 823) (by decide +kernel), List.mem_of_getElem? (i := 1210) (by decide +kernel), List.mem_of_getElem? (i := 1211) (by decide +kernel)⟩
theorem lw_p46 : lw_okq (⟨"CountyTrickModel", "takes", "(III)Z"⟩, 19) := ⟨⟨by decide +kernel, by decide +kernel⟩, List.mem_of_getElem? (i := 823) (by decide +kernel), List.mem_of_getElem? (i := 1214) (by decide +kernel), List.mem_of_getElem? (i := 1215) (by decide +kernel)⟩
theorem lw_p47 : lw_okq (⟨"CountyTrickModel", "takesOff", "()Z"⟩, 19) := ⟨⟨by decide +kernel, by decide +kernel⟩, List.mem_of_getElem? (i := 823) (by decide +kernel), List.mem_of_getElem? (i := 1218) (by decide +kernel), List.mem_of_getElem? (i := 1219) (by decide +kernel)⟩
def lw_privs_3 : List (MethodName × Nat) := [(⟨"CountyTrickModel", "no", "()I"⟩, 19), (⟨"CountyTrickModel", "stepNow", "()I"⟩, 19), (⟨"CountyTrickModel", "isUnseenIn", "(II)Z"⟩, 19), (⟨"CountyTrickModel", "layHand", "()V"⟩, 19), (⟨"CountyTrickModel", "layGoals", "(I)I"⟩, 19), (⟨"CountyTrickModel", "lastBy", "(II)I"⟩, 19), (⟨"CountyTrickModel", "kindsOf", "(I)I"⟩, 19), (⟨"CountyTrickModel", "kindsOfWatcher", "(I)I"⟩, 19), (⟨"CountyTrickModel", "fraction", "(JJ)V"⟩, 19), (⟨"CountyTrickModel", "lookAt", "(I)V"⟩, 19), (⟨"CountyTrickModel", "spells", "(IIIIIII)Z"⟩, 19), (⟨"CountyTrickModel", "goBehind", "()V"⟩, 19), (⟨"CountyTrickModel", "takesItem", "()Z"⟩, 19), (⟨"CountyTrickModel", "takesShow", "()Z"⟩, 19), (⟨"CountyTrickModel", "takes", "(III)Z"⟩, 19), (⟨"CountyTrickModel", "takesOff", "()Z"⟩, 19)]
theorem lw_r3 : ∀ q ∈ lw_privs_3, lw_okq q := List.forall_mem_cons.mpr ⟨lw_p32, List.forall_mem_cons.mpr ⟨lw_p33, List.forall_mem_cons.mpr ⟨lw_p34, List.forall_mem_cons.mpr ⟨lw_p35, List.forall_mem_cons.mpr ⟨lw_p36, List.forall_mem_cons.mpr ⟨lw_p37, List.forall_mem_cons.mpr ⟨lw_p38, List.forall_mem_cons.mpr ⟨lw_p39, List.forall_mem_cons.mpr ⟨lw_p40, List.forall_mem_cons.mpr ⟨lw_p41, List.forall_mem_cons.mpr ⟨lw_p42, List.forall_mem_cons.mpr ⟨lw_p43, List.forall_mem_cons.mpr ⟨lw_p44, List.forall_mem_cons.mpr ⟨lw_p45, List.forall_mem_cons.mpr ⟨lw_p46, List.forall_mem_cons.mpr ⟨lw_p47, fun _ h => absurd h List.not_mem_nil⟩⟩⟩⟩⟩⟩⟩⟩⟩⟩⟩⟩⟩⟩⟩⟩
theorem lw_p48 : lw_okq (⟨"CountyTrickModel", "takesDo", "()Z"⟩, 19) := ⟨⟨by decide +kernel, by decide +kernel⟩, List.mem_of_getElem? (i := 823) (by decide +kernel), List.mem_of_getElem? (i := 1222) (by decide +kernel), List.mem_of_getElem? (i := 1223) (by decide +kernel)⟩
theorem lw_p49 : lw_okq (⟨"CountyTrickModel", "takesRest", "()Z"⟩, 19) := ⟨⟨by decide +kernel, by decide +kernel⟩, List.mem_of_getElem? (i := 823) (by decide +kernel), List.mem_of_getElem? (i := 1226) (by decide +kernel), List.mem_of_getElem? (i := 1227) (by decide +kernel)⟩
theorem lw_p50 : lw_okq (⟨"CountyTrickModel", "isWatcherWord", "()Z"⟩, 19) := ⟨⟨by decide +kernel, by decide +kernel⟩, List.mem_of_getElem? (i := 823) (by decide +kernel), List.mem_of_getElem? (i := 1230) (by decide +kernel), List.mem_of_getElem? (i := 1231) (by decide +kernel)⟩
theorem lw_p51 : lw_okq (⟨"CountyTrickModel", "takesWatcher", "()Z"⟩, 19) := ⟨⟨by decide +kernel, by decide +kernel⟩, List.mem_of_getElem? (i := 823) (by decide +kernel), List.mem_of_getElem? (i := 1234) (by decide +kernel), List.mem_of_getElem? (i := 1235) (by decide +kernel)⟩
theorem lw_p52 : lw_okq (⟨"CountyTrickModel", "counted", "(I)I"⟩, 19) := ⟨⟨by decide +kernel, by decide +kernel⟩, List.mem_of_getElem? (i := 823) (by decide +kernel), List.mem_of_getElem? (i := 1258) (by decide +kernel), List.mem_of_getElem? (i := 1259) (by decide +kernel)⟩
theorem lw_p53 : lw_okq (⟨"CountyTrickModel", "allKnow", "()I"⟩, 19) := ⟨⟨by decide +kernel, by decide +kernel⟩, List.mem_of_getElem? (i := 823) (by decide +kernel), List.mem_of_getElem? (i := 1262) (by decide +kernel), List.mem_of_getElem? (i := 1263) (by decide +kernel)⟩
theorem lw_p54 : lw_okq (⟨"CountyTrickModel", "sums", "(JII)J"⟩, 19) := ⟨⟨by decide +kernel, by decide +kernel⟩, List.mem_of_getElem? (i := 823) (by decide +kernel), List.mem_of_getElem? (i := 1272) (by decide +kernel), List.mem_of_getElem? (i := 1273) (by decide +kernel)⟩
def lw_privs_4 : List (MethodName × Nat) := [(⟨"CountyTrickModel", "takesDo", "()Z"⟩, 19), (⟨"CountyTrickModel", "takesRest", "()Z"⟩, 19), (⟨"CountyTrickModel", "isWatcherWord", "()Z"⟩, 19), (⟨"CountyTrickModel", "takesWatcher", "()Z"⟩, 19), (⟨"CountyTrickModel", "counted", "(I)I"⟩, 19), (⟨"CountyTrickModel", "allKnow", "()I"⟩, 19), (⟨"CountyTrickModel", "sums", "(JII)J"⟩, 19)]
theorem lw_r4 : ∀ q ∈ lw_privs_4, lw_okq q := List.forall_mem_cons.mpr ⟨lw_p48, List.forall_mem_cons.mpr ⟨lw_p49, List.forall_mem_cons.mpr ⟨lw_p50, List.forall_mem_cons.mpr ⟨lw_p51, List.forall_mem_cons.mpr ⟨lw_p52, List.forall_mem_cons.mpr ⟨lw_p53, List.forall_mem_cons.mpr ⟨lw_p54, fun _ h => absurd h List.not_mem_nil⟩⟩⟩⟩⟩⟩⟩
def lw_privs : List (MethodName × Nat) := lw_privs_1 ++ (lw_privs_2 ++ (lw_privs_3 ++ (lw_privs_4)))
def lw_tbl : List Cond := k2_sels lw_privs ++ tables_1
theorem lw_privs_ok : ∀ q ∈ lw_privs, lw_okq q := by
  show ∀ q ∈ lw_privs_1 ++ (lw_privs_2 ++ (lw_privs_3 ++ (lw_privs_4))), lw_okq q
  exact List.forall_mem_append.mpr ⟨lw_r1, List.forall_mem_append.mpr ⟨lw_r2, List.forall_mem_append.mpr ⟨lw_r3, lw_r4⟩⟩⟩

theorem goodIn_r {big : List Cond} (ws : List Cond) (ps : List Nat) (hp : ws = ps.filterMap (fun i => big[i]?)) (h : ws.all goodWord = true) : GoodIn big ws := by
  intro w hw
  have h1 := List.all_eq_true.mp h w hw
  rw [hp] at hw
  obtain ⟨i, -, hi⟩ := List.mem_filterMap.mp hw
  have hm : w ∈ big := by first | exact List.mem_of_getElem? hi | exact List.getElem?_mem hi
  exact ⟨hm, good_of_word h1⟩
theorem goodIn_app {big a b : List Cond} (ha : GoodIn big a) (hb : GoodIn big b) : GoodIn big (a ++ b) := fun w h => (List.mem_append.mp h).elim (ha w) (hb w)
theorem goodIn_ca {big a b : List Cond} {c : Cond} (ha : GoodIn big (c :: a)) (hb : GoodIn big b) : GoodIn big (c :: (a ++ b)) := fun w h => (List.mem_cons.mp h).elim (fun e => ha w (List.mem_cons.mpr (Or.inl e))) (fun h => (List.mem_append.mp h).elim (fun h => ha w (List.mem_cons.mpr (Or.inr h))) (hb w))
theorem goodIn_sub {big ws : List Cond} (hm : ∀ w ∈ ws, w ∈ big) (h : ws.all goodWord = true) : GoodIn big ws := fun w hw => ⟨hm w hw, good_of_word (List.all_eq_true.mp h w hw)⟩
def RX0 : String := "CountyTrick$County"
def TX0 : u_T := fun k => match k with
  | 0 => ("CountyTrick$County", "land", "LCountyTrick$Land;", true)
  | 1 => ("CountyTrick$County", "past", "LCountyTrick$Past;", true)
  | 2 => ("CountyTrick$County", "saws", "LCountyTrick$Sheet;", true)
  | 3 => ("CountyTrick$County", "notes", "LCountyTrick$Sheet;", true)
  | _ => ("CountyTrick$County", "marks", "LCountyTrick$Sheet;", true)
def tyX0 : Nat → FieldType := fun k => match k with
  | 0 => .object "CountyTrick$Land"
  | 1 => .object "CountyTrick$Past"
  | 2 => .object "CountyTrick$Sheet"
  | 3 => .object "CountyTrick$Sheet"
  | _ => .object "CountyTrick$Sheet"
abbrev wsX00 : List Cond := u_ws RX0 TX0 5
theorem nmX0 : ∀ a, a < 5 → ∀ b, b < 5 → a ≠ b → (TX0 a).2.1 ≠ (TX0 b).2.1 := by decide +kernel
theorem tyX0_ok : ∀ k, k < 5 → parseFieldDescriptor (TX0 k).2.2.1 = some (tyX0 k) := by decide +kernel
abbrev cX0_init : ByteArray := prog_2_method_1_code
def yX0_init : MethodName := ⟨RX0, "<init>", "()V"⟩
abbrev cX0_makeEmpty : ByteArray := prog_2_method_2_code
def yX0_makeEmpty : MethodName := ⟨RX0, "makeEmpty", "()V"⟩
abbrev cX0_copyOf : ByteArray := prog_2_method_3_code
def yX0_copyOf : MethodName := ⟨RX0, "copyOf", "(LCountyTrick$County;)V"⟩
def RX1 : String := "CountyTrick$Kinds"
def TX1 : u_T := fun k => match k with
  | _ => ("", "", "", false)
def tyX1 : Nat → FieldType := fun k => match k with
  | _ => .int
abbrev wsX10 : List Cond := u_ws RX1 TX1 0
theorem nmX1 : ∀ a, a < 0 → ∀ b, b < 0 → a ≠ b → (TX1 a).2.1 ≠ (TX1 b).2.1 := by decide +kernel
theorem tyX1_ok : ∀ k, k < 0 → parseFieldDescriptor (TX1 k).2.2.1 = some (tyX1 k) := by decide +kernel
abbrev cX1_pullBy : ByteArray := prog_3_method_2_code
def yX1_pullBy : MethodName := ⟨RX1, "pullBy", "(IIII)I"⟩
abbrev cX1_notesBy : ByteArray := prog_3_method_3_code
def yX1_notesBy : MethodName := ⟨RX1, "notesBy", "(II)I"⟩
abbrev cX1_drawnBy : ByteArray := prog_3_method_4_code
def yX1_drawnBy : MethodName := ⟨RX1, "drawnBy", "(II)I"⟩
abbrev cX1_seesBy : ByteArray := prog_3_method_5_code
def yX1_seesBy : MethodName := ⟨RX1, "seesBy", "(III)Z"⟩
def RX2 : String := "CountyTrick$Land"
def TX2 : u_T := fun k => match k with
  | 0 => ("CountyTrick$Land", "step", "I", false)
  | 1 => ("CountyTrick$Land", "done", "I", false)
  | 2 => ("CountyTrick$Land", "shows", "I", false)
  | 3 => ("CountyTrick$Land", "watchers", "I", false)
  | 4 => ("CountyTrick$Land", "showKind", "[I", true)
  | 5 => ("CountyTrick$Land", "showCell", "[I", true)
  | 6 => ("CountyTrick$Land", "showLoud", "[I", true)
  | 7 => ("CountyTrick$Land", "showOn", "[I", true)
  | 8 => ("CountyTrick$Land", "watcherKind", "[I", true)
  | 9 => ("CountyTrick$Land", "watcherCell", "[I", true)
  | _ => ("CountyTrick$Land", "watcherKnows", "[I", true)
def tyX2 : Nat → FieldType := fun k => match k with
  | 0 => .int
  | 1 => .int
  | 2 => .int
  | 3 => .int
  | 4 => .array .int
  | 5 => .array .int
  | 6 => .array .int
  | 7 => .array .int
  | 8 => .array .int
  | 9 => .array .int
  | _ => .array .int
abbrev wsX20 : List Cond := u_ws RX2 TX2 11
theorem nmX2 : ∀ a, a < 11 → ∀ b, b < 11 → a ≠ b → (TX2 a).2.1 ≠ (TX2 b).2.1 := by decide +kernel
theorem tyX2_ok : ∀ k, k < 11 → parseFieldDescriptor (TX2 k).2.2.1 = some (tyX2 k) := by decide +kernel
abbrev cX2_init : ByteArray := prog_4_method_1_code
def yX2_init : MethodName := ⟨RX2, "<init>", "()V"⟩
abbrev cX2_makeEmpty : ByteArray := prog_4_method_2_code
def yX2_makeEmpty : MethodName := ⟨RX2, "makeEmpty", "()V"⟩
abbrev cX2_copyOf : ByteArray := prog_4_method_3_code
def yX2_copyOf : MethodName := ⟨RX2, "copyOf", "(LCountyTrick$Land;)V"⟩
abbrev cX2_hasShow : ByteArray := prog_4_method_4_code
def yX2_hasShow : MethodName := ⟨RX2, "hasShow", "(I)Z"⟩
abbrev cX2_hasWatcher : ByteArray := prog_4_method_5_code
def yX2_hasWatcher : MethodName := ⟨RX2, "hasWatcher", "(I)Z"⟩
abbrev cX2_addShow : ByteArray := prog_4_method_6_code
def yX2_addShow : MethodName := ⟨RX2, "addShow", "(III)I"⟩
abbrev cX2_addWatcher : ByteArray := prog_4_method_7_code
def yX2_addWatcher : MethodName := ⟨RX2, "addWatcher", "(II)I"⟩
abbrev cX2_showPart : ByteArray := prog_4_method_8_code
def yX2_showPart : MethodName := ⟨RX2, "showPart", "(II)I"⟩
abbrev cX2_watcherPart : ByteArray := prog_4_method_9_code
def yX2_watcherPart : MethodName := ⟨RX2, "watcherPart", "(II)I"⟩
abbrev cX2_onBits : ByteArray := prog_4_method_10_code
def yX2_onBits : MethodName := ⟨RX2, "onBits", "()I"⟩
abbrev cX2_knownTogether : ByteArray := prog_4_method_11_code
def yX2_knownTogether : MethodName := ⟨RX2, "knownTogether", "()I"⟩
abbrev cX2_dayStep : ByteArray := prog_4_method_12_code
def yX2_dayStep : MethodName := ⟨RX2, "dayStep", "(I)I"⟩
abbrev cX2_pass : ByteArray := prog_4_method_13_code
def yX2_pass : MethodName := ⟨RX2, "pass", "(I)V"⟩
abbrev cX2_pullAt : ByteArray := prog_4_method_14_code
def yX2_pullAt : MethodName := ⟨RX2, "pullAt", "(III)I"⟩
abbrev cX2_strongest : ByteArray := prog_4_method_15_code
def yX2_strongest : MethodName := ⟨RX2, "strongest", "(III)I"⟩
abbrev cX2_greatestPull : ByteArray := prog_4_method_16_code
def yX2_greatestPull : MethodName := ⟨RX2, "greatestPull", "(III)I"⟩
def RX3 : String := "CountyTrick$Past"
def TX3 : u_T := fun k => match k with
  | 0 => ("CountyTrick$Past", "lands", "[LCountyTrick$Land;", true)
  | _ => ("CountyTrick$Past", "size", "I", false)
def tyX3 : Nat → FieldType := fun k => match k with
  | 0 => .array (.object "CountyTrick$Land")
  | _ => .int
abbrev wsX30 : List Cond := u_ws RX3 TX3 2
theorem nmX3 : ∀ a, a < 2 → ∀ b, b < 2 → a ≠ b → (TX3 a).2.1 ≠ (TX3 b).2.1 := by decide +kernel
theorem tyX3_ok : ∀ k, k < 2 → parseFieldDescriptor (TX3 k).2.2.1 = some (tyX3 k) := by decide +kernel
abbrev cX3_init : ByteArray := prog_5_method_1_code
def yX3_init : MethodName := ⟨RX3, "<init>", "()V"⟩
abbrev cX3_push : ByteArray := prog_5_method_2_code
def yX3_push : MethodName := ⟨RX3, "push", "(LCountyTrick$Land;)V"⟩
abbrev cX3_dropOldest : ByteArray := prog_5_method_3_code
def yX3_dropOldest : MethodName := ⟨RX3, "dropOldest", "()V"⟩
abbrev cX3_keepAt : ByteArray := prog_5_method_4_code
def yX3_keepAt : MethodName := ⟨RX3, "keepAt", "(ILCountyTrick$Land;)V"⟩
abbrev cX3_popInto : ByteArray := prog_5_method_5_code
def yX3_popInto : MethodName := ⟨RX3, "popInto", "(LCountyTrick$Land;)V"⟩
abbrev cX3_copyOf : ByteArray := prog_5_method_6_code
def yX3_copyOf : MethodName := ⟨RX3, "copyOf", "(LCountyTrick$Past;)V"⟩
def RX4 : String := "CountyTrick$Plan"
def TX4 : u_T := fun k => match k with
  | 0 => ("CountyTrick$Plan", "open", "[I", true)
  | _ => ("CountyTrick$Plan", "cells", "I", false)
def tyX4 : Nat → FieldType := fun k => match k with
  | 0 => .array .int
  | _ => .int
abbrev wsX40 : List Cond := u_ws RX4 TX4 2
theorem nmX4 : ∀ a, a < 2 → ∀ b, b < 2 → a ≠ b → (TX4 a).2.1 ≠ (TX4 b).2.1 := by decide +kernel
theorem tyX4_ok : ∀ k, k < 2 → parseFieldDescriptor (TX4 k).2.2.1 = some (tyX4 k) := by decide +kernel
abbrev cX4_init : ByteArray := prog_6_method_1_code
def yX4_init : MethodName := ⟨RX4, "<init>", "()V"⟩
abbrev cX4_openAt : ByteArray := prog_6_method_2_code
def yX4_openAt : MethodName := ⟨RX4, "openAt", "(II)V"⟩
abbrev cX4_soonestLast : ByteArray := prog_6_method_3_code
def yX4_soonestLast : MethodName := ⟨RX4, "soonestLast", "()I"⟩
abbrev cX4_stepOf : ByteArray := prog_6_method_4_code
def yX4_stepOf : MethodName := ⟨RX4, "stepOf", "(II)I"⟩
abbrev cX4_firstStep : ByteArray := prog_6_method_5_code
def yX4_firstStep : MethodName := ⟨RX4, "firstStep", "(II)I"⟩
abbrev cX4_upTo : ByteArray := prog_6_method_6_code
def yX4_upTo : MethodName := ⟨RX4, "upTo", "(I)I"⟩
abbrev cX4_canFill : ByteArray := prog_6_method_7_code
def yX4_canFill : MethodName := ⟨RX4, "canFill", "(II)Z"⟩
abbrev cX4_stepsTogether : ByteArray := prog_6_method_8_code
def yX4_stepsTogether : MethodName := ⟨RX4, "stepsTogether", "(II)I"⟩
def RX5 : String := "CountyTrick$Reader"
def TX5 : u_T := fun k => match k with
  | 0 => ("CountyTrick$Reader", "bytes", "[I", true)
  | 1 => ("CountyTrick$Reader", "word", "I", false)
  | 2 => ("CountyTrick$Reader", "numbers", "[I", true)
  | 3 => ("CountyTrick$Reader", "length", "I", false)
  | 4 => ("CountyTrick$Reader", "at", "I", false)
  | 5 => ("CountyTrick$Reader", "sort", "I", false)
  | 6 => ("CountyTrick$Reader", "begin", "I", false)
  | _ => ("CountyTrick$Reader", "value", "I", false)
def tyX5 : Nat → FieldType := fun k => match k with
  | 0 => .array .int
  | 1 => .int
  | 2 => .array .int
  | 3 => .int
  | 4 => .int
  | 5 => .int
  | 6 => .int
  | _ => .int
abbrev wsX50 : List Cond := u_ws RX5 TX5 8
theorem nmX5 : ∀ a, a < 8 → ∀ b, b < 8 → a ≠ b → (TX5 a).2.1 ≠ (TX5 b).2.1 := by decide +kernel
theorem tyX5_ok : ∀ k, k < 8 → parseFieldDescriptor (TX5 k).2.2.1 = some (tyX5 k) := by decide +kernel
abbrev cX5_init : ByteArray := prog_7_method_1_code
def yX5_init : MethodName := ⟨RX5, "<init>", "()V"⟩
abbrev cX5_append : ByteArray := prog_7_method_2_code
def yX5_append : MethodName := ⟨RX5, "append", "(I)V"⟩
abbrev cX5_readInto : ByteArray := prog_7_method_3_code
def yX5_readInto : MethodName := ⟨RX5, "readInto", "(LCountyTrick$Land;LCountyTrick$Sight;)I"⟩
abbrev cX5_takeItem : ByteArray := prog_7_method_4_code
def yX5_takeItem : MethodName := ⟨RX5, "takeItem", "(ZLCountyTrick$Land;)Z"⟩
abbrev cX5_mayStand : ByteArray := prog_7_method_5_code
def yX5_mayStand : MethodName := ⟨RX5, "mayStand", "(IZLCountyTrick$Land;)Z"⟩
abbrev cX5_numbersBehind : ByteArray := prog_7_method_6_code
def yX5_numbersBehind : MethodName := ⟨RX5, "numbersBehind", "(I)I"⟩
abbrev cX5_least : ByteArray := prog_7_method_7_code
def yX5_least : MethodName := ⟨RX5, "least", "(II)I"⟩
abbrev cX5_most : ByteArray := prog_7_method_8_code
def yX5_most : MethodName := ⟨RX5, "most", "(III)I"⟩
abbrev cX5_carryOut : ByteArray := prog_7_method_9_code
def yX5_carryOut : MethodName := ⟨RX5, "carryOut", "(LCountyTrick$Land;LCountyTrick$Sight;)V"⟩
abbrev cX5_byteAt : ByteArray := prog_7_method_10_code
def yX5_byteAt : MethodName := ⟨RX5, "byteAt", "(I)I"⟩
abbrev cX5_isLetterAt : ByteArray := prog_7_method_11_code
def yX5_isLetterAt : MethodName := ⟨RX5, "isLetterAt", "(I)Z"⟩
abbrev cX5_isFigureAt : ByteArray := prog_7_method_12_code
def yX5_isFigureAt : MethodName := ⟨RX5, "isFigureAt", "(I)Z"⟩
abbrev cX5_advance : ByteArray := prog_7_method_13_code
def yX5_advance : MethodName := ⟨RX5, "advance", "()V"⟩
abbrev cX5_wordEnd : ByteArray := prog_7_method_14_code
def yX5_wordEnd : MethodName := ⟨RX5, "wordEnd", "(I)I"⟩
abbrev cX5_takeNumber : ByteArray := prog_7_method_15_code
def yX5_takeNumber : MethodName := ⟨RX5, "takeNumber", "()V"⟩
abbrev cX5_wordNumber : ByteArray := prog_7_method_16_code
def yX5_wordNumber : MethodName := ⟨RX5, "wordNumber", "()I"⟩
abbrev cX5_isWord : ByteArray := prog_7_method_17_code
def yX5_isWord : MethodName := ⟨RX5, "isWord", "(Ljava/lang/String;)Z"⟩
def RX6 : String := "CountyTrick$Sheet"
def TX6 : u_T := fun k => match k with
  | 0 => ("CountyTrick$Sheet", "numbers", "[I", true)
  | _ => ("CountyTrick$Sheet", "size", "I", false)
def tyX6 : Nat → FieldType := fun k => match k with
  | 0 => .array .int
  | _ => .int
abbrev wsX60 : List Cond := u_ws RX6 TX6 2
theorem nmX6 : ∀ a, a < 2 → ∀ b, b < 2 → a ≠ b → (TX6 a).2.1 ≠ (TX6 b).2.1 := by decide +kernel
theorem tyX6_ok : ∀ k, k < 2 → parseFieldDescriptor (TX6 k).2.2.1 = some (tyX6 k) := by decide +kernel
abbrev cX6_init : ByteArray := prog_8_method_1_code
def yX6_init : MethodName := ⟨RX6, "<init>", "()V"⟩
abbrev cX6_add : ByteArray := prog_8_method_2_code
def yX6_add : MethodName := ⟨RX6, "add", "(IIIII)I"⟩
abbrev cX6_told : ByteArray := prog_8_method_3_code
def yX6_told : MethodName := ⟨RX6, "told", "(II)I"⟩
abbrev cX6_copyOf : ByteArray := prog_8_method_4_code
def yX6_copyOf : MethodName := ⟨RX6, "copyOf", "(LCountyTrick$Sheet;)V"⟩
abbrev cX6_mixInto : ByteArray := prog_8_method_5_code
def yX6_mixInto : MethodName := ⟨RX6, "mixInto", "(JI)J"⟩
def RX7 : String := "CountyTrick$Sight"
def TX7 : u_T := fun k => match k with
  | _ => ("CountyTrick$Sight", "greatest", "[I", true)
def tyX7 : Nat → FieldType := fun k => match k with
  | _ => .array .int
abbrev wsX70 : List Cond := u_ws RX7 TX7 1
theorem nmX7 : ∀ a, a < 1 → ∀ b, b < 1 → a ≠ b → (TX7 a).2.1 ≠ (TX7 b).2.1 := by decide +kernel
theorem tyX7_ok : ∀ k, k < 1 → parseFieldDescriptor (TX7 k).2.2.1 = some (tyX7 k) := by decide +kernel
abbrev cX7_init : ByteArray := prog_9_method_1_code
def yX7_init : MethodName := ⟨RX7, "<init>", "()V"⟩
abbrev cX7_gauge : ByteArray := prog_9_method_2_code
def yX7_gauge : MethodName := ⟨RX7, "gauge", "(LCountyTrick$Land;II)V"⟩
abbrev cX7_witnesses : ByteArray := prog_9_method_3_code
def yX7_witnesses : MethodName := ⟨RX7, "witnesses", "(LCountyTrick$Land;I)I"⟩
abbrev cX7_whoSees : ByteArray := prog_9_method_4_code
def yX7_whoSees : MethodName := ⟨RX7, "whoSees", "(LCountyTrick$Land;II)I"⟩
abbrev cX7_whoSeesWithShowAt : ByteArray := prog_9_method_5_code
def yX7_whoSeesWithShowAt : MethodName := ⟨RX7, "whoSeesWithShowAt", "(LCountyTrick$Land;III)I"⟩
abbrev cX7_openSteps : ByteArray := prog_9_method_6_code
def yX7_openSteps : MethodName := ⟨RX7, "openSteps", "(LCountyTrick$Land;I)I"⟩
abbrev cX7_doingIn : ByteArray := prog_9_method_7_code
def yX7_doingIn : MethodName := ⟨RX7, "doingIn", "(LCountyTrick$Land;I)I"⟩
def RX8 : String := "CountyTrick"
def TX8 : u_T := fun k => match k with
  | 0 => ("CountyTrick", "now", "LCountyTrick$County;", true)
  | 1 => ("CountyTrick", "kept", "[LCountyTrick$County;", true)
  | 2 => ("CountyTrick", "isKept", "[Z", true)
  | 3 => ("CountyTrick", "draft", "LCountyTrick$Land;", true)
  | 4 => ("CountyTrick", "sight", "LCountyTrick$Sight;", true)
  | 5 => ("CountyTrick", "text", "LCountyTrick$Reader;", true)
  | 6 => ("CountyTrick", "course", "LCountyTrick$Plan;", true)
  | 7 => ("CountyTrick", "pulls", "[I", true)
  | 8 => ("CountyTrick", "above", "J", false)
  | 9 => ("CountyTrick", "below", "J", false)
  | 10 => ("CountyTrick", "refusedBad", "I", false)
  | 11 => ("CountyTrick", "refusedNo", "I", false)
  | _ => ("CountyTrick", "refusedFull", "I", false)
def tyX8 : Nat → FieldType := fun k => match k with
  | 0 => .object "CountyTrick$County"
  | 1 => .array (.object "CountyTrick$County")
  | 2 => .array .boolean
  | 3 => .object "CountyTrick$Land"
  | 4 => .object "CountyTrick$Sight"
  | 5 => .object "CountyTrick$Reader"
  | 6 => .object "CountyTrick$Plan"
  | 7 => .array .int
  | 8 => .long
  | 9 => .long
  | 10 => .int
  | 11 => .int
  | _ => .int
abbrev wsX80 : List Cond := u_ws RX8 TX8 13
theorem nmX8 : ∀ a, a < 13 → ∀ b, b < 13 → a ≠ b → (TX8 a).2.1 ≠ (TX8 b).2.1 := by decide +kernel
theorem tyX8_ok : ∀ k, k < 13 → parseFieldDescriptor (TX8 k).2.2.1 = some (tyX8 k) := by decide +kernel
abbrev cX8_init : ByteArray := prog_1_method_1_code
def yX8_init : MethodName := ⟨RX8, "<init>", "()V"⟩
abbrev cX8_land : ByteArray := prog_1_method_2_code
def yX8_land : MethodName := ⟨RX8, "land", "()I"⟩
abbrev cX8_show : ByteArray := prog_1_method_3_code
def yX8_show : MethodName := ⟨RX8, "show", "(III)I"⟩
abbrev cX8_watcher : ByteArray := prog_1_method_4_code
def yX8_watcher : MethodName := ⟨RX8, "watcher", "(II)I"⟩
abbrev cX8_type : ByteArray := prog_1_method_5_code
def yX8_type : MethodName := ⟨RX8, "type", "(I)I"⟩
abbrev cX8_clear : ByteArray := prog_1_method_6_code
def yX8_clear : MethodName := ⟨RX8, "clear", "()I"⟩
abbrev cX8_read : ByteArray := prog_1_method_7_code
def yX8_read : MethodName := ⟨RX8, "read", "()I"⟩
abbrev cX8_does : ByteArray := prog_1_method_8_code
def yX8_does : MethodName := ⟨RX8, "does", "(I)I"⟩
abbrev cX8_rest : ByteArray := prog_1_method_9_code
def yX8_rest : MethodName := ⟨RX8, "rest", "(I)I"⟩
abbrev cX8_moves : ByteArray := prog_1_method_10_code
def yX8_moves : MethodName := ⟨RX8, "moves", "(II)I"⟩
abbrev cX8_turns : ByteArray := prog_1_method_11_code
def yX8_turns : MethodName := ⟨RX8, "turns", "(II)I"⟩
abbrev cX8_sends : ByteArray := prog_1_method_12_code
def yX8_sends : MethodName := ⟨RX8, "sends", "(II)I"⟩
abbrev cX8_undo : ByteArray := prog_1_method_13_code
def yX8_undo : MethodName := ⟨RX8, "undo", "()I"⟩
abbrev cX8_of : ByteArray := prog_1_method_14_code
def yX8_of : MethodName := ⟨RX8, "of", "(II)I"⟩
abbrev cX8_about : ByteArray := prog_1_method_15_code
def yX8_about : MethodName := ⟨RX8, "about", "(II)I"⟩
abbrev cX8_pull : ByteArray := prog_1_method_16_code
def yX8_pull : MethodName := ⟨RX8, "pull", "(II)I"⟩
abbrev cX8_drawn : ByteArray := prog_1_method_17_code
def yX8_drawn : MethodName := ⟨RX8, "drawn", "(II)I"⟩
abbrev cX8_sees : ByteArray := prog_1_method_18_code
def yX8_sees : MethodName := ⟨RX8, "sees", "(II)I"⟩
abbrev cX8_unseen : ByteArray := prog_1_method_19_code
def yX8_unseen : MethodName := ⟨RX8, "unseen", "(I)I"⟩
abbrev cX8_when : ByteArray := prog_1_method_20_code
def yX8_when : MethodName := ⟨RX8, "when", "(I)I"⟩
abbrev cX8_enough : ByteArray := prog_1_method_21_code
def yX8_enough : MethodName := ⟨RX8, "enough", "(I)I"⟩
abbrev cX8_place : ByteArray := prog_1_method_22_code
def yX8_place : MethodName := ⟨RX8, "place", "(III)I"⟩
abbrev cX8_plan : ByteArray := prog_1_method_23_code
def yX8_plan : MethodName := ⟨RX8, "plan", "(II)I"⟩
abbrev cX8_guard : ByteArray := prog_1_method_24_code
def yX8_guard : MethodName := ⟨RX8, "guard", "(II)I"⟩
abbrev cX8_saw : ByteArray := prog_1_method_25_code
def yX8_saw : MethodName := ⟨RX8, "saw", "(II)I"⟩
abbrev cX8_where : ByteArray := prog_1_method_26_code
def yX8_where : MethodName := ⟨RX8, "where", "()I"⟩
abbrev cX8_note : ByteArray := prog_1_method_27_code
def yX8_note : MethodName := ⟨RX8, "note", "(IIIII)I"⟩
abbrev cX8_mark : ByteArray := prog_1_method_28_code
def yX8_mark : MethodName := ⟨RX8, "mark", "(IIII)I"⟩
abbrev cX8_forget : ByteArray := prog_1_method_29_code
def yX8_forget : MethodName := ⟨RX8, "forget", "(I)I"⟩
abbrev cX8_is : ByteArray := prog_1_method_30_code
def yX8_is : MethodName := ⟨RX8, "is", "(I)I"⟩
abbrev cX8_look : ByteArray := prog_1_method_31_code
def yX8_look : MethodName := ⟨RX8, "look", "(I)I"⟩
abbrev cX8_what : ByteArray := prog_1_method_32_code
def yX8_what : MethodName := ⟨RX8, "what", "(I)I"⟩
abbrev cX8_tries : ByteArray := prog_1_method_33_code
def yX8_tries : MethodName := ⟨RX8, "tries", "(I)I"⟩
abbrev cX8_game : ByteArray := prog_1_method_34_code
def yX8_game : MethodName := ⟨RX8, "game", "(III)I"⟩
abbrev cX8_fails : ByteArray := prog_1_method_35_code
def yX8_fails : MethodName := ⟨RX8, "fails", "(II)I"⟩
abbrev cX8_years : ByteArray := prog_1_method_36_code
def yX8_years : MethodName := ⟨RX8, "years", "(II)I"⟩
abbrev cX8_part : ByteArray := prog_1_method_37_code
def yX8_part : MethodName := ⟨RX8, "part", "(I)J"⟩
abbrev cX8_image : ByteArray := prog_1_method_38_code
def yX8_image : MethodName := ⟨RX8, "image", "(I)I"⟩
abbrev cX8_from : ByteArray := prog_1_method_39_code
def yX8_from : MethodName := ⟨RX8, "from", "(I)I"⟩
abbrev cX8_status : ByteArray := prog_1_method_40_code
def yX8_status : MethodName := ⟨RX8, "status", "(I)I"⟩
abbrev cX8_count : ByteArray := prog_1_method_41_code
def yX8_count : MethodName := ⟨RX8, "count", "(I)I"⟩
abbrev cX8_digest : ByteArray := prog_1_method_42_code
def yX8_digest : MethodName := ⟨RX8, "digest", "()J"⟩
abbrev cX8_within : ByteArray := prog_1_method_43_code
def yX8_within : MethodName := ⟨RX8, "within", "(III)Z"⟩
abbrev cX8_isKind : ByteArray := prog_1_method_44_code
def yX8_isKind : MethodName := ⟨RX8, "isKind", "(I)Z"⟩
abbrev cX8_isCell : ByteArray := prog_1_method_45_code
def yX8_isCell : MethodName := ⟨RX8, "isCell", "(I)Z"⟩
abbrev cX8_isLoud : ByteArray := prog_1_method_46_code
def yX8_isLoud : MethodName := ⟨RX8, "isLoud", "(I)Z"⟩
abbrev cX8_isDayStep : ByteArray := prog_1_method_47_code
def yX8_isDayStep : MethodName := ⟨RX8, "isDayStep", "(I)Z"⟩
abbrev cX8_isFar : ByteArray := prog_1_method_48_code
def yX8_isFar : MethodName := ⟨RX8, "isFar", "(I)Z"⟩
abbrev cX8_isPull : ByteArray := prog_1_method_49_code
def yX8_isPull : MethodName := ⟨RX8, "isPull", "(I)Z"⟩
abbrev cX8_isImage : ByteArray := prog_1_method_50_code
def yX8_isImage : MethodName := ⟨RX8, "isImage", "(I)Z"⟩
abbrev cX8_refuse : ByteArray := prog_1_method_51_code
def yX8_refuse : MethodName := ⟨RX8, "refuse", "(I)I"⟩
abbrev cX8_far : ByteArray := prog_1_method_52_code
def yX8_far : MethodName := ⟨RX8, "far", "(II)I"⟩
abbrev cX8_planCells : ByteArray := prog_1_method_53_code
def yX8_planCells : MethodName := ⟨RX8, "planCells", "(I)I"⟩
abbrev cX8_seesStanding : ByteArray := prog_1_method_54_code
def yX8_seesStanding : MethodName := ⟨RX8, "seesStanding", "(III)Z"⟩
abbrev cX8_cellsSeenFrom : ByteArray := prog_1_method_55_code
def yX8_cellsSeenFrom : MethodName := ⟨RX8, "cellsSeenFrom", "(II)I"⟩
abbrev cX8_showKindsLeft : ByteArray := prog_1_method_56_code
def yX8_showKindsLeft : MethodName := ⟨RX8, "showKindsLeft", "(I)I"⟩
abbrev cX8_watcherKindsLeft : ByteArray := prog_1_method_57_code
def yX8_watcherKindsLeft : MethodName := ⟨RX8, "watcherKindsLeft", "(I)I"⟩
abbrev cX8_mostAlike : ByteArray := prog_1_method_58_code
def yX8_mostAlike : MethodName := ⟨RX8, "mostAlike", "(IIII)I"⟩
abbrev cX8_greaterPart : ByteArray := prog_1_method_59_code
def yX8_greaterPart : MethodName := ⟨RX8, "greaterPart", "(III)I"⟩
abbrev cX8_power : ByteArray := prog_1_method_60_code
def yX8_power : MethodName := ⟨RX8, "power", "(JI)J"⟩
abbrev cX8_oddsOf : ByteArray := prog_1_method_61_code
def yX8_oddsOf : MethodName := ⟨RX8, "oddsOf", "(III)J"⟩
abbrev cX8_keepFraction : ByteArray := prog_1_method_62_code
def yX8_keepFraction : MethodName := ⟨RX8, "keepFraction", "(JJ)V"⟩
abbrev cX8_tally : ByteArray := prog_1_method_63_code
def yX8_tally : MethodName := ⟨RX8, "tally", "(I)I"⟩
def RX9 : String := "CountyTrickModel"
def TX9 : u_T := fun k => match k with
  | 0 => ("CountyTrickModel", "told", "[I", true)
  | 1 => ("CountyTrickModel", "kept", "[I", true)
  | 2 => ("CountyTrickModel", "isKept", "[Z", true)
  | 3 => ("CountyTrickModel", "refused", "[I", true)
  | 4 => ("CountyTrickModel", "above", "J", false)
  | 5 => ("CountyTrickModel", "below", "J", false)
  | 6 => ("CountyTrickModel", "hand", "[I", true)
  | 7 => ("CountyTrickModel", "goals", "[I", true)
  | 8 => ("CountyTrickModel", "isFree", "[Z", true)
  | 9 => ("CountyTrickModel", "steps0", "[I", true)
  | 10 => ("CountyTrickModel", "bestSteps", "[I", true)
  | 11 => ("CountyTrickModel", "bytes", "[I", true)
  | 12 => ("CountyTrickModel", "bytesLong", "I", false)
  | 13 => ("CountyTrickModel", "tokenAt", "I", false)
  | 14 => ("CountyTrickModel", "tokenLong", "I", false)
  | 15 => ("CountyTrickModel", "token", "I", false)
  | 16 => ("CountyTrickModel", "value", "I", false)
  | 17 => ("CountyTrickModel", "anew", "[I", true)
  | _ => ("CountyTrickModel", "values", "[I", true)
def tyX9 : Nat → FieldType := fun k => match k with
  | 0 => .array .int
  | 1 => .array .int
  | 2 => .array .boolean
  | 3 => .array .int
  | 4 => .long
  | 5 => .long
  | 6 => .array .int
  | 7 => .array .int
  | 8 => .array .boolean
  | 9 => .array .int
  | 10 => .array .int
  | 11 => .array .int
  | 12 => .int
  | 13 => .int
  | 14 => .int
  | 15 => .int
  | 16 => .int
  | 17 => .array .int
  | _ => .array .int
abbrev wsX90 : List Cond := u_ws RX9 TX9 19
theorem nmX9 : ∀ a, a < 19 → ∀ b, b < 19 → a ≠ b → (TX9 a).2.1 ≠ (TX9 b).2.1 := by decide +kernel
theorem tyX9_ok : ∀ k, k < 19 → parseFieldDescriptor (TX9 k).2.2.1 = some (tyX9 k) := by decide +kernel
abbrev cX9_init : ByteArray := prog_11_method_1_code
def yX9_init : MethodName := ⟨RX9, "<init>", "()V"⟩
abbrev cX9_in : ByteArray := prog_11_method_3_code
def yX9_in : MethodName := ⟨RX9, "in", "(JJJ)Z"⟩
abbrev cX9_bad : ByteArray := prog_11_method_4_code
def yX9_bad : MethodName := ⟨RX9, "bad", "(I)I"⟩
abbrev cX9_no : ByteArray := prog_11_method_5_code
def yX9_no : MethodName := ⟨RX9, "no", "()I"⟩
abbrev cX9_full : ByteArray := prog_11_method_6_code
def yX9_full : MethodName := ⟨RX9, "full", "()I"⟩
abbrev cX9_bits : ByteArray := prog_11_method_7_code
def yX9_bits : MethodName := ⟨RX9, "bits", "(I)I"⟩
abbrev cX9_has : ByteArray := prog_11_method_8_code
def yX9_has : MethodName := ⟨RX9, "has", "(II)Z"⟩
abbrev cX9_begin : ByteArray := prog_11_method_9_code
def yX9_begin : MethodName := ⟨RX9, "begin", "([I)V"⟩
abbrev cX9_many : ByteArray := prog_11_method_10_code
def yX9_many : MethodName := ⟨RX9, "many", "()I"⟩
abbrev cX9_manyWatchers : ByteArray := prog_11_method_11_code
def yX9_manyWatchers : MethodName := ⟨RX9, "manyWatchers", "()I"⟩
abbrev cX9_isShow : ByteArray := prog_11_method_12_code
def yX9_isShow : MethodName := ⟨RX9, "isShow", "(I)Z"⟩
abbrev cX9_isWatcher : ByteArray := prog_11_method_13_code
def yX9_isWatcher : MethodName := ⟨RX9, "isWatcher", "(I)Z"⟩
abbrev cX9_isCell : ByteArray := prog_11_method_14_code
def yX9_isCell : MethodName := ⟨RX9, "isCell", "(I)Z"⟩
abbrev cX9_isStep : ByteArray := prog_11_method_15_code
def yX9_isStep : MethodName := ⟨RX9, "isStep", "(I)Z"⟩
abbrev cX9_isFar : ByteArray := prog_11_method_16_code
def yX9_isFar : MethodName := ⟨RX9, "isFar", "(I)Z"⟩
abbrev cX9_land : ByteArray := prog_11_method_17_code
def yX9_land : MethodName := ⟨RX9, "land", "()I"⟩
abbrev cX9_layShow : ByteArray := prog_11_method_18_code
def yX9_layShow : MethodName := ⟨RX9, "layShow", "([IIII)V"⟩
abbrev cX9_show : ByteArray := prog_11_method_19_code
def yX9_show : MethodName := ⟨RX9, "show", "(III)I"⟩
abbrev cX9_layWatcher : ByteArray := prog_11_method_20_code
def yX9_layWatcher : MethodName := ⟨RX9, "layWatcher", "([III)V"⟩
abbrev cX9_watcher : ByteArray := prog_11_method_21_code
def yX9_watcher : MethodName := ⟨RX9, "watcher", "(II)I"⟩
abbrev cX9_plainPull : ByteArray := prog_11_method_22_code
def yX9_plainPull : MethodName := ⟨RX9, "plainPull", "(II)I"⟩
abbrev cX9_firePull : ByteArray := prog_11_method_23_code
def yX9_firePull : MethodName := ⟨RX9, "firePull", "(III)I"⟩
abbrev cX9_pullAs : ByteArray := prog_11_method_24_code
def yX9_pullAs : MethodName := ⟨RX9, "pullAs", "(IIII)I"⟩
abbrev cX9_notesAs : ByteArray := prog_11_method_25_code
def yX9_notesAs : MethodName := ⟨RX9, "notesAs", "(II)I"⟩
abbrev cX9_drawnAs : ByteArray := prog_11_method_26_code
def yX9_drawnAs : MethodName := ⟨RX9, "drawnAs", "(II)I"⟩
abbrev cX9_seesAs : ByteArray := prog_11_method_27_code
def yX9_seesAs : MethodName := ⟨RX9, "seesAs", "(III)Z"⟩
abbrev cX9_distance : ByteArray := prog_11_method_28_code
def yX9_distance : MethodName := ⟨RX9, "distance", "(II)I"⟩
abbrev cX9_pullAt : ByteArray := prog_11_method_29_code
def yX9_pullAt : MethodName := ⟨RX9, "pullAt", "([IIII)I"⟩
abbrev cX9_greatest : ByteArray := prog_11_method_30_code
def yX9_greatest : MethodName := ⟨RX9, "greatest", "([IIII)I"⟩
abbrev cX9_isOn : ByteArray := prog_11_method_31_code
def yX9_isOn : MethodName := ⟨RX9, "isOn", "([I)I"⟩
abbrev cX9_seesFrom : ByteArray := prog_11_method_32_code
def yX9_seesFrom : MethodName := ⟨RX9, "seesFrom", "([IIIIII)Z"⟩
abbrev cX9_whoSees : ByteArray := prog_11_method_33_code
def yX9_whoSees : MethodName := ⟨RX9, "whoSees", "([IIII)I"⟩
abbrev cX9_stepNow : ByteArray := prog_11_method_34_code
def yX9_stepNow : MethodName := ⟨RX9, "stepNow", "()I"⟩
abbrev cX9_keep : ByteArray := prog_11_method_35_code
def yX9_keep : MethodName := ⟨RX9, "keep", "()V"⟩
abbrev cX9_goDoing : ByteArray := prog_11_method_36_code
def yX9_goDoing : MethodName := ⟨RX9, "goDoing", "([II)I"⟩
abbrev cX9_does : ByteArray := prog_11_method_37_code
def yX9_does : MethodName := ⟨RX9, "does", "(I)I"⟩
abbrev cX9_goRest : ByteArray := prog_11_method_38_code
def yX9_goRest : MethodName := ⟨RX9, "goRest", "([II)V"⟩
abbrev cX9_rest : ByteArray := prog_11_method_39_code
def yX9_rest : MethodName := ⟨RX9, "rest", "(I)I"⟩
abbrev cX9_put : ByteArray := prog_11_method_40_code
def yX9_put : MethodName := ⟨RX9, "put", "(II)I"⟩
abbrev cX9_moves : ByteArray := prog_11_method_41_code
def yX9_moves : MethodName := ⟨RX9, "moves", "(II)I"⟩
abbrev cX9_turns : ByteArray := prog_11_method_42_code
def yX9_turns : MethodName := ⟨RX9, "turns", "(II)I"⟩
abbrev cX9_sends : ByteArray := prog_11_method_43_code
def yX9_sends : MethodName := ⟨RX9, "sends", "(II)I"⟩
abbrev cX9_undo : ByteArray := prog_11_method_44_code
def yX9_undo : MethodName := ⟨RX9, "undo", "()I"⟩
abbrev cX9_of : ByteArray := prog_11_method_45_code
def yX9_of : MethodName := ⟨RX9, "of", "(II)I"⟩
abbrev cX9_about : ByteArray := prog_11_method_46_code
def yX9_about : MethodName := ⟨RX9, "about", "(II)I"⟩
abbrev cX9_pull : ByteArray := prog_11_method_47_code
def yX9_pull : MethodName := ⟨RX9, "pull", "(II)I"⟩
abbrev cX9_drawn : ByteArray := prog_11_method_48_code
def yX9_drawn : MethodName := ⟨RX9, "drawn", "(II)I"⟩
abbrev cX9_sees : ByteArray := prog_11_method_49_code
def yX9_sees : MethodName := ⟨RX9, "sees", "(II)I"⟩
abbrev cX9_unseen : ByteArray := prog_11_method_50_code
def yX9_unseen : MethodName := ⟨RX9, "unseen", "(I)I"⟩
abbrev cX9_isUnseenIn : ByteArray := prog_11_method_51_code
def yX9_isUnseenIn : MethodName := ⟨RX9, "isUnseenIn", "(II)Z"⟩
abbrev cX9_when : ByteArray := prog_11_method_52_code
def yX9_when : MethodName := ⟨RX9, "when", "(I)I"⟩
abbrev cX9_enough : ByteArray := prog_11_method_53_code
def yX9_enough : MethodName := ⟨RX9, "enough", "(I)I"⟩
abbrev cX9_layHand : ByteArray := prog_11_method_54_code
def yX9_layHand : MethodName := ⟨RX9, "layHand", "()V"⟩
abbrev cX9_place : ByteArray := prog_11_method_55_code
def yX9_place : MethodName := ⟨RX9, "place", "(III)I"⟩
abbrev cX9_layGoals : ByteArray := prog_11_method_56_code
def yX9_layGoals : MethodName := ⟨RX9, "layGoals", "(I)I"⟩
abbrev cX9_lastBy : ByteArray := prog_11_method_57_code
def yX9_lastBy : MethodName := ⟨RX9, "lastBy", "(II)I"⟩
abbrev cX9_plan : ByteArray := prog_11_method_58_code
def yX9_plan : MethodName := ⟨RX9, "plan", "(II)I"⟩
abbrev cX9_guard : ByteArray := prog_11_method_59_code
def yX9_guard : MethodName := ⟨RX9, "guard", "(II)I"⟩
abbrev cX9_saw : ByteArray := prog_11_method_60_code
def yX9_saw : MethodName := ⟨RX9, "saw", "(II)I"⟩
abbrev cX9_where : ByteArray := prog_11_method_61_code
def yX9_where : MethodName := ⟨RX9, "where", "()I"⟩
abbrev cX9_note : ByteArray := prog_11_method_62_code
def yX9_note : MethodName := ⟨RX9, "note", "(IIIII)I"⟩
abbrev cX9_mark : ByteArray := prog_11_method_63_code
def yX9_mark : MethodName := ⟨RX9, "mark", "(IIII)I"⟩
abbrev cX9_forget : ByteArray := prog_11_method_64_code
def yX9_forget : MethodName := ⟨RX9, "forget", "(I)I"⟩
abbrev cX9_kindsOf : ByteArray := prog_11_method_65_code
def yX9_kindsOf : MethodName := ⟨RX9, "kindsOf", "(I)I"⟩
abbrev cX9_is : ByteArray := prog_11_method_66_code
def yX9_is : MethodName := ⟨RX9, "is", "(I)I"⟩
abbrev cX9_look : ByteArray := prog_11_method_67_code
def yX9_look : MethodName := ⟨RX9, "look", "(I)I"⟩
abbrev cX9_kindsOfWatcher : ByteArray := prog_11_method_68_code
def yX9_kindsOfWatcher : MethodName := ⟨RX9, "kindsOfWatcher", "(I)I"⟩
abbrev cX9_what : ByteArray := prog_11_method_69_code
def yX9_what : MethodName := ⟨RX9, "what", "(I)I"⟩
abbrev cX9_tries : ByteArray := prog_11_method_70_code
def yX9_tries : MethodName := ⟨RX9, "tries", "(I)I"⟩
abbrev cX9_game : ByteArray := prog_11_method_71_code
def yX9_game : MethodName := ⟨RX9, "game", "(III)I"⟩
abbrev cX9_fraction : ByteArray := prog_11_method_72_code
def yX9_fraction : MethodName := ⟨RX9, "fraction", "(JJ)V"⟩
abbrev cX9_fails : ByteArray := prog_11_method_73_code
def yX9_fails : MethodName := ⟨RX9, "fails", "(II)I"⟩
abbrev cX9_years : ByteArray := prog_11_method_74_code
def yX9_years : MethodName := ⟨RX9, "years", "(II)I"⟩
abbrev cX9_type : ByteArray := prog_11_method_75_code
def yX9_type : MethodName := ⟨RX9, "type", "(I)I"⟩
abbrev cX9_clear : ByteArray := prog_11_method_76_code
def yX9_clear : MethodName := ⟨RX9, "clear", "()I"⟩
abbrev cX9_isSmall : ByteArray := prog_11_method_77_code
def yX9_isSmall : MethodName := ⟨RX9, "isSmall", "(I)Z"⟩
abbrev cX9_isFigure : ByteArray := prog_11_method_78_code
def yX9_isFigure : MethodName := ⟨RX9, "isFigure", "(I)Z"⟩
abbrev cX9_lookAt : ByteArray := prog_11_method_79_code
def yX9_lookAt : MethodName := ⟨RX9, "lookAt", "(I)V"⟩
abbrev cX9_goBehind : ByteArray := prog_11_method_80_code
def yX9_goBehind : MethodName := ⟨RX9, "goBehind", "()V"⟩
abbrev cX9_spells : ByteArray := prog_11_method_81_code
def yX9_spells : MethodName := ⟨RX9, "spells", "(IIIIIII)Z"⟩
abbrev cX9_takes : ByteArray := prog_11_method_82_code
def yX9_takes : MethodName := ⟨RX9, "takes", "(III)Z"⟩
abbrev cX9_takesShow : ByteArray := prog_11_method_83_code
def yX9_takesShow : MethodName := ⟨RX9, "takesShow", "()Z"⟩
abbrev cX9_takesOff : ByteArray := prog_11_method_84_code
def yX9_takesOff : MethodName := ⟨RX9, "takesOff", "()Z"⟩
abbrev cX9_takesWatcher : ByteArray := prog_11_method_85_code
def yX9_takesWatcher : MethodName := ⟨RX9, "takesWatcher", "()Z"⟩
abbrev cX9_takesDo : ByteArray := prog_11_method_86_code
def yX9_takesDo : MethodName := ⟨RX9, "takesDo", "()Z"⟩
abbrev cX9_takesRest : ByteArray := prog_11_method_87_code
def yX9_takesRest : MethodName := ⟨RX9, "takesRest", "()Z"⟩
abbrev cX9_isWatcherWord : ByteArray := prog_11_method_88_code
def yX9_isWatcherWord : MethodName := ⟨RX9, "isWatcherWord", "()Z"⟩
abbrev cX9_takesItem : ByteArray := prog_11_method_89_code
def yX9_takesItem : MethodName := ⟨RX9, "takesItem", "()Z"⟩
abbrev cX9_read : ByteArray := prog_11_method_90_code
def yX9_read : MethodName := ⟨RX9, "read", "()I"⟩
abbrev cX9_part : ByteArray := prog_11_method_91_code
def yX9_part : MethodName := ⟨RX9, "part", "(I)J"⟩
abbrev cX9_image : ByteArray := prog_11_method_92_code
def yX9_image : MethodName := ⟨RX9, "image", "(I)I"⟩
abbrev cX9_from : ByteArray := prog_11_method_93_code
def yX9_from : MethodName := ⟨RX9, "from", "(I)I"⟩
abbrev cX9_status : ByteArray := prog_11_method_94_code
def yX9_status : MethodName := ⟨RX9, "status", "(I)I"⟩
abbrev cX9_allKnow : ByteArray := prog_11_method_95_code
def yX9_allKnow : MethodName := ⟨RX9, "allKnow", "()I"⟩
abbrev cX9_counted : ByteArray := prog_11_method_96_code
def yX9_counted : MethodName := ⟨RX9, "counted", "(I)I"⟩
abbrev cX9_count : ByteArray := prog_11_method_97_code
def yX9_count : MethodName := ⟨RX9, "count", "(I)I"⟩
abbrev cX9_sums : ByteArray := prog_11_method_98_code
def yX9_sums : MethodName := ⟨RX9, "sums", "(JII)J"⟩
abbrev cX9_digest : ByteArray := prog_11_method_99_code
def yX9_digest : MethodName := ⟨RX9, "digest", "()J"⟩
def RJ6 : String := "java/lang/Integer"
def TJ6 : u_T := fun k => match k with
  | _ => ("", "", "", false)
def tyJ6 : Nat → FieldType := fun k => match k with
  | _ => .int
theorem nmJ6 : ∀ a, a < 0 → ∀ b, b < 0 → a ≠ b → (TJ6 a).2.1 ≠ (TJ6 b).2.1 := by decide +kernel
theorem tyJ6_ok : ∀ k, k < 0 → parseFieldDescriptor (TJ6 k).2.2.1 = some (tyJ6 k) := by decide +kernel
abbrev cJ6_numberOfTrailingZeros_0f7a4 : ByteArray := prog_12_method_48_code
def yJ6_numberOfTrailingZeros_0f7a4 : MethodName := ⟨RJ6, "numberOfTrailingZeros", "(I)I"⟩
abbrev cJ6_bitCount_0f7a4 : ByteArray := prog_12_method_49_code
def yJ6_bitCount_0f7a4 : MethodName := ⟨RJ6, "bitCount", "(I)I"⟩
def RJ9 : String := "java/lang/Math"
def TJ9 : u_T := fun k => match k with
  | _ => ("", "", "", false)
def tyJ9 : Nat → FieldType := fun k => match k with
  | _ => .int
theorem nmJ9 : ∀ a, a < 0 → ∀ b, b < 0 → a ≠ b → (TJ9 a).2.1 ≠ (TJ9 b).2.1 := by decide +kernel
theorem tyJ9_ok : ∀ k, k < 0 → parseFieldDescriptor (TJ9 k).2.2.1 = some (tyJ9 k) := by decide +kernel
abbrev cJ9_abs_0f7a4 : ByteArray := prog_13_method_59_code
def yJ9_abs_0f7a4 : MethodName := ⟨RJ9, "abs", "(I)I"⟩
abbrev cJ9_max_7cf53 : ByteArray := prog_13_method_65_code
def yJ9_max_7cf53 : MethodName := ⟨RJ9, "max", "(II)I"⟩
abbrev cJ9_min_7cf53 : ByteArray := prog_13_method_69_code
def yJ9_min_7cf53 : MethodName := ⟨RJ9, "min", "(II)I"⟩
def RJ0 : String := "java/lang/String"
def TJ0 : u_T := fun k => match k with
  | _ => ("", "", "", false)
def tyJ0 : Nat → FieldType := fun k => match k with
  | _ => .int
theorem nmJ0 : ∀ a, a < 0 → ∀ b, b < 0 → a ≠ b → (TJ0 a).2.1 ≠ (TJ0 b).2.1 := by decide +kernel
theorem tyJ0_ok : ∀ k, k < 0 → parseFieldDescriptor (TJ0 k).2.2.1 = some (tyJ0 k) := by decide +kernel
abbrev cJ0_length_8abf5 : ByteArray := prog_14_method_54_code
def yJ0_length_8abf5 : MethodName := ⟨RJ0, "length", "()I"⟩
abbrev cJ0_charAt_5068e : ByteArray := prog_14_method_56_code
def yJ0_charAt_5068e : MethodName := ⟨RJ0, "charAt", "(I)C"⟩
abbrev cJ0_coder_7d493 : ByteArray := prog_14_method_152_code
def yJ0_coder_7d493 : MethodName := ⟨RJ0, "coder", "()B"⟩
abbrev cJ0_isLatin1_aae02 : ByteArray := prog_14_method_154_code
def yJ0_isLatin1_aae02 : MethodName := ⟨RJ0, "isLatin1", "()Z"⟩
abbrev cJ0_checkIndex_df160 : ByteArray := prog_14_method_155_code
def yJ0_checkIndex_df160 : MethodName := ⟨RJ0, "checkIndex", "(II)V"⟩
def RJ1 : String := "java/lang/StringLatin1"
def TJ1 : u_T := fun k => match k with
  | _ => ("", "", "", false)
def tyJ1 : Nat → FieldType := fun k => match k with
  | _ => .int
theorem nmJ1 : ∀ a, a < 0 → ∀ b, b < 0 → a ≠ b → (TJ1 a).2.1 ≠ (TJ1 b).2.1 := by decide +kernel
theorem tyJ1_ok : ∀ k, k < 0 → parseFieldDescriptor (TJ1 k).2.2.1 = some (tyJ1 k) := by decide +kernel
abbrev cJ1_charAt_3b067 : ByteArray := prog_15_method_2_code
def yJ1_charAt_3b067 : MethodName := ⟨RJ1, "charAt", "([BI)C"⟩
def RJ2 : String := "java/lang/StringUTF16"
def TJ2 : u_T := fun k => match k with
  | _ => ("", "", "", false)
def tyJ2 : Nat → FieldType := fun k => match k with
  | _ => .int
theorem nmJ2 : ∀ a, a < 0 → ∀ b, b < 0 → a ≠ b → (TJ2 a).2.1 ≠ (TJ2 b).2.1 := by decide +kernel
theorem tyJ2_ok : ∀ k, k < 0 → parseFieldDescriptor (TJ2 k).2.2.1 = some (tyJ2 k) := by decide +kernel
abbrev cJ2_getChar_3b067 : ByteArray := prog_16_method_5_code
def yJ2_getChar_3b067 : MethodName := ⟨RJ2, "getChar", "([BI)C"⟩
abbrev cJ2_length_9d52b : ByteArray := prog_16_method_6_code
def yJ2_length_9d52b : MethodName := ⟨RJ2, "length", "([B)I"⟩
abbrev cJ2_charAt_3b067 : ByteArray := prog_16_method_83_code
def yJ2_charAt_3b067 : MethodName := ⟨RJ2, "charAt", "([BI)C"⟩
abbrev cJ2_checkIndex_2214a : ByteArray := prog_16_method_91_code
def yJ2_checkIndex_2214a : MethodName := ⟨RJ2, "checkIndex", "(I[B)V"⟩
def RJ3 : String := "jdk/internal/util/Preconditions"
def TJ3 : u_T := fun k => match k with
  | _ => ("", "", "", false)
def tyJ3 : Nat → FieldType := fun k => match k with
  | _ => .int
theorem nmJ3 : ∀ a, a < 0 → ∀ b, b < 0 → a ≠ b → (TJ3 a).2.1 ≠ (TJ3 b).2.1 := by decide +kernel
theorem tyJ3_ok : ∀ k, k < 0 → parseFieldDescriptor (TJ3 k).2.2.1 = some (tyJ3 k) := by decide +kernel
abbrev cJ3_checkIndex_8e157 : ByteArray := prog_17_method_11_code
def yJ3_checkIndex_8e157 : MethodName := ⟨RJ3, "checkIndex", "(IILjava/util/function/BiFunction;)I"⟩
def RL : String := "CountyTrickLaw"
abbrev cL_law : ByteArray := code
def yL_law : MethodName := ⟨RL, "law", "([I)Z"⟩
abbrev vwCl : List vw_C := [(RX0, TX0, 5), (RX2, TX2, 11), (RX3, TX3, 2), (RX4, TX4, 2), (RX5, TX5, 8), (RX6, TX6, 2), (RX7, TX7, 1), (RX8, TX8, 13), (RX9, TX9, 19)]
end
section
/-! words of the tables by their places; the good ones among them -/
def WS : List Cond := lw_tbl.filter goodWord
theorem ws1 {w : Cond} (i : Nat) (h1 : tables_1_1[i]? = some w) (g : goodWord w = true) : w ∈ WS := by
  have h := List.mem_of_getElem? h1
  exact List.mem_filter.mpr ⟨List.mem_append_right _ (show w ∈ tables_1_1 ++ (tables_1_2 ++ (tables_1_3 ++ (tables_1_4 ++ (tables_1_5 ++ tables_1_6)))) from List.mem_append_left _ h), g⟩
theorem wt1 {w : Cond} (i : Nat) (h1 : tables_1_1[i]? = some w) : w ∈ lw_tbl := by
  have h := List.mem_of_getElem? h1
  exact List.mem_append_right _ (show w ∈ tables_1_1 ++ (tables_1_2 ++ (tables_1_3 ++ (tables_1_4 ++ (tables_1_5 ++ tables_1_6)))) from List.mem_append_left _ h)
theorem ws2 {w : Cond} (i : Nat) (h1 : tables_1_2[i]? = some w) (g : goodWord w = true) : w ∈ WS := by
  have h := List.mem_of_getElem? h1
  exact List.mem_filter.mpr ⟨List.mem_append_right _ (show w ∈ tables_1_1 ++ (tables_1_2 ++ (tables_1_3 ++ (tables_1_4 ++ (tables_1_5 ++ tables_1_6)))) from List.mem_append_right _ (List.mem_append_left _ h)), g⟩
theorem wt2 {w : Cond} (i : Nat) (h1 : tables_1_2[i]? = some w) : w ∈ lw_tbl := by
  have h := List.mem_of_getElem? h1
  exact List.mem_append_right _ (show w ∈ tables_1_1 ++ (tables_1_2 ++ (tables_1_3 ++ (tables_1_4 ++ (tables_1_5 ++ tables_1_6)))) from List.mem_append_right _ (List.mem_append_left _ h))
theorem ws3 {w : Cond} (i : Nat) (h1 : tables_1_3[i]? = some w) (g : goodWord w = true) : w ∈ WS := by
  have h := List.mem_of_getElem? h1
  exact List.mem_filter.mpr ⟨List.mem_append_right _ (show w ∈ tables_1_1 ++ (tables_1_2 ++ (tables_1_3 ++ (tables_1_4 ++ (tables_1_5 ++ tables_1_6)))) from List.mem_append_right _ (List.mem_append_right _ (List.mem_append_left _ h))), g⟩
theorem wt3 {w : Cond} (i : Nat) (h1 : tables_1_3[i]? = some w) : w ∈ lw_tbl := by
  have h := List.mem_of_getElem? h1
  exact List.mem_append_right _ (show w ∈ tables_1_1 ++ (tables_1_2 ++ (tables_1_3 ++ (tables_1_4 ++ (tables_1_5 ++ tables_1_6)))) from List.mem_append_right _ (List.mem_append_right _ (List.mem_append_left _ h)))
theorem ws4 {w : Cond} (i : Nat) (h1 : tables_1_4[i]? = some w) (g : goodWord w = true) : w ∈ WS := by
  have h := List.mem_of_getElem? h1
  exact List.mem_filter.mpr ⟨List.mem_append_right _ (show w ∈ tables_1_1 ++ (tables_1_2 ++ (tables_1_3 ++ (tables_1_4 ++ (tables_1_5 ++ tables_1_6)))) from List.mem_append_right _ (List.mem_append_right _ (List.mem_append_right _ (List.mem_append_left _ h)))), g⟩
theorem wt4 {w : Cond} (i : Nat) (h1 : tables_1_4[i]? = some w) : w ∈ lw_tbl := by
  have h := List.mem_of_getElem? h1
  exact List.mem_append_right _ (show w ∈ tables_1_1 ++ (tables_1_2 ++ (tables_1_3 ++ (tables_1_4 ++ (tables_1_5 ++ tables_1_6)))) from List.mem_append_right _ (List.mem_append_right _ (List.mem_append_right _ (List.mem_append_left _ h))))
theorem ws5 {w : Cond} (i : Nat) (h1 : tables_1_5[i]? = some w) (g : goodWord w = true) : w ∈ WS := by
  have h := List.mem_of_getElem? h1
  exact List.mem_filter.mpr ⟨List.mem_append_right _ (show w ∈ tables_1_1 ++ (tables_1_2 ++ (tables_1_3 ++ (tables_1_4 ++ (tables_1_5 ++ tables_1_6)))) from List.mem_append_right _ (List.mem_append_right _ (List.mem_append_right _ (List.mem_append_right _ (List.mem_append_left _ h))))), g⟩
theorem wt5 {w : Cond} (i : Nat) (h1 : tables_1_5[i]? = some w) : w ∈ lw_tbl := by
  have h := List.mem_of_getElem? h1
  exact List.mem_append_right _ (show w ∈ tables_1_1 ++ (tables_1_2 ++ (tables_1_3 ++ (tables_1_4 ++ (tables_1_5 ++ tables_1_6)))) from List.mem_append_right _ (List.mem_append_right _ (List.mem_append_right _ (List.mem_append_right _ (List.mem_append_left _ h)))))
theorem ws6 {w : Cond} (i : Nat) (h1 : tables_1_6[i]? = some w) (g : goodWord w = true) : w ∈ WS := by
  have h := List.mem_of_getElem? h1
  exact List.mem_filter.mpr ⟨List.mem_append_right _ (show w ∈ tables_1_1 ++ (tables_1_2 ++ (tables_1_3 ++ (tables_1_4 ++ (tables_1_5 ++ tables_1_6)))) from List.mem_append_right _ (List.mem_append_right _ (List.mem_append_right _ (List.mem_append_right _ (List.mem_append_right _ (h)))))), g⟩
theorem wt6 {w : Cond} (i : Nat) (h1 : tables_1_6[i]? = some w) : w ∈ lw_tbl := by
  have h := List.mem_of_getElem? h1
  exact List.mem_append_right _ (show w ∈ tables_1_1 ++ (tables_1_2 ++ (tables_1_3 ++ (tables_1_4 ++ (tables_1_5 ++ tables_1_6)))) from List.mem_append_right _ (List.mem_append_right _ (List.mem_append_right _ (List.mem_append_right _ (List.mem_append_right _ (h))))))
theorem wsP {q : MethodName × Nat} (i : Nat) (h : lw_privs[i]? = some q) : Cond.selects q.1.cls q.1 q.1 ∈ WS := List.mem_filter.mpr ⟨List.mem_append_left _ (List.mem_map.mpr ⟨q, List.mem_of_getElem? h, rfl⟩), rfl⟩
theorem WS_in {w : Cond} (h : w ∈ WS) : w ∈ lw_tbl := (List.mem_filter.mp h).1
theorem WS_good : GoodIn WS WS := fun w h => ⟨h, good_of_word (List.mem_filter.mp h).2⟩
theorem WS_code {y : MethodName} {b : ByteArray} {n : Nat} {r : Option FieldType} (h : Cond.code y b n r ∈ WS) : GoodIn WS (Cond.code y b n r :: WS) := fun w hw => (List.mem_cons.mp hw).elim (fun e => e ▸ WS_good _ h) (fun h => WS_good _ h)
theorem wq_n_RL : Cond.initialized RL ∈ WS := ws1 0 (by decide +kernel) rfl
theorem wq_n_RX8 : Cond.initialized RX8 ∈ WS := ws1 1 (by decide +kernel) rfl
theorem wq_n_RX0 : Cond.initialized RX0 ∈ WS := ws1 2 (by decide +kernel) rfl
theorem wq_n_RX2 : Cond.initialized RX2 ∈ WS := ws1 3 (by decide +kernel) rfl
theorem wq_n_RX3 : Cond.initialized RX3 ∈ WS := ws1 4 (by decide +kernel) rfl
theorem wq_n_RX6 : Cond.initialized RX6 ∈ WS := ws1 5 (by decide +kernel) rfl
theorem wq_n_RX7 : Cond.initialized RX7 ∈ WS := ws1 6 (by decide +kernel) rfl
theorem wq_n_RX5 : Cond.initialized RX5 ∈ WS := ws1 7 (by decide +kernel) rfl
theorem wq_n_RX4 : Cond.initialized RX4 ∈ WS := ws1 8 (by decide +kernel) rfl
theorem wq_n_RX9 : Cond.initialized RX9 ∈ WS := ws1 9 (by decide +kernel) rfl
theorem wq_n_RJ0 : Cond.initialized RJ0 ∈ WS := ws1 10 (by decide +kernel) rfl
theorem wq_n_RJ1 : Cond.initialized RJ1 ∈ WS := ws1 11 (by decide +kernel) rfl
theorem wq_n_RJ3 : Cond.initialized RJ3 ∈ WS := ws1 12 (by decide +kernel) rfl
theorem wq_n_RJ2 : Cond.initialized RJ2 ∈ WS := ws1 13 (by decide +kernel) rfl
theorem wq_n_RJ9 : Cond.initialized RJ9 ∈ WS := ws1 14 (by decide +kernel) rfl
theorem wq_n_RX1 : Cond.initialized RX1 ∈ WS := ws1 15 (by decide +kernel) rfl
theorem wq_n_RJ6 : Cond.initialized RJ6 ∈ WS := ws1 16 (by decide +kernel) rfl
theorem wq_c_yX8_init : Cond.code yX8_init cX8_init 2 none ∈ WS := ws1 21 (by decide +kernel) rfl
theorem wq_i_yX8_init : Cond.instanceMethod yX8_init ∈ WS := ws1 20 (by decide +kernel) rfl
theorem wq_c_objectInit : Cond.code objectInit ⟨#[0xb1]⟩ 1 none ∈ WS := ws1 24 (by decide +kernel) rfl
theorem wq_i_objectInit : Cond.instanceMethod objectInit ∈ WS := ws1 23 (by decide +kernel) rfl
theorem wq_c_yX0_init : Cond.code yX0_init cX0_init 1 none ∈ WS := ws1 29 (by decide +kernel) rfl
theorem wq_i_yX0_init : Cond.instanceMethod yX0_init ∈ WS := ws1 28 (by decide +kernel) rfl
theorem wq_c_yX2_init : Cond.code yX2_init cX2_init 1 none ∈ WS := ws1 35 (by decide +kernel) rfl
theorem wq_i_yX2_init : Cond.instanceMethod yX2_init ∈ WS := ws1 34 (by decide +kernel) rfl
theorem wq_c_yX3_init : Cond.code yX3_init cX3_init 2 none ∈ WS := ws1 95 (by decide +kernel) rfl
theorem wq_i_yX3_init : Cond.instanceMethod yX3_init ∈ WS := ws1 94 (by decide +kernel) rfl
theorem wq_c_yX6_init : Cond.code yX6_init cX6_init 1 none ∈ WS := ws1 113 (by decide +kernel) rfl
theorem wq_i_yX6_init : Cond.instanceMethod yX6_init ∈ WS := ws1 112 (by decide +kernel) rfl
theorem wq_c_yX7_init : Cond.code yX7_init cX7_init 1 none ∈ WS := ws1 152 (by decide +kernel) rfl
theorem wq_i_yX7_init : Cond.instanceMethod yX7_init ∈ WS := ws1 151 (by decide +kernel) rfl
theorem wq_c_yX5_init : Cond.code yX5_init cX5_init 1 none ∈ WS := ws1 163 (by decide +kernel) rfl
theorem wq_i_yX5_init : Cond.instanceMethod yX5_init ∈ WS := ws1 162 (by decide +kernel) rfl
theorem wq_c_yX4_init : Cond.code yX4_init cX4_init 1 none ∈ WS := ws1 195 (by decide +kernel) rfl
theorem wq_i_yX4_init : Cond.instanceMethod yX4_init ∈ WS := ws1 194 (by decide +kernel) rfl
theorem wq_c_yX8_land : Cond.code yX8_land cX8_land 2 (some .int) ∈ WS := ws2 8 (by decide +kernel) rfl
theorem wq_i_yX8_land : Cond.instanceMethod yX8_land ∈ WS := ws2 6 (by decide +kernel) rfl
theorem wq_c_yX0_makeEmpty : Cond.code yX0_makeEmpty cX0_makeEmpty 1 none ∈ WS := ws2 12 (by decide +kernel) rfl
theorem wq_i_yX0_makeEmpty : Cond.instanceMethod yX0_makeEmpty ∈ WS := ws2 10 (by decide +kernel) rfl
theorem wq_c_yX2_makeEmpty : Cond.code yX2_makeEmpty cX2_makeEmpty 1 none ∈ WS := ws2 16 (by decide +kernel) rfl
theorem wq_i_yX2_makeEmpty : Cond.instanceMethod yX2_makeEmpty ∈ WS := ws2 14 (by decide +kernel) rfl
theorem wq_c_yX8_show : Cond.code yX8_show cX8_show 4 (some .int) ∈ WS := ws2 20 (by decide +kernel) rfl
theorem wq_i_yX8_show : Cond.instanceMethod yX8_show ∈ WS := ws2 18 (by decide +kernel) rfl
theorem wq_c_yX8_isKind : Cond.code yX8_isKind cX8_isKind 1 (some .boolean) ∈ WS := ws2 23 (by decide +kernel) rfl
theorem wq_t_yX8_isKind : Cond.static yX8_isKind ∈ WS := ws2 22 (by decide +kernel) rfl
theorem wq_c_yX8_within : Cond.code yX8_within cX8_within 3 (some .boolean) ∈ WS := ws2 26 (by decide +kernel) rfl
theorem wq_t_yX8_within : Cond.static yX8_within ∈ WS := ws2 25 (by decide +kernel) rfl
theorem wq_c_yX8_isCell : Cond.code yX8_isCell cX8_isCell 1 (some .boolean) ∈ WS := ws2 29 (by decide +kernel) rfl
theorem wq_t_yX8_isCell : Cond.static yX8_isCell ∈ WS := ws2 28 (by decide +kernel) rfl
theorem wq_c_yX8_isLoud : Cond.code yX8_isLoud cX8_isLoud 1 (some .boolean) ∈ WS := ws2 32 (by decide +kernel) rfl
theorem wq_t_yX8_isLoud : Cond.static yX8_isLoud ∈ WS := ws2 31 (by decide +kernel) rfl
theorem wq_c_yX8_refuse : Cond.code yX8_refuse cX8_refuse 2 (some .int) ∈ WS := ws2 36 (by decide +kernel) rfl
theorem wq_i_yX8_refuse : Cond.instanceMethod yX8_refuse ∈ WS := ws2 35 (by decide +kernel) rfl
theorem wq_s_yX8_refuse : Cond.selects yX8_refuse.cls yX8_refuse yX8_refuse ∈ WS := wsP (q := (yX8_refuse, 13)) 0 (by decide +kernel)
theorem wq_c_yX2_addShow : Cond.code yX2_addShow cX2_addShow 4 (some .int) ∈ WS := ws2 40 (by decide +kernel) rfl
theorem wq_i_yX2_addShow : Cond.instanceMethod yX2_addShow ∈ WS := ws2 38 (by decide +kernel) rfl
theorem wq_c_yX8_watcher : Cond.code yX8_watcher cX8_watcher 3 (some .int) ∈ WS := ws2 44 (by decide +kernel) rfl
theorem wq_i_yX8_watcher : Cond.instanceMethod yX8_watcher ∈ WS := ws2 42 (by decide +kernel) rfl
theorem wq_c_yX2_addWatcher : Cond.code yX2_addWatcher cX2_addWatcher 3 (some .int) ∈ WS := ws2 48 (by decide +kernel) rfl
theorem wq_i_yX2_addWatcher : Cond.instanceMethod yX2_addWatcher ∈ WS := ws2 46 (by decide +kernel) rfl
theorem wq_c_yX8_type : Cond.code yX8_type cX8_type 2 (some .int) ∈ WS := ws2 52 (by decide +kernel) rfl
theorem wq_i_yX8_type : Cond.instanceMethod yX8_type ∈ WS := ws2 50 (by decide +kernel) rfl
theorem wq_c_yX5_append : Cond.code yX5_append cX5_append 2 none ∈ WS := ws2 56 (by decide +kernel) rfl
theorem wq_i_yX5_append : Cond.instanceMethod yX5_append ∈ WS := ws2 54 (by decide +kernel) rfl
theorem wq_c_yX8_clear : Cond.code yX8_clear cX8_clear 2 (some .int) ∈ WS := ws2 60 (by decide +kernel) rfl
theorem wq_i_yX8_clear : Cond.instanceMethod yX8_clear ∈ WS := ws2 58 (by decide +kernel) rfl
theorem wq_c_yX8_read : Cond.code yX8_read cX8_read 2 (some .int) ∈ WS := ws2 64 (by decide +kernel) rfl
theorem wq_i_yX8_read : Cond.instanceMethod yX8_read ∈ WS := ws2 62 (by decide +kernel) rfl
theorem wq_c_yX5_readInto : Cond.code yX5_readInto cX5_readInto 4 (some .int) ∈ WS := ws2 68 (by decide +kernel) rfl
theorem wq_i_yX5_readInto : Cond.instanceMethod yX5_readInto ∈ WS := ws2 66 (by decide +kernel) rfl
theorem wq_c_yX5_advance : Cond.code yX5_advance cX5_advance 1 none ∈ WS := ws2 73 (by decide +kernel) rfl
theorem wq_i_yX5_advance : Cond.instanceMethod yX5_advance ∈ WS := ws2 72 (by decide +kernel) rfl
theorem wq_s_yX5_advance : Cond.selects yX5_advance.cls yX5_advance yX5_advance ∈ WS := wsP (q := (yX5_advance, 8)) 1 (by decide +kernel)
theorem wq_c_yX5_byteAt : Cond.code yX5_byteAt cX5_byteAt 2 (some .int) ∈ WS := ws2 77 (by decide +kernel) rfl
theorem wq_i_yX5_byteAt : Cond.instanceMethod yX5_byteAt ∈ WS := ws2 76 (by decide +kernel) rfl
theorem wq_s_yX5_byteAt : Cond.selects yX5_byteAt.cls yX5_byteAt yX5_byteAt ∈ WS := wsP (q := (yX5_byteAt, 8)) 2 (by decide +kernel)
theorem wq_c_yX5_isLetterAt : Cond.code yX5_isLetterAt cX5_isLetterAt 2 (some .boolean) ∈ WS := ws2 81 (by decide +kernel) rfl
theorem wq_i_yX5_isLetterAt : Cond.instanceMethod yX5_isLetterAt ∈ WS := ws2 80 (by decide +kernel) rfl
theorem wq_s_yX5_isLetterAt : Cond.selects yX5_isLetterAt.cls yX5_isLetterAt yX5_isLetterAt ∈ WS := wsP (q := (yX5_isLetterAt, 8)) 3 (by decide +kernel)
theorem wq_c_yX5_wordEnd : Cond.code yX5_wordEnd cX5_wordEnd 3 (some .int) ∈ WS := ws2 85 (by decide +kernel) rfl
theorem wq_i_yX5_wordEnd : Cond.instanceMethod yX5_wordEnd ∈ WS := ws2 84 (by decide +kernel) rfl
theorem wq_s_yX5_wordEnd : Cond.selects yX5_wordEnd.cls yX5_wordEnd yX5_wordEnd ∈ WS := wsP (q := (yX5_wordEnd, 8)) 4 (by decide +kernel)
theorem wq_c_yX5_wordNumber : Cond.code yX5_wordNumber cX5_wordNumber 1 (some .int) ∈ WS := ws2 89 (by decide +kernel) rfl
theorem wq_i_yX5_wordNumber : Cond.instanceMethod yX5_wordNumber ∈ WS := ws2 88 (by decide +kernel) rfl
theorem wq_s_yX5_wordNumber : Cond.selects yX5_wordNumber.cls yX5_wordNumber yX5_wordNumber ∈ WS := wsP (q := (yX5_wordNumber, 8)) 5 (by decide +kernel)
theorem wq_c_yX5_isWord : Cond.code yX5_isWord cX5_isWord 3 (some .boolean) ∈ WS := ws2 94 (by decide +kernel) rfl
theorem wq_i_yX5_isWord : Cond.instanceMethod yX5_isWord ∈ WS := ws2 93 (by decide +kernel) rfl
theorem wq_s_yX5_isWord : Cond.selects yX5_isWord.cls yX5_isWord yX5_isWord ∈ WS := wsP (q := (yX5_isWord, 8)) 6 (by decide +kernel)
theorem wq_c_yJ0_length_8abf5 : Cond.code yJ0_length_8abf5 cJ0_length_8abf5 1 (some .int) ∈ WS := ws2 98 (by decide +kernel) rfl
theorem wq_i_yJ0_length_8abf5 : Cond.instanceMethod yJ0_length_8abf5 ∈ WS := ws2 96 (by decide +kernel) rfl
theorem wq_c_yJ0_coder_7d493 : Cond.code yJ0_coder_7d493 cJ0_coder_7d493 1 (some .byte) ∈ WS := ws2 102 (by decide +kernel) rfl
theorem wq_i_yJ0_coder_7d493 : Cond.instanceMethod yJ0_coder_7d493 ∈ WS := ws2 100 (by decide +kernel) rfl
theorem wq_c_yJ0_charAt_5068e : Cond.code yJ0_charAt_5068e cJ0_charAt_5068e 2 (some .char) ∈ WS := ws2 108 (by decide +kernel) rfl
theorem wq_i_yJ0_charAt_5068e : Cond.instanceMethod yJ0_charAt_5068e ∈ WS := ws2 106 (by decide +kernel) rfl
theorem wq_c_yJ0_isLatin1_aae02 : Cond.code yJ0_isLatin1_aae02 cJ0_isLatin1_aae02 1 (some .boolean) ∈ WS := ws2 112 (by decide +kernel) rfl
theorem wq_i_yJ0_isLatin1_aae02 : Cond.instanceMethod yJ0_isLatin1_aae02 ∈ WS := ws2 110 (by decide +kernel) rfl
theorem wq_c_yJ1_charAt_3b067 : Cond.code yJ1_charAt_3b067 cJ1_charAt_3b067 2 (some .char) ∈ WS := ws2 115 (by decide +kernel) rfl
theorem wq_t_yJ1_charAt_3b067 : Cond.static yJ1_charAt_3b067 ∈ WS := ws2 114 (by decide +kernel) rfl
theorem wq_c_yJ0_checkIndex_df160 : Cond.code yJ0_checkIndex_df160 cJ0_checkIndex_df160 2 none ∈ WS := ws2 118 (by decide +kernel) rfl
theorem wq_t_yJ0_checkIndex_df160 : Cond.static yJ0_checkIndex_df160 ∈ WS := ws2 117 (by decide +kernel) rfl
theorem wq_c_yJ3_checkIndex_8e157 : Cond.code yJ3_checkIndex_8e157 cJ3_checkIndex_8e157 3 (some .int) ∈ WS := ws2 123 (by decide +kernel) rfl
theorem wq_t_yJ3_checkIndex_8e157 : Cond.static yJ3_checkIndex_8e157 ∈ WS := ws2 122 (by decide +kernel) rfl
theorem wq_c_yJ2_charAt_3b067 : Cond.code yJ2_charAt_3b067 cJ2_charAt_3b067 2 (some .char) ∈ WS := ws2 126 (by decide +kernel) rfl
theorem wq_t_yJ2_charAt_3b067 : Cond.static yJ2_charAt_3b067 ∈ WS := ws2 125 (by decide +kernel) rfl
theorem wq_c_yJ2_checkIndex_2214a : Cond.code yJ2_checkIndex_2214a cJ2_checkIndex_2214a 2 none ∈ WS := ws2 129 (by decide +kernel) rfl
theorem wq_t_yJ2_checkIndex_2214a : Cond.static yJ2_checkIndex_2214a ∈ WS := ws2 128 (by decide +kernel) rfl
theorem wq_c_yJ2_length_9d52b : Cond.code yJ2_length_9d52b cJ2_length_9d52b 1 (some .int) ∈ WS := ws2 132 (by decide +kernel) rfl
theorem wq_t_yJ2_length_9d52b : Cond.static yJ2_length_9d52b ∈ WS := ws2 131 (by decide +kernel) rfl
theorem wq_c_yJ2_getChar_3b067 : Cond.code yJ2_getChar_3b067 cJ2_getChar_3b067 2 (some .char) ∈ WS := ws2 136 (by decide +kernel) rfl
theorem wq_t_yJ2_getChar_3b067 : Cond.static yJ2_getChar_3b067 ∈ WS := ws2 135 (by decide +kernel) rfl
theorem wq_c_yX5_isFigureAt : Cond.code yX5_isFigureAt cX5_isFigureAt 2 (some .boolean) ∈ WS := ws2 151 (by decide +kernel) rfl
theorem wq_i_yX5_isFigureAt : Cond.instanceMethod yX5_isFigureAt ∈ WS := ws2 150 (by decide +kernel) rfl
theorem wq_s_yX5_isFigureAt : Cond.selects yX5_isFigureAt.cls yX5_isFigureAt yX5_isFigureAt ∈ WS := wsP (q := (yX5_isFigureAt, 8)) 7 (by decide +kernel)
theorem wq_c_yX5_takeNumber : Cond.code yX5_takeNumber cX5_takeNumber 1 none ∈ WS := ws2 155 (by decide +kernel) rfl
theorem wq_i_yX5_takeNumber : Cond.instanceMethod yX5_takeNumber ∈ WS := ws2 154 (by decide +kernel) rfl
theorem wq_s_yX5_takeNumber : Cond.selects yX5_takeNumber.cls yX5_takeNumber yX5_takeNumber ∈ WS := wsP (q := (yX5_takeNumber, 8)) 8 (by decide +kernel)
theorem wq_c_yX5_takeItem : Cond.code yX5_takeItem cX5_takeItem 4 (some .boolean) ∈ WS := ws2 159 (by decide +kernel) rfl
theorem wq_i_yX5_takeItem : Cond.instanceMethod yX5_takeItem ∈ WS := ws2 158 (by decide +kernel) rfl
theorem wq_s_yX5_takeItem : Cond.selects yX5_takeItem.cls yX5_takeItem yX5_takeItem ∈ WS := wsP (q := (yX5_takeItem, 8)) 9 (by decide +kernel)
theorem wq_c_yX5_mayStand : Cond.code yX5_mayStand cX5_mayStand 3 (some .boolean) ∈ WS := ws2 162 (by decide +kernel) rfl
theorem wq_t_yX5_mayStand : Cond.static yX5_mayStand ∈ WS := ws2 161 (by decide +kernel) rfl
theorem wq_c_yX5_numbersBehind : Cond.code yX5_numbersBehind cX5_numbersBehind 1 (some .int) ∈ WS := ws2 165 (by decide +kernel) rfl
theorem wq_t_yX5_numbersBehind : Cond.static yX5_numbersBehind ∈ WS := ws2 164 (by decide +kernel) rfl
theorem wq_c_yX5_least : Cond.code yX5_least cX5_least 2 (some .int) ∈ WS := ws2 168 (by decide +kernel) rfl
theorem wq_t_yX5_least : Cond.static yX5_least ∈ WS := ws2 167 (by decide +kernel) rfl
theorem wq_c_yX5_most : Cond.code yX5_most cX5_most 3 (some .int) ∈ WS := ws2 171 (by decide +kernel) rfl
theorem wq_t_yX5_most : Cond.static yX5_most ∈ WS := ws2 170 (by decide +kernel) rfl
theorem wq_c_yX5_carryOut : Cond.code yX5_carryOut cX5_carryOut 3 none ∈ WS := ws2 175 (by decide +kernel) rfl
theorem wq_i_yX5_carryOut : Cond.instanceMethod yX5_carryOut ∈ WS := ws2 174 (by decide +kernel) rfl
theorem wq_s_yX5_carryOut : Cond.selects yX5_carryOut.cls yX5_carryOut yX5_carryOut ∈ WS := wsP (q := (yX5_carryOut, 8)) 10 (by decide +kernel)
theorem wq_c_yX2_hasShow : Cond.code yX2_hasShow cX2_hasShow 2 (some .boolean) ∈ WS := ws2 181 (by decide +kernel) rfl
theorem wq_i_yX2_hasShow : Cond.instanceMethod yX2_hasShow ∈ WS := ws2 179 (by decide +kernel) rfl
theorem wq_c_yX7_doingIn : Cond.code yX7_doingIn cX7_doingIn 5 (some .int) ∈ WS := ws2 185 (by decide +kernel) rfl
theorem wq_i_yX7_doingIn : Cond.instanceMethod yX7_doingIn ∈ WS := ws2 183 (by decide +kernel) rfl
theorem wq_c_yX2_onBits : Cond.code yX2_onBits cX2_onBits 3 (some .int) ∈ WS := ws2 189 (by decide +kernel) rfl
theorem wq_i_yX2_onBits : Cond.instanceMethod yX2_onBits ∈ WS := ws2 187 (by decide +kernel) rfl
theorem wq_c_yX2_dayStep : Cond.code yX2_dayStep cX2_dayStep 2 (some .int) ∈ WS := ws2 193 (by decide +kernel) rfl
theorem wq_i_yX2_dayStep : Cond.instanceMethod yX2_dayStep ∈ WS := ws2 191 (by decide +kernel) rfl
theorem wq_c_yX7_gauge : Cond.code yX7_gauge cX7_gauge 5 none ∈ WS := ws2 197 (by decide +kernel) rfl
theorem wq_i_yX7_gauge : Cond.instanceMethod yX7_gauge ∈ WS := ws2 195 (by decide +kernel) rfl
theorem wq_c_yX2_greatestPull : Cond.code yX2_greatestPull cX2_greatestPull 7 (some .int) ∈ WS := ws2 201 (by decide +kernel) rfl
theorem wq_i_yX2_greatestPull : Cond.instanceMethod yX2_greatestPull ∈ WS := ws2 199 (by decide +kernel) rfl
theorem wq_c_yX8_far : Cond.code yX8_far cX8_far 2 (some .int) ∈ WS := ws2 204 (by decide +kernel) rfl
theorem wq_t_yX8_far : Cond.static yX8_far ∈ WS := ws2 203 (by decide +kernel) rfl
theorem wq_c_yJ9_abs_0f7a4 : Cond.code yJ9_abs_0f7a4 cJ9_abs_0f7a4 1 (some .int) ∈ WS := ws2 207 (by decide +kernel) rfl
theorem wq_t_yJ9_abs_0f7a4 : Cond.static yJ9_abs_0f7a4 ∈ WS := ws2 206 (by decide +kernel) rfl
theorem wq_c_yX1_pullBy : Cond.code yX1_pullBy cX1_pullBy 8 (some .int) ∈ WS := ws2 210 (by decide +kernel) rfl
theorem wq_t_yX1_pullBy : Cond.static yX1_pullBy ∈ WS := ws2 209 (by decide +kernel) rfl
theorem wq_c_yJ9_max_7cf53 : Cond.code yJ9_max_7cf53 cJ9_max_7cf53 2 (some .int) ∈ WS := ws2 213 (by decide +kernel) rfl
theorem wq_t_yJ9_max_7cf53 : Cond.static yJ9_max_7cf53 ∈ WS := ws2 212 (by decide +kernel) rfl
theorem wq_c_yJ9_min_7cf53 : Cond.code yJ9_min_7cf53 cJ9_min_7cf53 2 (some .int) ∈ WS := ws2 216 (by decide +kernel) rfl
theorem wq_t_yJ9_min_7cf53 : Cond.static yJ9_min_7cf53 ∈ WS := ws2 215 (by decide +kernel) rfl
theorem wq_c_yX7_witnesses : Cond.code yX7_witnesses cX7_witnesses 5 (some .int) ∈ WS := ws2 221 (by decide +kernel) rfl
theorem wq_i_yX7_witnesses : Cond.instanceMethod yX7_witnesses ∈ WS := ws2 219 (by decide +kernel) rfl
theorem wq_c_yX1_seesBy : Cond.code yX1_seesBy cX1_seesBy 3 (some .boolean) ∈ WS := ws2 225 (by decide +kernel) rfl
theorem wq_t_yX1_seesBy : Cond.static yX1_seesBy ∈ WS := ws2 224 (by decide +kernel) rfl
theorem wq_c_yX1_notesBy : Cond.code yX1_notesBy cX1_notesBy 3 (some .int) ∈ WS := ws2 228 (by decide +kernel) rfl
theorem wq_t_yX1_notesBy : Cond.static yX1_notesBy ∈ WS := ws2 227 (by decide +kernel) rfl
theorem wq_c_yX1_drawnBy : Cond.code yX1_drawnBy cX1_drawnBy 4 (some .int) ∈ WS := ws2 231 (by decide +kernel) rfl
theorem wq_t_yX1_drawnBy : Cond.static yX1_drawnBy ∈ WS := ws2 230 (by decide +kernel) rfl
theorem wq_c_yX2_pass : Cond.code yX2_pass cX2_pass 2 none ∈ WS := ws2 235 (by decide +kernel) rfl
theorem wq_i_yX2_pass : Cond.instanceMethod yX2_pass ∈ WS := ws2 233 (by decide +kernel) rfl
theorem wq_c_yX2_copyOf : Cond.code yX2_copyOf cX2_copyOf 3 none ∈ WS := ws3 1 (by decide +kernel) rfl
theorem wq_i_yX2_copyOf : Cond.instanceMethod yX2_copyOf ∈ WS := ws2 239 (by decide +kernel) rfl
theorem wq_c_yX8_does : Cond.code yX8_does cX8_does 2 (some .int) ∈ WS := ws3 6 (by decide +kernel) rfl
theorem wq_i_yX8_does : Cond.instanceMethod yX8_does ∈ WS := ws3 4 (by decide +kernel) rfl
theorem wq_c_yX3_push : Cond.code yX3_push cX3_push 2 none ∈ WS := ws3 10 (by decide +kernel) rfl
theorem wq_i_yX3_push : Cond.instanceMethod yX3_push ∈ WS := ws3 8 (by decide +kernel) rfl
theorem wq_c_yX3_dropOldest : Cond.code yX3_dropOldest cX3_dropOldest 3 none ∈ WS := ws3 14 (by decide +kernel) rfl
theorem wq_i_yX3_dropOldest : Cond.instanceMethod yX3_dropOldest ∈ WS := ws3 13 (by decide +kernel) rfl
theorem wq_s_yX3_dropOldest : Cond.selects yX3_dropOldest.cls yX3_dropOldest yX3_dropOldest ∈ WS := wsP (q := (yX3_dropOldest, 2)) 11 (by decide +kernel)
theorem wq_c_yX3_keepAt : Cond.code yX3_keepAt cX3_keepAt 3 none ∈ WS := ws3 18 (by decide +kernel) rfl
theorem wq_i_yX3_keepAt : Cond.instanceMethod yX3_keepAt ∈ WS := ws3 17 (by decide +kernel) rfl
theorem wq_s_yX3_keepAt : Cond.selects yX3_keepAt.cls yX3_keepAt yX3_keepAt ∈ WS := wsP (q := (yX3_keepAt, 2)) 12 (by decide +kernel)
theorem wq_c_yX8_rest : Cond.code yX8_rest cX8_rest 2 (some .int) ∈ WS := ws3 24 (by decide +kernel) rfl
theorem wq_i_yX8_rest : Cond.instanceMethod yX8_rest ∈ WS := ws3 22 (by decide +kernel) rfl
theorem wq_c_yX8_moves : Cond.code yX8_moves cX8_moves 4 (some .int) ∈ WS := ws3 29 (by decide +kernel) rfl
theorem wq_i_yX8_moves : Cond.instanceMethod yX8_moves ∈ WS := ws3 27 (by decide +kernel) rfl
theorem wq_c_yX8_turns : Cond.code yX8_turns cX8_turns 4 (some .int) ∈ WS := ws3 34 (by decide +kernel) rfl
theorem wq_i_yX8_turns : Cond.instanceMethod yX8_turns ∈ WS := ws3 32 (by decide +kernel) rfl
theorem wq_c_yX8_sends : Cond.code yX8_sends cX8_sends 4 (some .int) ∈ WS := ws3 38 (by decide +kernel) rfl
theorem wq_i_yX8_sends : Cond.instanceMethod yX8_sends ∈ WS := ws3 36 (by decide +kernel) rfl
theorem wq_c_yX2_hasWatcher : Cond.code yX2_hasWatcher cX2_hasWatcher 2 (some .boolean) ∈ WS := ws3 42 (by decide +kernel) rfl
theorem wq_i_yX2_hasWatcher : Cond.instanceMethod yX2_hasWatcher ∈ WS := ws3 40 (by decide +kernel) rfl
theorem wq_c_yX8_undo : Cond.code yX8_undo cX8_undo 1 (some .int) ∈ WS := ws3 46 (by decide +kernel) rfl
theorem wq_i_yX8_undo : Cond.instanceMethod yX8_undo ∈ WS := ws3 44 (by decide +kernel) rfl
theorem wq_c_yX3_popInto : Cond.code yX3_popInto cX3_popInto 2 none ∈ WS := ws3 50 (by decide +kernel) rfl
theorem wq_i_yX3_popInto : Cond.instanceMethod yX3_popInto ∈ WS := ws3 48 (by decide +kernel) rfl
theorem wq_c_yX8_of : Cond.code yX8_of cX8_of 3 (some .int) ∈ WS := ws3 54 (by decide +kernel) rfl
theorem wq_i_yX8_of : Cond.instanceMethod yX8_of ∈ WS := ws3 52 (by decide +kernel) rfl
theorem wq_c_yX2_showPart : Cond.code yX2_showPart cX2_showPart 3 (some .int) ∈ WS := ws3 58 (by decide +kernel) rfl
theorem wq_i_yX2_showPart : Cond.instanceMethod yX2_showPart ∈ WS := ws3 56 (by decide +kernel) rfl
theorem wq_c_yX8_about : Cond.code yX8_about cX8_about 3 (some .int) ∈ WS := ws3 62 (by decide +kernel) rfl
theorem wq_i_yX8_about : Cond.instanceMethod yX8_about ∈ WS := ws3 60 (by decide +kernel) rfl
theorem wq_c_yX2_watcherPart : Cond.code yX2_watcherPart cX2_watcherPart 3 (some .int) ∈ WS := ws3 66 (by decide +kernel) rfl
theorem wq_i_yX2_watcherPart : Cond.instanceMethod yX2_watcherPart ∈ WS := ws3 64 (by decide +kernel) rfl
theorem wq_c_yX8_pull : Cond.code yX8_pull cX8_pull 3 (some .int) ∈ WS := ws3 70 (by decide +kernel) rfl
theorem wq_i_yX8_pull : Cond.instanceMethod yX8_pull ∈ WS := ws3 68 (by decide +kernel) rfl
theorem wq_c_yX2_pullAt : Cond.code yX2_pullAt cX2_pullAt 4 (some .int) ∈ WS := ws3 75 (by decide +kernel) rfl
theorem wq_i_yX2_pullAt : Cond.instanceMethod yX2_pullAt ∈ WS := ws3 73 (by decide +kernel) rfl
theorem wq_c_yX8_drawn : Cond.code yX8_drawn cX8_drawn 6 (some .int) ∈ WS := ws3 79 (by decide +kernel) rfl
theorem wq_i_yX8_drawn : Cond.instanceMethod yX8_drawn ∈ WS := ws3 77 (by decide +kernel) rfl
theorem wq_c_yX2_strongest : Cond.code yX2_strongest cX2_strongest 8 (some .int) ∈ WS := ws3 84 (by decide +kernel) rfl
theorem wq_i_yX2_strongest : Cond.instanceMethod yX2_strongest ∈ WS := ws3 82 (by decide +kernel) rfl
theorem wq_c_yX8_sees : Cond.code yX8_sees cX8_sees 4 (some .int) ∈ WS := ws3 91 (by decide +kernel) rfl
theorem wq_i_yX8_sees : Cond.instanceMethod yX8_sees ∈ WS := ws3 89 (by decide +kernel) rfl
theorem wq_c_yX7_whoSees : Cond.code yX7_whoSees cX7_whoSees 4 (some .int) ∈ WS := ws3 95 (by decide +kernel) rfl
theorem wq_i_yX7_whoSees : Cond.instanceMethod yX7_whoSees ∈ WS := ws3 93 (by decide +kernel) rfl
theorem wq_c_yX8_unseen : Cond.code yX8_unseen cX8_unseen 4 (some .int) ∈ WS := ws3 99 (by decide +kernel) rfl
theorem wq_i_yX8_unseen : Cond.instanceMethod yX8_unseen ∈ WS := ws3 97 (by decide +kernel) rfl
theorem wq_c_yX8_isDayStep : Cond.code yX8_isDayStep cX8_isDayStep 1 (some .boolean) ∈ WS := ws3 102 (by decide +kernel) rfl
theorem wq_t_yX8_isDayStep : Cond.static yX8_isDayStep ∈ WS := ws3 101 (by decide +kernel) rfl
theorem wq_c_yX8_when : Cond.code yX8_when cX8_when 3 (some .int) ∈ WS := ws3 108 (by decide +kernel) rfl
theorem wq_i_yX8_when : Cond.instanceMethod yX8_when ∈ WS := ws3 106 (by decide +kernel) rfl
theorem wq_c_yX7_openSteps : Cond.code yX7_openSteps cX7_openSteps 5 (some .int) ∈ WS := ws3 112 (by decide +kernel) rfl
theorem wq_i_yX7_openSteps : Cond.instanceMethod yX7_openSteps ∈ WS := ws3 110 (by decide +kernel) rfl
theorem wq_c_yJ6_numberOfTrailingZeros_0f7a4 : Cond.code yJ6_numberOfTrailingZeros_0f7a4 cJ6_numberOfTrailingZeros_0f7a4 2 (some .int) ∈ WS := ws3 116 (by decide +kernel) rfl
theorem wq_t_yJ6_numberOfTrailingZeros_0f7a4 : Cond.static yJ6_numberOfTrailingZeros_0f7a4 ∈ WS := ws3 115 (by decide +kernel) rfl
theorem wq_c_yX8_enough : Cond.code yX8_enough cX8_enough 6 (some .int) ∈ WS := ws3 121 (by decide +kernel) rfl
theorem wq_i_yX8_enough : Cond.instanceMethod yX8_enough ∈ WS := ws3 119 (by decide +kernel) rfl
theorem wq_c_yJ6_bitCount_0f7a4 : Cond.code yJ6_bitCount_0f7a4 cJ6_bitCount_0f7a4 1 (some .int) ∈ WS := ws3 124 (by decide +kernel) rfl
theorem wq_t_yJ6_bitCount_0f7a4 : Cond.static yJ6_bitCount_0f7a4 ∈ WS := ws3 123 (by decide +kernel) rfl
theorem wq_c_yX8_place : Cond.code yX8_place cX8_place 8 (some .int) ∈ WS := ws3 131 (by decide +kernel) rfl
theorem wq_i_yX8_place : Cond.instanceMethod yX8_place ∈ WS := ws3 129 (by decide +kernel) rfl
theorem wq_c_yX7_whoSeesWithShowAt : Cond.code yX7_whoSeesWithShowAt cX7_whoSeesWithShowAt 9 (some .int) ∈ WS := ws3 135 (by decide +kernel) rfl
theorem wq_i_yX7_whoSeesWithShowAt : Cond.instanceMethod yX7_whoSeesWithShowAt ∈ WS := ws3 133 (by decide +kernel) rfl
theorem wq_c_yX8_plan : Cond.code yX8_plan cX8_plan 6 (some .int) ∈ WS := ws3 141 (by decide +kernel) rfl
theorem wq_i_yX8_plan : Cond.instanceMethod yX8_plan ∈ WS := ws3 139 (by decide +kernel) rfl
theorem wq_c_yX8_planCells : Cond.code yX8_planCells cX8_planCells 3 (some .int) ∈ WS := ws3 144 (by decide +kernel) rfl
theorem wq_t_yX8_planCells : Cond.static yX8_planCells ∈ WS := ws3 143 (by decide +kernel) rfl
theorem wq_c_yX4_openAt : Cond.code yX4_openAt cX4_openAt 3 none ∈ WS := ws3 148 (by decide +kernel) rfl
theorem wq_i_yX4_openAt : Cond.instanceMethod yX4_openAt ∈ WS := ws3 146 (by decide +kernel) rfl
theorem wq_c_yX4_soonestLast : Cond.code yX4_soonestLast cX4_soonestLast 2 (some .int) ∈ WS := ws3 152 (by decide +kernel) rfl
theorem wq_i_yX4_soonestLast : Cond.instanceMethod yX4_soonestLast ∈ WS := ws3 150 (by decide +kernel) rfl
theorem wq_c_yX4_upTo : Cond.code yX4_upTo cX4_upTo 1 (some .int) ∈ WS := ws3 155 (by decide +kernel) rfl
theorem wq_t_yX4_upTo : Cond.static yX4_upTo ∈ WS := ws3 154 (by decide +kernel) rfl
theorem wq_c_yX4_canFill : Cond.code yX4_canFill cX4_canFill 4 (some .boolean) ∈ WS := ws3 159 (by decide +kernel) rfl
theorem wq_i_yX4_canFill : Cond.instanceMethod yX4_canFill ∈ WS := ws3 158 (by decide +kernel) rfl
theorem wq_s_yX4_canFill : Cond.selects yX4_canFill.cls yX4_canFill yX4_canFill ∈ WS := wsP (q := (yX4_canFill, 2)) 13 (by decide +kernel)
theorem wq_c_yX4_stepsTogether : Cond.code yX4_stepsTogether cX4_stepsTogether 5 (some .int) ∈ WS := ws3 164 (by decide +kernel) rfl
theorem wq_i_yX4_stepsTogether : Cond.instanceMethod yX4_stepsTogether ∈ WS := ws3 163 (by decide +kernel) rfl
theorem wq_s_yX4_stepsTogether : Cond.selects yX4_stepsTogether.cls yX4_stepsTogether yX4_stepsTogether ∈ WS := wsP (q := (yX4_stepsTogether, 2)) 14 (by decide +kernel)
theorem wq_c_yX4_stepOf : Cond.code yX4_stepOf cX4_stepOf 6 (some .int) ∈ WS := ws3 169 (by decide +kernel) rfl
theorem wq_i_yX4_stepOf : Cond.instanceMethod yX4_stepOf ∈ WS := ws3 167 (by decide +kernel) rfl
theorem wq_c_yX4_firstStep : Cond.code yX4_firstStep cX4_firstStep 4 (some .int) ∈ WS := ws3 173 (by decide +kernel) rfl
theorem wq_i_yX4_firstStep : Cond.instanceMethod yX4_firstStep ∈ WS := ws3 172 (by decide +kernel) rfl
theorem wq_s_yX4_firstStep : Cond.selects yX4_firstStep.cls yX4_firstStep yX4_firstStep ∈ WS := wsP (q := (yX4_firstStep, 2)) 15 (by decide +kernel)
theorem wq_c_yX8_guard : Cond.code yX8_guard cX8_guard 7 (some .int) ∈ WS := ws3 177 (by decide +kernel) rfl
theorem wq_i_yX8_guard : Cond.instanceMethod yX8_guard ∈ WS := ws3 175 (by decide +kernel) rfl
theorem wq_c_yX8_cellsSeenFrom : Cond.code yX8_cellsSeenFrom cX8_cellsSeenFrom 7 (some .int) ∈ WS := ws3 181 (by decide +kernel) rfl
theorem wq_i_yX8_cellsSeenFrom : Cond.instanceMethod yX8_cellsSeenFrom ∈ WS := ws3 180 (by decide +kernel) rfl
theorem wq_s_yX8_cellsSeenFrom : Cond.selects yX8_cellsSeenFrom.cls yX8_cellsSeenFrom yX8_cellsSeenFrom ∈ WS := wsP (q := (yX8_cellsSeenFrom, 13)) 16 (by decide +kernel)
theorem wq_c_yX8_saw : Cond.code yX8_saw cX8_saw 3 (some .int) ∈ WS := ws3 187 (by decide +kernel) rfl
theorem wq_i_yX8_saw : Cond.instanceMethod yX8_saw ∈ WS := ws3 185 (by decide +kernel) rfl
theorem wq_c_yX6_add : Cond.code yX6_add cX6_add 7 (some .int) ∈ WS := ws3 191 (by decide +kernel) rfl
theorem wq_i_yX6_add : Cond.instanceMethod yX6_add ∈ WS := ws3 189 (by decide +kernel) rfl
theorem wq_c_yX8_where : Cond.code yX8_where cX8_where 4 (some .int) ∈ WS := ws3 195 (by decide +kernel) rfl
theorem wq_i_yX8_where : Cond.instanceMethod yX8_where ∈ WS := ws3 193 (by decide +kernel) rfl
theorem wq_c_yX6_told : Cond.code yX6_told cX6_told 4 (some .int) ∈ WS := ws3 200 (by decide +kernel) rfl
theorem wq_i_yX6_told : Cond.instanceMethod yX6_told ∈ WS := ws3 198 (by decide +kernel) rfl
theorem wq_c_yX8_note : Cond.code yX8_note cX8_note 6 (some .int) ∈ WS := ws3 204 (by decide +kernel) rfl
theorem wq_i_yX8_note : Cond.instanceMethod yX8_note ∈ WS := ws3 202 (by decide +kernel) rfl
theorem wq_c_yX8_isFar : Cond.code yX8_isFar cX8_isFar 1 (some .boolean) ∈ WS := ws3 207 (by decide +kernel) rfl
theorem wq_t_yX8_isFar : Cond.static yX8_isFar ∈ WS := ws3 206 (by decide +kernel) rfl
theorem wq_c_yX8_isPull : Cond.code yX8_isPull cX8_isPull 1 (some .boolean) ∈ WS := ws3 210 (by decide +kernel) rfl
theorem wq_t_yX8_isPull : Cond.static yX8_isPull ∈ WS := ws3 209 (by decide +kernel) rfl
theorem wq_c_yX8_mark : Cond.code yX8_mark cX8_mark 5 (some .int) ∈ WS := ws3 214 (by decide +kernel) rfl
theorem wq_i_yX8_mark : Cond.instanceMethod yX8_mark ∈ WS := ws3 212 (by decide +kernel) rfl
theorem wq_c_yX8_forget : Cond.code yX8_forget cX8_forget 4 (some .int) ∈ WS := ws3 218 (by decide +kernel) rfl
theorem wq_i_yX8_forget : Cond.instanceMethod yX8_forget ∈ WS := ws3 216 (by decide +kernel) rfl
theorem wq_c_yX8_is : Cond.code yX8_is cX8_is 2 (some .int) ∈ WS := ws3 222 (by decide +kernel) rfl
theorem wq_i_yX8_is : Cond.instanceMethod yX8_is ∈ WS := ws3 220 (by decide +kernel) rfl
theorem wq_c_yX8_showKindsLeft : Cond.code yX8_showKindsLeft cX8_showKindsLeft 7 (some .int) ∈ WS := ws3 226 (by decide +kernel) rfl
theorem wq_i_yX8_showKindsLeft : Cond.instanceMethod yX8_showKindsLeft ∈ WS := ws3 225 (by decide +kernel) rfl
theorem wq_s_yX8_showKindsLeft : Cond.selects yX8_showKindsLeft.cls yX8_showKindsLeft yX8_showKindsLeft ∈ WS := wsP (q := (yX8_showKindsLeft, 13)) 17 (by decide +kernel)
theorem wq_c_yX8_look : Cond.code yX8_look cX8_look 8 (some .int) ∈ WS := ws3 231 (by decide +kernel) rfl
theorem wq_i_yX8_look : Cond.instanceMethod yX8_look ∈ WS := ws3 229 (by decide +kernel) rfl
theorem wq_c_yX8_mostAlike : Cond.code yX8_mostAlike cX8_mostAlike 9 (some .int) ∈ WS := ws3 235 (by decide +kernel) rfl
theorem wq_i_yX8_mostAlike : Cond.instanceMethod yX8_mostAlike ∈ WS := ws3 234 (by decide +kernel) rfl
theorem wq_s_yX8_mostAlike : Cond.selects yX8_mostAlike.cls yX8_mostAlike yX8_mostAlike ∈ WS := wsP (q := (yX8_mostAlike, 13)) 18 (by decide +kernel)
theorem wq_c_yX8_what : Cond.code yX8_what cX8_what 2 (some .int) ∈ WS := ws4 0 (by decide +kernel) rfl
theorem wq_i_yX8_what : Cond.instanceMethod yX8_what ∈ WS := ws3 238 (by decide +kernel) rfl
theorem wq_c_yX8_watcherKindsLeft : Cond.code yX8_watcherKindsLeft cX8_watcherKindsLeft 7 (some .int) ∈ WS := ws4 4 (by decide +kernel) rfl
theorem wq_i_yX8_watcherKindsLeft : Cond.instanceMethod yX8_watcherKindsLeft ∈ WS := ws4 3 (by decide +kernel) rfl
theorem wq_s_yX8_watcherKindsLeft : Cond.selects yX8_watcherKindsLeft.cls yX8_watcherKindsLeft yX8_watcherKindsLeft ∈ WS := wsP (q := (yX8_watcherKindsLeft, 13)) 19 (by decide +kernel)
theorem wq_c_yX8_tries : Cond.code yX8_tries cX8_tries 8 (some .int) ∈ WS := ws4 8 (by decide +kernel) rfl
theorem wq_i_yX8_tries : Cond.instanceMethod yX8_tries ∈ WS := ws4 6 (by decide +kernel) rfl
theorem wq_c_yX8_greaterPart : Cond.code yX8_greaterPart cX8_greaterPart 5 (some .int) ∈ WS := ws4 11 (by decide +kernel) rfl
theorem wq_t_yX8_greaterPart : Cond.static yX8_greaterPart ∈ WS := ws4 10 (by decide +kernel) rfl
theorem wq_c_yX8_game : Cond.code yX8_game cX8_game 13 (some .int) ∈ WS := ws4 15 (by decide +kernel) rfl
theorem wq_i_yX8_game : Cond.instanceMethod yX8_game ∈ WS := ws4 13 (by decide +kernel) rfl
theorem wq_c_yX8_seesStanding : Cond.code yX8_seesStanding cX8_seesStanding 5 (some .boolean) ∈ WS := ws4 19 (by decide +kernel) rfl
theorem wq_i_yX8_seesStanding : Cond.instanceMethod yX8_seesStanding ∈ WS := ws4 18 (by decide +kernel) rfl
theorem wq_s_yX8_seesStanding : Cond.selects yX8_seesStanding.cls yX8_seesStanding yX8_seesStanding ∈ WS := wsP (q := (yX8_seesStanding, 13)) 20 (by decide +kernel)
theorem wq_c_yX8_fails : Cond.code yX8_fails cX8_fails 8 (some .int) ∈ WS := ws4 23 (by decide +kernel) rfl
theorem wq_i_yX8_fails : Cond.instanceMethod yX8_fails ∈ WS := ws4 21 (by decide +kernel) rfl
theorem wq_c_yX8_oddsOf : Cond.code yX8_oddsOf cX8_oddsOf 4 (some .long) ∈ WS := ws4 26 (by decide +kernel) rfl
theorem wq_t_yX8_oddsOf : Cond.static yX8_oddsOf ∈ WS := ws4 25 (by decide +kernel) rfl
theorem wq_c_yX8_power : Cond.code yX8_power cX8_power 6 (some .long) ∈ WS := ws4 29 (by decide +kernel) rfl
theorem wq_t_yX8_power : Cond.static yX8_power ∈ WS := ws4 28 (by decide +kernel) rfl
theorem wq_c_yX8_keepFraction : Cond.code yX8_keepFraction cX8_keepFraction 12 none ∈ WS := ws4 34 (by decide +kernel) rfl
theorem wq_i_yX8_keepFraction : Cond.instanceMethod yX8_keepFraction ∈ WS := ws4 33 (by decide +kernel) rfl
theorem wq_s_yX8_keepFraction : Cond.selects yX8_keepFraction.cls yX8_keepFraction yX8_keepFraction ∈ WS := wsP (q := (yX8_keepFraction, 13)) 21 (by decide +kernel)
theorem wq_c_yX8_years : Cond.code yX8_years cX8_years 8 (some .int) ∈ WS := ws4 38 (by decide +kernel) rfl
theorem wq_i_yX8_years : Cond.instanceMethod yX8_years ∈ WS := ws4 36 (by decide +kernel) rfl
theorem wq_c_yX8_part : Cond.code yX8_part cX8_part 2 (some .long) ∈ WS := ws4 48 (by decide +kernel) rfl
theorem wq_i_yX8_part : Cond.instanceMethod yX8_part ∈ WS := ws4 46 (by decide +kernel) rfl
theorem wq_c_yX8_image : Cond.code yX8_image cX8_image 2 (some .int) ∈ WS := ws4 52 (by decide +kernel) rfl
theorem wq_i_yX8_image : Cond.instanceMethod yX8_image ∈ WS := ws4 50 (by decide +kernel) rfl
theorem wq_c_yX8_isImage : Cond.code yX8_isImage cX8_isImage 2 (some .boolean) ∈ WS := ws4 56 (by decide +kernel) rfl
theorem wq_i_yX8_isImage : Cond.instanceMethod yX8_isImage ∈ WS := ws4 55 (by decide +kernel) rfl
theorem wq_s_yX8_isImage : Cond.selects yX8_isImage.cls yX8_isImage yX8_isImage ∈ WS := wsP (q := (yX8_isImage, 13)) 22 (by decide +kernel)
theorem wq_c_yX0_copyOf : Cond.code yX0_copyOf cX0_copyOf 2 none ∈ WS := ws4 60 (by decide +kernel) rfl
theorem wq_i_yX0_copyOf : Cond.instanceMethod yX0_copyOf ∈ WS := ws4 58 (by decide +kernel) rfl
theorem wq_c_yX3_copyOf : Cond.code yX3_copyOf cX3_copyOf 3 none ∈ WS := ws4 65 (by decide +kernel) rfl
theorem wq_i_yX3_copyOf : Cond.instanceMethod yX3_copyOf ∈ WS := ws4 63 (by decide +kernel) rfl
theorem wq_c_yX6_copyOf : Cond.code yX6_copyOf cX6_copyOf 3 none ∈ WS := ws4 69 (by decide +kernel) rfl
theorem wq_i_yX6_copyOf : Cond.instanceMethod yX6_copyOf ∈ WS := ws4 67 (by decide +kernel) rfl
theorem wq_c_yX8_from : Cond.code yX8_from cX8_from 2 (some .int) ∈ WS := ws4 73 (by decide +kernel) rfl
theorem wq_i_yX8_from : Cond.instanceMethod yX8_from ∈ WS := ws4 71 (by decide +kernel) rfl
theorem wq_c_yX8_status : Cond.code yX8_status cX8_status 2 (some .int) ∈ WS := ws4 77 (by decide +kernel) rfl
theorem wq_i_yX8_status : Cond.instanceMethod yX8_status ∈ WS := ws4 75 (by decide +kernel) rfl
theorem wq_c_yX8_count : Cond.code yX8_count cX8_count 2 (some .int) ∈ WS := ws4 81 (by decide +kernel) rfl
theorem wq_i_yX8_count : Cond.instanceMethod yX8_count ∈ WS := ws4 79 (by decide +kernel) rfl
theorem wq_c_yX8_tally : Cond.code yX8_tally cX8_tally 2 (some .int) ∈ WS := ws4 85 (by decide +kernel) rfl
theorem wq_i_yX8_tally : Cond.instanceMethod yX8_tally ∈ WS := ws4 84 (by decide +kernel) rfl
theorem wq_s_yX8_tally : Cond.selects yX8_tally.cls yX8_tally yX8_tally ∈ WS := wsP (q := (yX8_tally, 13)) 23 (by decide +kernel)
theorem wq_c_yX2_knownTogether : Cond.code yX2_knownTogether cX2_knownTogether 3 (some .int) ∈ WS := ws4 89 (by decide +kernel) rfl
theorem wq_i_yX2_knownTogether : Cond.instanceMethod yX2_knownTogether ∈ WS := ws4 87 (by decide +kernel) rfl
theorem wq_c_yX8_digest : Cond.code yX8_digest cX8_digest 5 (some .long) ∈ WS := ws4 93 (by decide +kernel) rfl
theorem wq_i_yX8_digest : Cond.instanceMethod yX8_digest ∈ WS := ws4 91 (by decide +kernel) rfl
theorem wq_c_yX6_mixInto : Cond.code yX6_mixInto cX6_mixInto 8 (some .long) ∈ WS := ws4 99 (by decide +kernel) rfl
theorem wq_i_yX6_mixInto : Cond.instanceMethod yX6_mixInto ∈ WS := ws4 97 (by decide +kernel) rfl
theorem wq_c_yX9_init : Cond.code yX9_init cX9_init 1 none ∈ WS := ws4 106 (by decide +kernel) rfl
theorem wq_i_yX9_init : Cond.instanceMethod yX9_init ∈ WS := ws4 105 (by decide +kernel) rfl
theorem wq_c_yX9_begin : Cond.code yX9_begin cX9_begin 2 none ∈ WS := ws4 110 (by decide +kernel) rfl
theorem wq_t_yX9_begin : Cond.static yX9_begin ∈ WS := ws4 109 (by decide +kernel) rfl
theorem wq_c_yX9_land : Cond.code yX9_land cX9_land 2 (some .int) ∈ WS := ws4 172 (by decide +kernel) rfl
theorem wq_i_yX9_land : Cond.instanceMethod yX9_land ∈ WS := ws4 170 (by decide +kernel) rfl
theorem wq_c_yX9_manyWatchers : Cond.code yX9_manyWatchers cX9_manyWatchers 1 (some .int) ∈ WS := ws4 176 (by decide +kernel) rfl
theorem wq_i_yX9_manyWatchers : Cond.instanceMethod yX9_manyWatchers ∈ WS := ws4 175 (by decide +kernel) rfl
theorem wq_s_yX9_manyWatchers : Cond.selects yX9_manyWatchers.cls yX9_manyWatchers yX9_manyWatchers ∈ WS := wsP (q := (yX9_manyWatchers, 19)) 24 (by decide +kernel)
theorem wq_c_yX9_show : Cond.code yX9_show cX9_show 4 (some .int) ∈ WS := ws4 180 (by decide +kernel) rfl
theorem wq_i_yX9_show : Cond.instanceMethod yX9_show ∈ WS := ws4 178 (by decide +kernel) rfl
theorem wq_c_yX9_in : Cond.code yX9_in cX9_in 6 (some .boolean) ∈ WS := ws4 184 (by decide +kernel) rfl
theorem wq_t_yX9_in : Cond.static yX9_in ∈ WS := ws4 183 (by decide +kernel) rfl
theorem wq_c_yX9_isCell : Cond.code yX9_isCell cX9_isCell 1 (some .boolean) ∈ WS := ws4 187 (by decide +kernel) rfl
theorem wq_t_yX9_isCell : Cond.static yX9_isCell ∈ WS := ws4 186 (by decide +kernel) rfl
theorem wq_c_yX9_bad : Cond.code yX9_bad cX9_bad 2 (some .int) ∈ WS := ws4 193 (by decide +kernel) rfl
theorem wq_i_yX9_bad : Cond.instanceMethod yX9_bad ∈ WS := ws4 192 (by decide +kernel) rfl
theorem wq_s_yX9_bad : Cond.selects yX9_bad.cls yX9_bad yX9_bad ∈ WS := wsP (q := (yX9_bad, 19)) 25 (by decide +kernel)
theorem wq_c_yX9_many : Cond.code yX9_many cX9_many 1 (some .int) ∈ WS := ws4 197 (by decide +kernel) rfl
theorem wq_i_yX9_many : Cond.instanceMethod yX9_many ∈ WS := ws4 196 (by decide +kernel) rfl
theorem wq_s_yX9_many : Cond.selects yX9_many.cls yX9_many yX9_many ∈ WS := wsP (q := (yX9_many, 19)) 26 (by decide +kernel)
theorem wq_c_yX9_full : Cond.code yX9_full cX9_full 1 (some .int) ∈ WS := ws4 201 (by decide +kernel) rfl
theorem wq_i_yX9_full : Cond.instanceMethod yX9_full ∈ WS := ws4 200 (by decide +kernel) rfl
theorem wq_s_yX9_full : Cond.selects yX9_full.cls yX9_full yX9_full ∈ WS := wsP (q := (yX9_full, 19)) 27 (by decide +kernel)
theorem wq_c_yX9_layShow : Cond.code yX9_layShow cX9_layShow 5 none ∈ WS := ws4 204 (by decide +kernel) rfl
theorem wq_t_yX9_layShow : Cond.static yX9_layShow ∈ WS := ws4 203 (by decide +kernel) rfl
theorem wq_c_yX9_watcher : Cond.code yX9_watcher cX9_watcher 3 (some .int) ∈ WS := ws4 208 (by decide +kernel) rfl
theorem wq_i_yX9_watcher : Cond.instanceMethod yX9_watcher ∈ WS := ws4 206 (by decide +kernel) rfl
theorem wq_c_yX9_layWatcher : Cond.code yX9_layWatcher cX9_layWatcher 4 none ∈ WS := ws4 211 (by decide +kernel) rfl
theorem wq_t_yX9_layWatcher : Cond.static yX9_layWatcher ∈ WS := ws4 210 (by decide +kernel) rfl
theorem wq_c_yX9_does : Cond.code yX9_does cX9_does 2 (some .int) ∈ WS := ws4 215 (by decide +kernel) rfl
theorem wq_i_yX9_does : Cond.instanceMethod yX9_does ∈ WS := ws4 213 (by decide +kernel) rfl
theorem wq_c_yX9_keep : Cond.code yX9_keep cX9_keep 2 none ∈ WS := ws4 219 (by decide +kernel) rfl
theorem wq_i_yX9_keep : Cond.instanceMethod yX9_keep ∈ WS := ws4 218 (by decide +kernel) rfl
theorem wq_s_yX9_keep : Cond.selects yX9_keep.cls yX9_keep yX9_keep ∈ WS := wsP (q := (yX9_keep, 19)) 28 (by decide +kernel)
theorem wq_c_yX9_goDoing : Cond.code yX9_goDoing cX9_goDoing 4 (some .int) ∈ WS := ws4 222 (by decide +kernel) rfl
theorem wq_t_yX9_goDoing : Cond.static yX9_goDoing ∈ WS := ws4 221 (by decide +kernel) rfl
theorem wq_c_yX9_isOn : Cond.code yX9_isOn cX9_isOn 3 (some .int) ∈ WS := ws4 225 (by decide +kernel) rfl
theorem wq_t_yX9_isOn : Cond.static yX9_isOn ∈ WS := ws4 224 (by decide +kernel) rfl
theorem wq_c_yX9_whoSees : Cond.code yX9_whoSees cX9_whoSees 6 (some .int) ∈ WS := ws4 228 (by decide +kernel) rfl
theorem wq_t_yX9_whoSees : Cond.static yX9_whoSees ∈ WS := ws4 227 (by decide +kernel) rfl
theorem wq_c_yX9_seesFrom : Cond.code yX9_seesFrom cX9_seesFrom 6 (some .boolean) ∈ WS := ws4 231 (by decide +kernel) rfl
theorem wq_t_yX9_seesFrom : Cond.static yX9_seesFrom ∈ WS := ws4 230 (by decide +kernel) rfl
theorem wq_c_yX9_distance : Cond.code yX9_distance cX9_distance 4 (some .int) ∈ WS := ws4 234 (by decide +kernel) rfl
theorem wq_t_yX9_distance : Cond.static yX9_distance ∈ WS := ws4 233 (by decide +kernel) rfl
theorem wq_c_yX9_greatest : Cond.code yX9_greatest cX9_greatest 7 (some .int) ∈ WS := ws4 237 (by decide +kernel) rfl
theorem wq_t_yX9_greatest : Cond.static yX9_greatest ∈ WS := ws4 236 (by decide +kernel) rfl
theorem wq_c_yX9_has : Cond.code yX9_has cX9_has 2 (some .boolean) ∈ WS := ws5 0 (by decide +kernel) rfl
theorem wq_t_yX9_has : Cond.static yX9_has ∈ WS := ws4 239 (by decide +kernel) rfl
theorem wq_c_yX9_pullAt : Cond.code yX9_pullAt cX9_pullAt 4 (some .int) ∈ WS := ws5 3 (by decide +kernel) rfl
theorem wq_t_yX9_pullAt : Cond.static yX9_pullAt ∈ WS := ws5 2 (by decide +kernel) rfl
theorem wq_c_yX9_pullAs : Cond.code yX9_pullAs cX9_pullAs 6 (some .int) ∈ WS := ws5 6 (by decide +kernel) rfl
theorem wq_t_yX9_pullAs : Cond.static yX9_pullAs ∈ WS := ws5 5 (by decide +kernel) rfl
theorem wq_c_yX9_plainPull : Cond.code yX9_plainPull cX9_plainPull 2 (some .int) ∈ WS := ws5 9 (by decide +kernel) rfl
theorem wq_t_yX9_plainPull : Cond.static yX9_plainPull ∈ WS := ws5 8 (by decide +kernel) rfl
theorem wq_c_yX9_firePull : Cond.code yX9_firePull cX9_firePull 4 (some .int) ∈ WS := ws5 12 (by decide +kernel) rfl
theorem wq_t_yX9_firePull : Cond.static yX9_firePull ∈ WS := ws5 11 (by decide +kernel) rfl
theorem wq_c_yX9_seesAs : Cond.code yX9_seesAs cX9_seesAs 3 (some .boolean) ∈ WS := ws5 15 (by decide +kernel) rfl
theorem wq_t_yX9_seesAs : Cond.static yX9_seesAs ∈ WS := ws5 14 (by decide +kernel) rfl
theorem wq_c_yX9_notesAs : Cond.code yX9_notesAs cX9_notesAs 3 (some .int) ∈ WS := ws5 18 (by decide +kernel) rfl
theorem wq_t_yX9_notesAs : Cond.static yX9_notesAs ∈ WS := ws5 17 (by decide +kernel) rfl
theorem wq_c_yX9_drawnAs : Cond.code yX9_drawnAs cX9_drawnAs 3 (some .int) ∈ WS := ws5 21 (by decide +kernel) rfl
theorem wq_t_yX9_drawnAs : Cond.static yX9_drawnAs ∈ WS := ws5 20 (by decide +kernel) rfl
theorem wq_c_yX9_rest : Cond.code yX9_rest cX9_rest 2 (some .int) ∈ WS := ws5 25 (by decide +kernel) rfl
theorem wq_i_yX9_rest : Cond.instanceMethod yX9_rest ∈ WS := ws5 23 (by decide +kernel) rfl
theorem wq_c_yX9_goRest : Cond.code yX9_goRest cX9_goRest 2 none ∈ WS := ws5 29 (by decide +kernel) rfl
theorem wq_t_yX9_goRest : Cond.static yX9_goRest ∈ WS := ws5 28 (by decide +kernel) rfl
theorem wq_c_yX9_moves : Cond.code yX9_moves cX9_moves 3 (some .int) ∈ WS := ws5 33 (by decide +kernel) rfl
theorem wq_i_yX9_moves : Cond.instanceMethod yX9_moves ∈ WS := ws5 31 (by decide +kernel) rfl
theorem wq_c_yX9_isShow : Cond.code yX9_isShow cX9_isShow 2 (some .boolean) ∈ WS := ws5 37 (by decide +kernel) rfl
theorem wq_i_yX9_isShow : Cond.instanceMethod yX9_isShow ∈ WS := ws5 36 (by decide +kernel) rfl
theorem wq_s_yX9_isShow : Cond.selects yX9_isShow.cls yX9_isShow yX9_isShow ∈ WS := wsP (q := (yX9_isShow, 19)) 29 (by decide +kernel)
theorem wq_c_yX9_put : Cond.code yX9_put cX9_put 4 (some .int) ∈ WS := ws5 41 (by decide +kernel) rfl
theorem wq_i_yX9_put : Cond.instanceMethod yX9_put ∈ WS := ws5 40 (by decide +kernel) rfl
theorem wq_s_yX9_put : Cond.selects yX9_put.cls yX9_put yX9_put ∈ WS := wsP (q := (yX9_put, 19)) 30 (by decide +kernel)
theorem wq_c_yX9_turns : Cond.code yX9_turns cX9_turns 3 (some .int) ∈ WS := ws5 45 (by decide +kernel) rfl
theorem wq_i_yX9_turns : Cond.instanceMethod yX9_turns ∈ WS := ws5 43 (by decide +kernel) rfl
theorem wq_c_yX9_sends : Cond.code yX9_sends cX9_sends 3 (some .int) ∈ WS := ws5 49 (by decide +kernel) rfl
theorem wq_i_yX9_sends : Cond.instanceMethod yX9_sends ∈ WS := ws5 47 (by decide +kernel) rfl
theorem wq_c_yX9_isWatcher : Cond.code yX9_isWatcher cX9_isWatcher 2 (some .boolean) ∈ WS := ws5 53 (by decide +kernel) rfl
theorem wq_i_yX9_isWatcher : Cond.instanceMethod yX9_isWatcher ∈ WS := ws5 52 (by decide +kernel) rfl
theorem wq_s_yX9_isWatcher : Cond.selects yX9_isWatcher.cls yX9_isWatcher yX9_isWatcher ∈ WS := wsP (q := (yX9_isWatcher, 19)) 31 (by decide +kernel)
theorem wq_c_yX9_undo : Cond.code yX9_undo cX9_undo 2 (some .int) ∈ WS := ws5 57 (by decide +kernel) rfl
theorem wq_i_yX9_undo : Cond.instanceMethod yX9_undo ∈ WS := ws5 55 (by decide +kernel) rfl
theorem wq_c_yX9_no : Cond.code yX9_no cX9_no 1 (some .int) ∈ WS := ws5 61 (by decide +kernel) rfl
theorem wq_i_yX9_no : Cond.instanceMethod yX9_no ∈ WS := ws5 60 (by decide +kernel) rfl
theorem wq_s_yX9_no : Cond.selects yX9_no.cls yX9_no yX9_no ∈ WS := wsP (q := (yX9_no, 19)) 32 (by decide +kernel)
theorem wq_c_yX9_of : Cond.code yX9_of cX9_of 3 (some .int) ∈ WS := ws5 65 (by decide +kernel) rfl
theorem wq_i_yX9_of : Cond.instanceMethod yX9_of ∈ WS := ws5 63 (by decide +kernel) rfl
theorem wq_c_yX9_about : Cond.code yX9_about cX9_about 3 (some .int) ∈ WS := ws5 70 (by decide +kernel) rfl
theorem wq_i_yX9_about : Cond.instanceMethod yX9_about ∈ WS := ws5 68 (by decide +kernel) rfl
theorem wq_c_yX9_pull : Cond.code yX9_pull cX9_pull 3 (some .int) ∈ WS := ws5 75 (by decide +kernel) rfl
theorem wq_i_yX9_pull : Cond.instanceMethod yX9_pull ∈ WS := ws5 73 (by decide +kernel) rfl
theorem wq_c_yX9_stepNow : Cond.code yX9_stepNow cX9_stepNow 1 (some .int) ∈ WS := ws5 79 (by decide +kernel) rfl
theorem wq_i_yX9_stepNow : Cond.instanceMethod yX9_stepNow ∈ WS := ws5 78 (by decide +kernel) rfl
theorem wq_s_yX9_stepNow : Cond.selects yX9_stepNow.cls yX9_stepNow yX9_stepNow ∈ WS := wsP (q := (yX9_stepNow, 19)) 33 (by decide +kernel)
theorem wq_c_yX9_drawn : Cond.code yX9_drawn cX9_drawn 5 (some .int) ∈ WS := ws5 83 (by decide +kernel) rfl
theorem wq_i_yX9_drawn : Cond.instanceMethod yX9_drawn ∈ WS := ws5 81 (by decide +kernel) rfl
theorem wq_c_yX9_sees : Cond.code yX9_sees cX9_sees 4 (some .int) ∈ WS := ws5 88 (by decide +kernel) rfl
theorem wq_i_yX9_sees : Cond.instanceMethod yX9_sees ∈ WS := ws5 86 (by decide +kernel) rfl
theorem wq_c_yX9_unseen : Cond.code yX9_unseen cX9_unseen 4 (some .int) ∈ WS := ws5 93 (by decide +kernel) rfl
theorem wq_i_yX9_unseen : Cond.instanceMethod yX9_unseen ∈ WS := ws5 91 (by decide +kernel) rfl
theorem wq_c_yX9_isStep : Cond.code yX9_isStep cX9_isStep 1 (some .boolean) ∈ WS := ws5 96 (by decide +kernel) rfl
theorem wq_t_yX9_isStep : Cond.static yX9_isStep ∈ WS := ws5 95 (by decide +kernel) rfl
theorem wq_c_yX9_when : Cond.code yX9_when cX9_when 3 (some .int) ∈ WS := ws5 101 (by decide +kernel) rfl
theorem wq_i_yX9_when : Cond.instanceMethod yX9_when ∈ WS := ws5 99 (by decide +kernel) rfl
theorem wq_c_yX9_isUnseenIn : Cond.code yX9_isUnseenIn cX9_isUnseenIn 3 (some .boolean) ∈ WS := ws5 105 (by decide +kernel) rfl
theorem wq_i_yX9_isUnseenIn : Cond.instanceMethod yX9_isUnseenIn ∈ WS := ws5 104 (by decide +kernel) rfl
theorem wq_s_yX9_isUnseenIn : Cond.selects yX9_isUnseenIn.cls yX9_isUnseenIn yX9_isUnseenIn ∈ WS := wsP (q := (yX9_isUnseenIn, 19)) 34 (by decide +kernel)
theorem wq_c_yX9_enough : Cond.code yX9_enough cX9_enough 5 (some .int) ∈ WS := ws5 109 (by decide +kernel) rfl
theorem wq_i_yX9_enough : Cond.instanceMethod yX9_enough ∈ WS := ws5 107 (by decide +kernel) rfl
theorem wq_c_yX9_bits : Cond.code yX9_bits cX9_bits 3 (some .int) ∈ WS := ws5 112 (by decide +kernel) rfl
theorem wq_t_yX9_bits : Cond.static yX9_bits ∈ WS := ws5 111 (by decide +kernel) rfl
theorem wq_c_yX9_place : Cond.code yX9_place cX9_place 8 (some .int) ∈ WS := ws5 116 (by decide +kernel) rfl
theorem wq_i_yX9_place : Cond.instanceMethod yX9_place ∈ WS := ws5 114 (by decide +kernel) rfl
theorem wq_c_yX9_layHand : Cond.code yX9_layHand cX9_layHand 2 none ∈ WS := ws5 121 (by decide +kernel) rfl
theorem wq_i_yX9_layHand : Cond.instanceMethod yX9_layHand ∈ WS := ws5 120 (by decide +kernel) rfl
theorem wq_s_yX9_layHand : Cond.selects yX9_layHand.cls yX9_layHand yX9_layHand ∈ WS := wsP (q := (yX9_layHand, 19)) 35 (by decide +kernel)
theorem wq_c_yX9_plan : Cond.code yX9_plan cX9_plan 9 (some .int) ∈ WS := ws5 125 (by decide +kernel) rfl
theorem wq_i_yX9_plan : Cond.instanceMethod yX9_plan ∈ WS := ws5 123 (by decide +kernel) rfl
theorem wq_c_yX9_layGoals : Cond.code yX9_layGoals cX9_layGoals 5 (some .int) ∈ WS := ws5 129 (by decide +kernel) rfl
theorem wq_i_yX9_layGoals : Cond.instanceMethod yX9_layGoals ∈ WS := ws5 128 (by decide +kernel) rfl
theorem wq_s_yX9_layGoals : Cond.selects yX9_layGoals.cls yX9_layGoals yX9_layGoals ∈ WS := wsP (q := (yX9_layGoals, 19)) 36 (by decide +kernel)
theorem wq_c_yX9_lastBy : Cond.code yX9_lastBy cX9_lastBy 8 (some .int) ∈ WS := ws5 134 (by decide +kernel) rfl
theorem wq_i_yX9_lastBy : Cond.instanceMethod yX9_lastBy ∈ WS := ws5 133 (by decide +kernel) rfl
theorem wq_s_yX9_lastBy : Cond.selects yX9_lastBy.cls yX9_lastBy yX9_lastBy ∈ WS := wsP (q := (yX9_lastBy, 19)) 37 (by decide +kernel)
theorem wq_c_yX9_guard : Cond.code yX9_guard cX9_guard 8 (some .int) ∈ WS := ws5 138 (by decide +kernel) rfl
theorem wq_i_yX9_guard : Cond.instanceMethod yX9_guard ∈ WS := ws5 136 (by decide +kernel) rfl
theorem wq_c_yX9_saw : Cond.code yX9_saw cX9_saw 3 (some .int) ∈ WS := ws5 142 (by decide +kernel) rfl
theorem wq_i_yX9_saw : Cond.instanceMethod yX9_saw ∈ WS := ws5 140 (by decide +kernel) rfl
theorem wq_c_yX9_where : Cond.code yX9_where cX9_where 5 (some .int) ∈ WS := ws5 146 (by decide +kernel) rfl
theorem wq_i_yX9_where : Cond.instanceMethod yX9_where ∈ WS := ws5 144 (by decide +kernel) rfl
theorem wq_c_yX9_note : Cond.code yX9_note cX9_note 7 (some .int) ∈ WS := ws5 150 (by decide +kernel) rfl
theorem wq_i_yX9_note : Cond.instanceMethod yX9_note ∈ WS := ws5 148 (by decide +kernel) rfl
theorem wq_c_yX9_isFar : Cond.code yX9_isFar cX9_isFar 1 (some .boolean) ∈ WS := ws5 153 (by decide +kernel) rfl
theorem wq_t_yX9_isFar : Cond.static yX9_isFar ∈ WS := ws5 152 (by decide +kernel) rfl
theorem wq_c_yX9_mark : Cond.code yX9_mark cX9_mark 6 (some .int) ∈ WS := ws5 157 (by decide +kernel) rfl
theorem wq_i_yX9_mark : Cond.instanceMethod yX9_mark ∈ WS := ws5 155 (by decide +kernel) rfl
theorem wq_c_yX9_forget : Cond.code yX9_forget cX9_forget 3 (some .int) ∈ WS := ws5 161 (by decide +kernel) rfl
theorem wq_i_yX9_forget : Cond.instanceMethod yX9_forget ∈ WS := ws5 159 (by decide +kernel) rfl
theorem wq_c_yX9_is : Cond.code yX9_is cX9_is 2 (some .int) ∈ WS := ws5 165 (by decide +kernel) rfl
theorem wq_i_yX9_is : Cond.instanceMethod yX9_is ∈ WS := ws5 163 (by decide +kernel) rfl
theorem wq_c_yX9_kindsOf : Cond.code yX9_kindsOf cX9_kindsOf 7 (some .int) ∈ WS := ws5 169 (by decide +kernel) rfl
theorem wq_i_yX9_kindsOf : Cond.instanceMethod yX9_kindsOf ∈ WS := ws5 168 (by decide +kernel) rfl
theorem wq_s_yX9_kindsOf : Cond.selects yX9_kindsOf.cls yX9_kindsOf yX9_kindsOf ∈ WS := wsP (q := (yX9_kindsOf, 19)) 38 (by decide +kernel)
theorem wq_c_yX9_look : Cond.code yX9_look cX9_look 11 (some .int) ∈ WS := ws5 173 (by decide +kernel) rfl
theorem wq_i_yX9_look : Cond.instanceMethod yX9_look ∈ WS := ws5 171 (by decide +kernel) rfl
theorem wq_c_yX9_what : Cond.code yX9_what cX9_what 2 (some .int) ∈ WS := ws5 177 (by decide +kernel) rfl
theorem wq_i_yX9_what : Cond.instanceMethod yX9_what ∈ WS := ws5 175 (by decide +kernel) rfl
theorem wq_c_yX9_kindsOfWatcher : Cond.code yX9_kindsOfWatcher cX9_kindsOfWatcher 7 (some .int) ∈ WS := ws5 181 (by decide +kernel) rfl
theorem wq_i_yX9_kindsOfWatcher : Cond.instanceMethod yX9_kindsOfWatcher ∈ WS := ws5 180 (by decide +kernel) rfl
theorem wq_s_yX9_kindsOfWatcher : Cond.selects yX9_kindsOfWatcher.cls yX9_kindsOfWatcher yX9_kindsOfWatcher ∈ WS := wsP (q := (yX9_kindsOfWatcher, 19)) 39 (by decide +kernel)
theorem wq_c_yX9_tries : Cond.code yX9_tries cX9_tries 9 (some .int) ∈ WS := ws5 185 (by decide +kernel) rfl
theorem wq_i_yX9_tries : Cond.instanceMethod yX9_tries ∈ WS := ws5 183 (by decide +kernel) rfl
theorem wq_c_yX9_game : Cond.code yX9_game cX9_game 8 (some .int) ∈ WS := ws5 189 (by decide +kernel) rfl
theorem wq_i_yX9_game : Cond.instanceMethod yX9_game ∈ WS := ws5 187 (by decide +kernel) rfl
theorem wq_c_yX9_fails : Cond.code yX9_fails cX9_fails 12 (some .int) ∈ WS := ws5 193 (by decide +kernel) rfl
theorem wq_i_yX9_fails : Cond.instanceMethod yX9_fails ∈ WS := ws5 191 (by decide +kernel) rfl
theorem wq_c_yX9_fraction : Cond.code yX9_fraction cX9_fraction 11 none ∈ WS := ws5 198 (by decide +kernel) rfl
theorem wq_i_yX9_fraction : Cond.instanceMethod yX9_fraction ∈ WS := ws5 197 (by decide +kernel) rfl
theorem wq_s_yX9_fraction : Cond.selects yX9_fraction.cls yX9_fraction yX9_fraction ∈ WS := wsP (q := (yX9_fraction, 19)) 40 (by decide +kernel)
theorem wq_c_yX9_years : Cond.code yX9_years cX9_years 7 (some .int) ∈ WS := ws5 202 (by decide +kernel) rfl
theorem wq_i_yX9_years : Cond.instanceMethod yX9_years ∈ WS := ws5 200 (by decide +kernel) rfl
theorem wq_c_yX9_type : Cond.code yX9_type cX9_type 2 (some .int) ∈ WS := ws5 213 (by decide +kernel) rfl
theorem wq_i_yX9_type : Cond.instanceMethod yX9_type ∈ WS := ws5 211 (by decide +kernel) rfl
theorem wq_c_yX9_clear : Cond.code yX9_clear cX9_clear 2 (some .int) ∈ WS := ws5 218 (by decide +kernel) rfl
theorem wq_i_yX9_clear : Cond.instanceMethod yX9_clear ∈ WS := ws5 216 (by decide +kernel) rfl
theorem wq_c_yX9_read : Cond.code yX9_read cX9_read 3 (some .int) ∈ WS := ws5 222 (by decide +kernel) rfl
theorem wq_i_yX9_read : Cond.instanceMethod yX9_read ∈ WS := ws5 220 (by decide +kernel) rfl
theorem wq_c_yX9_lookAt : Cond.code yX9_lookAt cX9_lookAt 5 none ∈ WS := ws5 226 (by decide +kernel) rfl
theorem wq_i_yX9_lookAt : Cond.instanceMethod yX9_lookAt ∈ WS := ws5 225 (by decide +kernel) rfl
theorem wq_s_yX9_lookAt : Cond.selects yX9_lookAt.cls yX9_lookAt yX9_lookAt ∈ WS := wsP (q := (yX9_lookAt, 19)) 41 (by decide +kernel)
theorem wq_c_yX9_isSmall : Cond.code yX9_isSmall cX9_isSmall 1 (some .boolean) ∈ WS := ws5 229 (by decide +kernel) rfl
theorem wq_t_yX9_isSmall : Cond.static yX9_isSmall ∈ WS := ws5 228 (by decide +kernel) rfl
theorem wq_c_yX9_isFigure : Cond.code yX9_isFigure cX9_isFigure 1 (some .boolean) ∈ WS := ws5 234 (by decide +kernel) rfl
theorem wq_t_yX9_isFigure : Cond.static yX9_isFigure ∈ WS := ws5 233 (by decide +kernel) rfl
theorem wq_c_yX9_spells : Cond.code yX9_spells cX9_spells 10 (some .boolean) ∈ WS := ws6 0 (by decide +kernel) rfl
theorem wq_i_yX9_spells : Cond.instanceMethod yX9_spells ∈ WS := ws5 239 (by decide +kernel) rfl
theorem wq_s_yX9_spells : Cond.selects yX9_spells.cls yX9_spells yX9_spells ∈ WS := wsP (q := (yX9_spells, 19)) 42 (by decide +kernel)
theorem wq_c_yX9_goBehind : Cond.code yX9_goBehind cX9_goBehind 1 none ∈ WS := ws6 4 (by decide +kernel) rfl
theorem wq_i_yX9_goBehind : Cond.instanceMethod yX9_goBehind ∈ WS := ws6 3 (by decide +kernel) rfl
theorem wq_s_yX9_goBehind : Cond.selects yX9_goBehind.cls yX9_goBehind yX9_goBehind ∈ WS := wsP (q := (yX9_goBehind, 19)) 43 (by decide +kernel)
theorem wq_c_yX9_takesItem : Cond.code yX9_takesItem cX9_takesItem 1 (some .boolean) ∈ WS := ws6 8 (by decide +kernel) rfl
theorem wq_i_yX9_takesItem : Cond.instanceMethod yX9_takesItem ∈ WS := ws6 7 (by decide +kernel) rfl
theorem wq_s_yX9_takesItem : Cond.selects yX9_takesItem.cls yX9_takesItem yX9_takesItem ∈ WS := wsP (q := (yX9_takesItem, 19)) 44 (by decide +kernel)
theorem wq_c_yX9_takesShow : Cond.code yX9_takesShow cX9_takesShow 1 (some .boolean) ∈ WS := ws6 12 (by decide +kernel) rfl
theorem wq_i_yX9_takesShow : Cond.instanceMethod yX9_takesShow ∈ WS := ws6 11 (by decide +kernel) rfl
theorem wq_s_yX9_takesShow : Cond.selects yX9_takesShow.cls yX9_takesShow yX9_takesShow ∈ WS := wsP (q := (yX9_takesShow, 19)) 45 (by decide +kernel)
theorem wq_c_yX9_takes : Cond.code yX9_takes cX9_takes 4 (some .boolean) ∈ WS := ws6 16 (by decide +kernel) rfl
theorem wq_i_yX9_takes : Cond.instanceMethod yX9_takes ∈ WS := ws6 15 (by decide +kernel) rfl
theorem wq_s_yX9_takes : Cond.selects yX9_takes.cls yX9_takes yX9_takes ∈ WS := wsP (q := (yX9_takes, 19)) 46 (by decide +kernel)
theorem wq_c_yX9_takesOff : Cond.code yX9_takesOff cX9_takesOff 1 (some .boolean) ∈ WS := ws6 20 (by decide +kernel) rfl
theorem wq_i_yX9_takesOff : Cond.instanceMethod yX9_takesOff ∈ WS := ws6 19 (by decide +kernel) rfl
theorem wq_s_yX9_takesOff : Cond.selects yX9_takesOff.cls yX9_takesOff yX9_takesOff ∈ WS := wsP (q := (yX9_takesOff, 19)) 47 (by decide +kernel)
theorem wq_c_yX9_takesDo : Cond.code yX9_takesDo cX9_takesDo 1 (some .boolean) ∈ WS := ws6 24 (by decide +kernel) rfl
theorem wq_i_yX9_takesDo : Cond.instanceMethod yX9_takesDo ∈ WS := ws6 23 (by decide +kernel) rfl
theorem wq_s_yX9_takesDo : Cond.selects yX9_takesDo.cls yX9_takesDo yX9_takesDo ∈ WS := wsP (q := (yX9_takesDo, 19)) 48 (by decide +kernel)
theorem wq_c_yX9_takesRest : Cond.code yX9_takesRest cX9_takesRest 1 (some .boolean) ∈ WS := ws6 28 (by decide +kernel) rfl
theorem wq_i_yX9_takesRest : Cond.instanceMethod yX9_takesRest ∈ WS := ws6 27 (by decide +kernel) rfl
theorem wq_s_yX9_takesRest : Cond.selects yX9_takesRest.cls yX9_takesRest yX9_takesRest ∈ WS := wsP (q := (yX9_takesRest, 19)) 49 (by decide +kernel)
theorem wq_c_yX9_isWatcherWord : Cond.code yX9_isWatcherWord cX9_isWatcherWord 3 (some .boolean) ∈ WS := ws6 32 (by decide +kernel) rfl
theorem wq_i_yX9_isWatcherWord : Cond.instanceMethod yX9_isWatcherWord ∈ WS := ws6 31 (by decide +kernel) rfl
theorem wq_s_yX9_isWatcherWord : Cond.selects yX9_isWatcherWord.cls yX9_isWatcherWord yX9_isWatcherWord ∈ WS := wsP (q := (yX9_isWatcherWord, 19)) 50 (by decide +kernel)
theorem wq_c_yX9_takesWatcher : Cond.code yX9_takesWatcher cX9_takesWatcher 1 (some .boolean) ∈ WS := ws6 36 (by decide +kernel) rfl
theorem wq_i_yX9_takesWatcher : Cond.instanceMethod yX9_takesWatcher ∈ WS := ws6 35 (by decide +kernel) rfl
theorem wq_s_yX9_takesWatcher : Cond.selects yX9_takesWatcher.cls yX9_takesWatcher yX9_takesWatcher ∈ WS := wsP (q := (yX9_takesWatcher, 19)) 51 (by decide +kernel)
theorem wq_c_yX9_part : Cond.code yX9_part cX9_part 2 (some .long) ∈ WS := ws6 40 (by decide +kernel) rfl
theorem wq_i_yX9_part : Cond.instanceMethod yX9_part ∈ WS := ws6 38 (by decide +kernel) rfl
theorem wq_c_yX9_image : Cond.code yX9_image cX9_image 3 (some .int) ∈ WS := ws6 44 (by decide +kernel) rfl
theorem wq_i_yX9_image : Cond.instanceMethod yX9_image ∈ WS := ws6 42 (by decide +kernel) rfl
theorem wq_c_yX9_from : Cond.code yX9_from cX9_from 3 (some .int) ∈ WS := ws6 48 (by decide +kernel) rfl
theorem wq_i_yX9_from : Cond.instanceMethod yX9_from ∈ WS := ws6 46 (by decide +kernel) rfl
theorem wq_c_yX9_status : Cond.code yX9_status cX9_status 2 (some .int) ∈ WS := ws6 52 (by decide +kernel) rfl
theorem wq_i_yX9_status : Cond.instanceMethod yX9_status ∈ WS := ws6 50 (by decide +kernel) rfl
theorem wq_c_yX9_count : Cond.code yX9_count cX9_count 2 (some .int) ∈ WS := ws6 56 (by decide +kernel) rfl
theorem wq_i_yX9_count : Cond.instanceMethod yX9_count ∈ WS := ws6 54 (by decide +kernel) rfl
theorem wq_c_yX9_counted : Cond.code yX9_counted cX9_counted 2 (some .int) ∈ WS := ws6 60 (by decide +kernel) rfl
theorem wq_i_yX9_counted : Cond.instanceMethod yX9_counted ∈ WS := ws6 59 (by decide +kernel) rfl
theorem wq_s_yX9_counted : Cond.selects yX9_counted.cls yX9_counted yX9_counted ∈ WS := wsP (q := (yX9_counted, 19)) 52 (by decide +kernel)
theorem wq_c_yX9_allKnow : Cond.code yX9_allKnow cX9_allKnow 3 (some .int) ∈ WS := ws6 64 (by decide +kernel) rfl
theorem wq_i_yX9_allKnow : Cond.instanceMethod yX9_allKnow ∈ WS := ws6 63 (by decide +kernel) rfl
theorem wq_s_yX9_allKnow : Cond.selects yX9_allKnow.cls yX9_allKnow yX9_allKnow ∈ WS := wsP (q := (yX9_allKnow, 19)) 53 (by decide +kernel)
theorem wq_c_yX9_digest : Cond.code yX9_digest cX9_digest 4 (some .long) ∈ WS := ws6 68 (by decide +kernel) rfl
theorem wq_i_yX9_digest : Cond.instanceMethod yX9_digest ∈ WS := ws6 66 (by decide +kernel) rfl
theorem wq_c_yX9_sums : Cond.code yX9_sums cX9_sums 8 (some .long) ∈ WS := ws6 74 (by decide +kernel) rfl
theorem wq_i_yX9_sums : Cond.instanceMethod yX9_sums ∈ WS := ws6 73 (by decide +kernel) rfl
theorem wq_s_yX9_sums : Cond.selects yX9_sums.cls yX9_sums yX9_sums ∈ WS := wsP (q := (yX9_sums, 19)) 54 (by decide +kernel)
theorem wq_x_L_7 : Cond.classLink RL 7 RX8 ∈ WS := ws1 17 (by decide +kernel) rfl
theorem wq_a_RX8 : Cond.instantiable RX8 13 ∈ WS := ws1 18 (by decide +kernel) rfl
theorem wq_m_L_9 : Cond.methodLink RL 9 yX8_init ∈ WS := ws1 19 (by decide +kernel) rfl
theorem wq_m_X8_1 : Cond.methodLink RX8 1 objectInit ∈ WS := ws1 22 (by decide +kernel) rfl
theorem wq_x_X8_7 : Cond.classLink RX8 7 RX0 ∈ WS := ws1 25 (by decide +kernel) rfl
theorem wq_a_RX0 : Cond.instantiable RX0 5 ∈ WS := ws1 26 (by decide +kernel) rfl
theorem wq_z_X8_9 : Cond.methodLinkNest RX8 9 yX0_init RX8 ∈ lw_tbl := wt1 27 (by decide +kernel)
theorem wq_m_X0_1 : Cond.methodLink RX0 1 objectInit ∈ WS := ws1 30 (by decide +kernel) rfl
theorem wq_x_X0_7 : Cond.classLink RX0 7 RX2 ∈ WS := ws1 31 (by decide +kernel) rfl
theorem wq_a_RX2 : Cond.instantiable RX2 11 ∈ WS := ws1 32 (by decide +kernel) rfl
theorem wq_z_X0_9 : Cond.methodLinkNest RX0 9 yX2_init RX8 ∈ lw_tbl := wt1 33 (by decide +kernel)
theorem wq_m_X2_3 : Cond.methodLink RX2 3 objectInit ∈ WS := ws1 36 (by decide +kernel) rfl
theorem wq_ac_int : Cond.arrayClass .int ∈ WS := ws1 90 (by decide +kernel) rfl
theorem wq_x_X0_16 : Cond.classLink RX0 16 RX3 ∈ WS := ws1 91 (by decide +kernel) rfl
theorem wq_a_RX3 : Cond.instantiable RX3 2 ∈ WS := ws1 92 (by decide +kernel) rfl
theorem wq_m_X0_18 : Cond.methodLink RX0 18 yX3_init ∈ WS := ws1 93 (by decide +kernel) rfl
theorem wq_m_X3_3 : Cond.methodLink RX3 3 objectInit ∈ WS := ws1 96 (by decide +kernel) rfl
theorem wq_x_X3_9 : Cond.classLink RX3 9 RX2 ∈ WS := ws1 97 (by decide +kernel) rfl
theorem wq_ao_X2 : Cond.arrayOver (.object RX2) ∈ lw_tbl := wt1 98 (by decide +kernel)
theorem wq_z_X3_17 : Cond.methodLinkNest RX3 17 yX2_init RX8 ∈ lw_tbl := wt1 99 (by decide +kernel)
theorem wq_x_X0_23 : Cond.classLink RX0 23 RX6 ∈ WS := ws1 109 (by decide +kernel) rfl
theorem wq_a_RX6 : Cond.instantiable RX6 2 ∈ WS := ws1 110 (by decide +kernel) rfl
theorem wq_z_X0_25 : Cond.methodLinkNest RX0 25 yX6_init RX8 ∈ lw_tbl := wt1 111 (by decide +kernel)
theorem wq_m_X6_3 : Cond.methodLink RX6 3 objectInit ∈ WS := ws1 114 (by decide +kernel) rfl
theorem wq_ao_X0 : Cond.arrayOver (.object RX0) ∈ lw_tbl := wt1 145 (by decide +kernel)
theorem wq_x_X8_24 : Cond.classLink RX8 24 RX2 ∈ WS := ws1 146 (by decide +kernel) rfl
theorem wq_z_X8_26 : Cond.methodLinkNest RX8 26 yX2_init RX8 ∈ lw_tbl := wt1 147 (by decide +kernel)
theorem wq_x_X8_31 : Cond.classLink RX8 31 RX7 ∈ WS := ws1 148 (by decide +kernel) rfl
theorem wq_a_RX7 : Cond.instantiable RX7 1 ∈ WS := ws1 149 (by decide +kernel) rfl
theorem wq_z_X8_33 : Cond.methodLinkNest RX8 33 yX7_init RX8 ∈ lw_tbl := wt1 150 (by decide +kernel)
theorem wq_m_X7_3 : Cond.methodLink RX7 3 objectInit ∈ WS := ws1 153 (by decide +kernel) rfl
theorem wq_ac_boolean : Cond.arrayClass .boolean ∈ WS := ws1 158 (by decide +kernel) rfl
theorem wq_x_X8_38 : Cond.classLink RX8 38 RX5 ∈ WS := ws1 159 (by decide +kernel) rfl
theorem wq_a_RX5 : Cond.instantiable RX5 8 ∈ WS := ws1 160 (by decide +kernel) rfl
theorem wq_z_X8_40 : Cond.methodLinkNest RX8 40 yX5_init RX8 ∈ lw_tbl := wt1 161 (by decide +kernel)
theorem wq_m_X5_3 : Cond.methodLink RX5 3 objectInit ∈ WS := ws1 164 (by decide +kernel) rfl
theorem wq_x_X8_45 : Cond.classLink RX8 45 RX4 ∈ WS := ws1 191 (by decide +kernel) rfl
theorem wq_a_RX4 : Cond.instantiable RX4 2 ∈ WS := ws1 192 (by decide +kernel) rfl
theorem wq_z_X8_47 : Cond.methodLinkNest RX8 47 yX4_init RX8 ∈ lw_tbl := wt1 193 (by decide +kernel)
theorem wq_m_X4_3 : Cond.methodLink RX4 3 objectInit ∈ WS := ws1 196 (by decide +kernel) rfl
theorem wq_m_L_13 : Cond.methodLink RL 13 yX8_land ∈ WS := ws2 5 (by decide +kernel) rfl
theorem wq_m_X8_67 : Cond.methodLink RX8 67 yX0_makeEmpty ∈ WS := ws2 9 (by decide +kernel) rfl
theorem wq_m_X0_36 : Cond.methodLink RX0 36 yX2_makeEmpty ∈ WS := ws2 13 (by decide +kernel) rfl
theorem wq_m_L_18 : Cond.methodLink RL 18 yX8_show ∈ WS := ws2 17 (by decide +kernel) rfl
theorem wq_m_X8_70 : Cond.methodLink RX8 70 yX8_isKind ∈ WS := ws2 21 (by decide +kernel) rfl
theorem wq_m_X8_104 : Cond.methodLink RX8 104 yX8_within ∈ WS := ws2 24 (by decide +kernel) rfl
theorem wq_m_X8_74 : Cond.methodLink RX8 74 yX8_isCell ∈ WS := ws2 27 (by decide +kernel) rfl
theorem wq_m_X8_77 : Cond.methodLink RX8 77 yX8_isLoud ∈ WS := ws2 30 (by decide +kernel) rfl
theorem wq_m_X8_80 : Cond.methodLink RX8 80 yX8_refuse ∈ WS := ws2 33 (by decide +kernel) rfl
theorem wq_m_X8_96 : Cond.methodLink RX8 96 yX2_addShow ∈ WS := ws2 37 (by decide +kernel) rfl
theorem wq_m_L_23 : Cond.methodLink RL 23 yX8_watcher ∈ WS := ws2 41 (by decide +kernel) rfl
theorem wq_m_X8_100 : Cond.methodLink RX8 100 yX2_addWatcher ∈ WS := ws2 45 (by decide +kernel) rfl
theorem wq_m_L_28 : Cond.methodLink RL 28 yX8_type ∈ WS := ws2 49 (by decide +kernel) rfl
theorem wq_m_X8_111 : Cond.methodLink RX8 111 yX5_append ∈ WS := ws2 53 (by decide +kernel) rfl
theorem wq_m_L_33 : Cond.methodLink RL 33 yX8_clear ∈ WS := ws2 57 (by decide +kernel) rfl
theorem wq_m_L_37 : Cond.methodLink RL 37 yX8_read ∈ WS := ws2 61 (by decide +kernel) rfl
theorem wq_m_X8_115 : Cond.methodLink RX8 115 yX5_readInto ∈ WS := ws2 65 (by decide +kernel) rfl
theorem wq_m_X5_25 : Cond.methodLink RX5 25 yX2_makeEmpty ∈ WS := ws2 69 (by decide +kernel) rfl
theorem wq_m_X5_30 : Cond.methodLink RX5 30 yX5_advance ∈ WS := ws2 70 (by decide +kernel) rfl
theorem wq_m_X5_98 : Cond.methodLink RX5 98 yX5_byteAt ∈ WS := ws2 74 (by decide +kernel) rfl
theorem wq_m_X5_101 : Cond.methodLink RX5 101 yX5_isLetterAt ∈ WS := ws2 78 (by decide +kernel) rfl
theorem wq_m_X5_104 : Cond.methodLink RX5 104 yX5_wordEnd ∈ WS := ws2 82 (by decide +kernel) rfl
theorem wq_m_X5_107 : Cond.methodLink RX5 107 yX5_wordNumber ∈ WS := ws2 86 (by decide +kernel) rfl
theorem wq_m_X5_119 : Cond.methodLink RX5 119 yX5_isWord ∈ WS := ws2 91 (by decide +kernel) rfl
theorem wq_m_X5_133 : Cond.methodLink RX5 133 yJ0_length_8abf5 ∈ WS := ws2 95 (by decide +kernel) rfl
theorem wq_m_X5_137 : Cond.methodLink RX5 137 yJ0_charAt_5068e ∈ WS := ws2 105 (by decide +kernel) rfl
theorem wq_m_X5_111 : Cond.methodLink RX5 111 yX5_isFigureAt ∈ WS := ws2 148 (by decide +kernel) rfl
theorem wq_m_X5_114 : Cond.methodLink RX5 114 yX5_takeNumber ∈ WS := ws2 152 (by decide +kernel) rfl
theorem wq_m_X5_36 : Cond.methodLink RX5 36 yX5_takeItem ∈ WS := ws2 156 (by decide +kernel) rfl
theorem wq_m_X5_50 : Cond.methodLink RX5 50 yX5_mayStand ∈ WS := ws2 160 (by decide +kernel) rfl
theorem wq_m_X5_57 : Cond.methodLink RX5 57 yX5_numbersBehind ∈ WS := ws2 163 (by decide +kernel) rfl
theorem wq_m_X5_61 : Cond.methodLink RX5 61 yX5_least ∈ WS := ws2 166 (by decide +kernel) rfl
theorem wq_m_X5_68 : Cond.methodLink RX5 68 yX5_most ∈ WS := ws2 169 (by decide +kernel) rfl
theorem wq_m_X5_40 : Cond.methodLink RX5 40 yX5_carryOut ∈ WS := ws2 172 (by decide +kernel) rfl
theorem wq_m_X5_75 : Cond.methodLink RX5 75 yX2_addShow ∈ WS := ws2 176 (by decide +kernel) rfl
theorem wq_m_X5_78 : Cond.methodLink RX5 78 yX2_addWatcher ∈ WS := ws2 177 (by decide +kernel) rfl
theorem wq_m_X5_81 : Cond.methodLink RX5 81 yX2_hasShow ∈ WS := ws2 178 (by decide +kernel) rfl
theorem wq_m_X5_88 : Cond.methodLink RX5 88 yX7_doingIn ∈ WS := ws2 182 (by decide +kernel) rfl
theorem wq_m_X7_41 : Cond.methodLink RX7 41 yX2_onBits ∈ WS := ws2 186 (by decide +kernel) rfl
theorem wq_m_X7_53 : Cond.methodLink RX7 53 yX2_dayStep ∈ WS := ws2 190 (by decide +kernel) rfl
theorem wq_m_X7_45 : Cond.methodLink RX7 45 yX7_gauge ∈ WS := ws2 194 (by decide +kernel) rfl
theorem wq_m_X7_24 : Cond.methodLink RX7 24 yX2_greatestPull ∈ WS := ws2 198 (by decide +kernel) rfl
theorem wq_z_X2_52 : Cond.methodLinkNest RX2 52 yX8_far RX8 ∈ lw_tbl := wt2 202 (by decide +kernel)
theorem wq_m_X8_331 : Cond.methodLink RX8 331 yJ9_abs_0f7a4 ∈ WS := ws2 205 (by decide +kernel) rfl
theorem wq_m_X2_55 : Cond.methodLink RX2 55 yX1_pullBy ∈ WS := ws2 208 (by decide +kernel) rfl
theorem wq_m_X1_7 : Cond.methodLink RX1 7 yJ9_max_7cf53 ∈ WS := ws2 211 (by decide +kernel) rfl
theorem wq_m_X1_13 : Cond.methodLink RX1 13 yJ9_min_7cf53 ∈ WS := ws2 214 (by decide +kernel) rfl
theorem wq_m_X2_65 : Cond.methodLink RX2 65 yJ9_max_7cf53 ∈ WS := ws2 217 (by decide +kernel) rfl
theorem wq_m_X7_49 : Cond.methodLink RX7 49 yX7_witnesses ∈ WS := ws2 218 (by decide +kernel) rfl
theorem wq_z_X7_31 : Cond.methodLinkNest RX7 31 yX8_far RX8 ∈ lw_tbl := wt2 222 (by decide +kernel)
theorem wq_m_X7_35 : Cond.methodLink RX7 35 yX1_seesBy ∈ WS := ws2 223 (by decide +kernel) rfl
theorem wq_m_X1_16 : Cond.methodLink RX1 16 yX1_notesBy ∈ WS := ws2 226 (by decide +kernel) rfl
theorem wq_m_X1_21 : Cond.methodLink RX1 21 yX1_drawnBy ∈ WS := ws2 229 (by decide +kernel) rfl
theorem wq_m_X7_82 : Cond.methodLink RX7 82 yX2_pass ∈ WS := ws2 232 (by decide +kernel) rfl
theorem wq_m_X2_46 : Cond.methodLink RX2 46 yJ9_min_7cf53 ∈ WS := ws2 236 (by decide +kernel) rfl
theorem wq_m_X5_94 : Cond.methodLink RX5 94 yX2_pass ∈ WS := ws2 237 (by decide +kernel) rfl
theorem wq_m_X8_119 : Cond.methodLink RX8 119 yX2_copyOf ∈ WS := ws2 238 (by decide +kernel) rfl
theorem wq_ac_byte : Cond.arrayClass .byte ∈ WS := ws3 2 (by decide +kernel) rfl
theorem wq_m_L_41 : Cond.methodLink RL 41 yX8_does ∈ WS := ws3 3 (by decide +kernel) rfl
theorem wq_m_X8_123 : Cond.methodLink RX8 123 yX3_push ∈ WS := ws3 7 (by decide +kernel) rfl
theorem wq_m_X3_22 : Cond.methodLink RX3 22 yX3_dropOldest ∈ WS := ws3 11 (by decide +kernel) rfl
theorem wq_m_X3_25 : Cond.methodLink RX3 25 yX3_keepAt ∈ WS := ws3 15 (by decide +kernel) rfl
theorem wq_m_X3_29 : Cond.methodLink RX3 29 yX2_copyOf ∈ WS := ws3 19 (by decide +kernel) rfl
theorem wq_m_X8_126 : Cond.methodLink RX8 126 yX7_doingIn ∈ WS := ws3 20 (by decide +kernel) rfl
theorem wq_m_L_45 : Cond.methodLink RL 45 yX8_rest ∈ WS := ws3 21 (by decide +kernel) rfl
theorem wq_m_X8_130 : Cond.methodLink RX8 130 yX2_pass ∈ WS := ws3 25 (by decide +kernel) rfl
theorem wq_m_L_49 : Cond.methodLink RL 49 yX8_moves ∈ WS := ws3 26 (by decide +kernel) rfl
theorem wq_m_X8_136 : Cond.methodLink RX8 136 yX2_hasShow ∈ WS := ws3 30 (by decide +kernel) rfl
theorem wq_m_L_53 : Cond.methodLink RL 53 yX8_turns ∈ WS := ws3 31 (by decide +kernel) rfl
theorem wq_m_L_57 : Cond.methodLink RL 57 yX8_sends ∈ WS := ws3 35 (by decide +kernel) rfl
theorem wq_m_X8_145 : Cond.methodLink RX8 145 yX2_hasWatcher ∈ WS := ws3 39 (by decide +kernel) rfl
theorem wq_m_L_61 : Cond.methodLink RL 61 yX8_undo ∈ WS := ws3 43 (by decide +kernel) rfl
theorem wq_m_X8_151 : Cond.methodLink RX8 151 yX3_popInto ∈ WS := ws3 47 (by decide +kernel) rfl
theorem wq_m_L_65 : Cond.methodLink RL 65 yX8_of ∈ WS := ws3 51 (by decide +kernel) rfl
theorem wq_m_X8_154 : Cond.methodLink RX8 154 yX2_showPart ∈ WS := ws3 55 (by decide +kernel) rfl
theorem wq_m_L_69 : Cond.methodLink RL 69 yX8_about ∈ WS := ws3 59 (by decide +kernel) rfl
theorem wq_m_X8_157 : Cond.methodLink RX8 157 yX2_watcherPart ∈ WS := ws3 63 (by decide +kernel) rfl
theorem wq_m_L_73 : Cond.methodLink RL 73 yX8_pull ∈ WS := ws3 67 (by decide +kernel) rfl
theorem wq_m_X8_160 : Cond.methodLink RX8 160 yX2_dayStep ∈ WS := ws3 71 (by decide +kernel) rfl
theorem wq_m_X8_163 : Cond.methodLink RX8 163 yX2_pullAt ∈ WS := ws3 72 (by decide +kernel) rfl
theorem wq_m_L_77 : Cond.methodLink RL 77 yX8_drawn ∈ WS := ws3 76 (by decide +kernel) rfl
theorem wq_m_X8_166 : Cond.methodLink RX8 166 yX2_onBits ∈ WS := ws3 80 (by decide +kernel) rfl
theorem wq_m_X8_170 : Cond.methodLink RX8 170 yX2_strongest ∈ WS := ws3 81 (by decide +kernel) rfl
theorem wq_m_X2_61 : Cond.methodLink RX2 61 yX2_pullAt ∈ WS := ws3 85 (by decide +kernel) rfl
theorem wq_m_X8_176 : Cond.methodLink RX8 176 yX2_greatestPull ∈ WS := ws3 86 (by decide +kernel) rfl
theorem wq_m_X8_179 : Cond.methodLink RX8 179 yX1_drawnBy ∈ WS := ws3 87 (by decide +kernel) rfl
theorem wq_m_L_81 : Cond.methodLink RL 81 yX8_sees ∈ WS := ws3 88 (by decide +kernel) rfl
theorem wq_m_X8_184 : Cond.methodLink RX8 184 yX7_whoSees ∈ WS := ws3 92 (by decide +kernel) rfl
theorem wq_m_L_85 : Cond.methodLink RL 85 yX8_unseen ∈ WS := ws3 96 (by decide +kernel) rfl
theorem wq_m_X8_188 : Cond.methodLink RX8 188 yX8_isDayStep ∈ WS := ws3 100 (by decide +kernel) rfl
theorem wq_m_X8_191 : Cond.methodLink RX8 191 yX7_gauge ∈ WS := ws3 103 (by decide +kernel) rfl
theorem wq_m_X8_195 : Cond.methodLink RX8 195 yX7_witnesses ∈ WS := ws3 104 (by decide +kernel) rfl
theorem wq_m_L_89 : Cond.methodLink RL 89 yX8_when ∈ WS := ws3 105 (by decide +kernel) rfl
theorem wq_m_X8_198 : Cond.methodLink RX8 198 yX7_openSteps ∈ WS := ws3 109 (by decide +kernel) rfl
theorem wq_m_X7_72 : Cond.methodLink RX7 72 yX7_whoSees ∈ WS := ws3 113 (by decide +kernel) rfl
theorem wq_m_X8_201 : Cond.methodLink RX8 201 yJ6_numberOfTrailingZeros_0f7a4 ∈ WS := ws3 114 (by decide +kernel) rfl
theorem wq_k_J6_264 : Cond.constant RJ6 264 (65536 : Int32) ∈ WS := ws3 117 (by decide +kernel) rfl
theorem wq_m_L_93 : Cond.methodLink RL 93 yX8_enough ∈ WS := ws3 118 (by decide +kernel) rfl
theorem wq_m_X8_206 : Cond.methodLink RX8 206 yJ6_bitCount_0f7a4 ∈ WS := ws3 122 (by decide +kernel) rfl
theorem wq_k_J6_265 : Cond.constant RJ6 265 (1431655765 : Int32) ∈ WS := ws3 125 (by decide +kernel) rfl
theorem wq_k_J6_266 : Cond.constant RJ6 266 (858993459 : Int32) ∈ WS := ws3 126 (by decide +kernel) rfl
theorem wq_k_J6_267 : Cond.constant RJ6 267 (252645135 : Int32) ∈ WS := ws3 127 (by decide +kernel) rfl
theorem wq_m_L_97 : Cond.methodLink RL 97 yX8_place ∈ WS := ws3 128 (by decide +kernel) rfl
theorem wq_m_X8_209 : Cond.methodLink RX8 209 yX7_whoSeesWithShowAt ∈ WS := ws3 132 (by decide +kernel) rfl
theorem wq_m_X7_63 : Cond.methodLink RX7 63 yX1_pullBy ∈ WS := ws3 136 (by decide +kernel) rfl
theorem wq_m_X7_67 : Cond.methodLink RX7 67 yJ9_max_7cf53 ∈ WS := ws3 137 (by decide +kernel) rfl
theorem wq_m_L_101 : Cond.methodLink RL 101 yX8_plan ∈ WS := ws3 138 (by decide +kernel) rfl
theorem wq_m_X8_213 : Cond.methodLink RX8 213 yX8_planCells ∈ WS := ws3 142 (by decide +kernel) rfl
theorem wq_m_X8_219 : Cond.methodLink RX8 219 yX4_openAt ∈ WS := ws3 145 (by decide +kernel) rfl
theorem wq_m_X8_223 : Cond.methodLink RX8 223 yX4_soonestLast ∈ WS := ws3 149 (by decide +kernel) rfl
theorem wq_m_X4_15 : Cond.methodLink RX4 15 yX4_upTo ∈ WS := ws3 153 (by decide +kernel) rfl
theorem wq_m_X4_19 : Cond.methodLink RX4 19 yX4_canFill ∈ WS := ws3 156 (by decide +kernel) rfl
theorem wq_m_X4_31 : Cond.methodLink RX4 31 yJ6_numberOfTrailingZeros_0f7a4 ∈ WS := ws3 160 (by decide +kernel) rfl
theorem wq_m_X4_36 : Cond.methodLink RX4 36 yX4_stepsTogether ∈ WS := ws3 161 (by decide +kernel) rfl
theorem wq_m_X4_39 : Cond.methodLink RX4 39 yJ6_bitCount_0f7a4 ∈ WS := ws3 165 (by decide +kernel) rfl
theorem wq_m_X8_226 : Cond.methodLink RX8 226 yX4_stepOf ∈ WS := ws3 166 (by decide +kernel) rfl
theorem wq_m_X4_27 : Cond.methodLink RX4 27 yX4_firstStep ∈ WS := ws3 170 (by decide +kernel) rfl
theorem wq_m_L_105 : Cond.methodLink RL 105 yX8_guard ∈ WS := ws3 174 (by decide +kernel) rfl
theorem wq_m_X8_229 : Cond.methodLink RX8 229 yX8_cellsSeenFrom ∈ WS := ws3 178 (by decide +kernel) rfl
theorem wq_m_X8_336 : Cond.methodLink RX8 336 yX8_far ∈ WS := ws3 182 (by decide +kernel) rfl
theorem wq_m_X8_339 : Cond.methodLink RX8 339 yX1_seesBy ∈ WS := ws3 183 (by decide +kernel) rfl
theorem wq_m_L_109 : Cond.methodLink RL 109 yX8_saw ∈ WS := ws3 184 (by decide +kernel) rfl
theorem wq_m_X8_239 : Cond.methodLink RX8 239 yX6_add ∈ WS := ws3 188 (by decide +kernel) rfl
theorem wq_m_L_113 : Cond.methodLink RL 113 yX8_where ∈ WS := ws3 192 (by decide +kernel) rfl
theorem wq_k_X8_243 : Cond.constant RX8 243 (1073741823 : Int32) ∈ WS := ws3 196 (by decide +kernel) rfl
theorem wq_m_X8_244 : Cond.methodLink RX8 244 yX6_told ∈ WS := ws3 197 (by decide +kernel) rfl
theorem wq_m_L_117 : Cond.methodLink RL 117 yX8_note ∈ WS := ws3 201 (by decide +kernel) rfl
theorem wq_m_X8_247 : Cond.methodLink RX8 247 yX8_isFar ∈ WS := ws3 205 (by decide +kernel) rfl
theorem wq_m_X8_250 : Cond.methodLink RX8 250 yX8_isPull ∈ WS := ws3 208 (by decide +kernel) rfl
theorem wq_m_L_122 : Cond.methodLink RL 122 yX8_mark ∈ WS := ws3 211 (by decide +kernel) rfl
theorem wq_m_L_127 : Cond.methodLink RL 127 yX8_forget ∈ WS := ws3 215 (by decide +kernel) rfl
theorem wq_m_L_131 : Cond.methodLink RL 131 yX8_is ∈ WS := ws3 219 (by decide +kernel) rfl
theorem wq_m_X8_259 : Cond.methodLink RX8 259 yX8_showKindsLeft ∈ WS := ws3 223 (by decide +kernel) rfl
theorem wq_m_X8_342 : Cond.methodLink RX8 342 yX1_pullBy ∈ WS := ws3 227 (by decide +kernel) rfl
theorem wq_m_L_135 : Cond.methodLink RL 135 yX8_look ∈ WS := ws3 228 (by decide +kernel) rfl
theorem wq_m_X8_265 : Cond.methodLink RX8 265 yX8_mostAlike ∈ WS := ws3 232 (by decide +kernel) rfl
theorem wq_m_X8_345 : Cond.methodLink RX8 345 yJ9_max_7cf53 ∈ WS := ws3 236 (by decide +kernel) rfl
theorem wq_m_L_139 : Cond.methodLink RL 139 yX8_what ∈ WS := ws3 237 (by decide +kernel) rfl
theorem wq_m_X8_269 : Cond.methodLink RX8 269 yX8_watcherKindsLeft ∈ WS := ws4 1 (by decide +kernel) rfl
theorem wq_m_L_143 : Cond.methodLink RL 143 yX8_tries ∈ WS := ws4 5 (by decide +kernel) rfl
theorem wq_m_X8_272 : Cond.methodLink RX8 272 yX8_greaterPart ∈ WS := ws4 9 (by decide +kernel) rfl
theorem wq_m_L_147 : Cond.methodLink RL 147 yX8_game ∈ WS := ws4 12 (by decide +kernel) rfl
theorem wq_m_X8_275 : Cond.methodLink RX8 275 yX8_seesStanding ∈ WS := ws4 16 (by decide +kernel) rfl
theorem wq_m_L_151 : Cond.methodLink RL 151 yX8_fails ∈ WS := ws4 20 (by decide +kernel) rfl
theorem wq_m_X8_278 : Cond.methodLink RX8 278 yX8_oddsOf ∈ WS := ws4 24 (by decide +kernel) rfl
theorem wq_m_X8_284 : Cond.methodLink RX8 284 yX8_power ∈ WS := ws4 27 (by decide +kernel) rfl
theorem wq_l_X8_282 : Cond.constantLong RX8 282 (10 : Int64) ∈ WS := ws4 30 (by decide +kernel) rfl
theorem wq_m_X8_288 : Cond.methodLink RX8 288 yX8_keepFraction ∈ WS := ws4 31 (by decide +kernel) rfl
theorem wq_m_L_155 : Cond.methodLink RL 155 yX8_years ∈ WS := ws4 35 (by decide +kernel) rfl
theorem wq_k_X8_292 : Cond.constant RX8 292 (999999 : Int32) ∈ WS := ws4 39 (by decide +kernel) rfl
theorem wq_l_X8_293 : Cond.constantLong RX8 293 (1103515245 : Int64) ∈ WS := ws4 40 (by decide +kernel) rfl
theorem wq_l_X8_295 : Cond.constantLong RX8 295 (12345 : Int64) ∈ WS := ws4 41 (by decide +kernel) rfl
theorem wq_l_X8_297 : Cond.constantLong RX8 297 (2147483648 : Int64) ∈ WS := ws4 42 (by decide +kernel) rfl
theorem wq_l_X8_299 : Cond.constantLong RX8 299 (65536 : Int64) ∈ WS := ws4 43 (by decide +kernel) rfl
theorem wq_l_X8_301 : Cond.constantLong RX8 301 (30 : Int64) ∈ WS := ws4 44 (by decide +kernel) rfl
theorem wq_m_L_159 : Cond.methodLink RL 159 yX8_part ∈ WS := ws4 45 (by decide +kernel) rfl
theorem wq_m_L_164 : Cond.methodLink RL 164 yX8_image ∈ WS := ws4 49 (by decide +kernel) rfl
theorem wq_m_X8_306 : Cond.methodLink RX8 306 yX8_isImage ∈ WS := ws4 53 (by decide +kernel) rfl
theorem wq_m_X8_309 : Cond.methodLink RX8 309 yX0_copyOf ∈ WS := ws4 57 (by decide +kernel) rfl
theorem wq_m_X0_44 : Cond.methodLink RX0 44 yX2_copyOf ∈ WS := ws4 61 (by decide +kernel) rfl
theorem wq_m_X0_48 : Cond.methodLink RX0 48 yX3_copyOf ∈ WS := ws4 62 (by decide +kernel) rfl
theorem wq_m_X0_51 : Cond.methodLink RX0 51 yX6_copyOf ∈ WS := ws4 66 (by decide +kernel) rfl
theorem wq_m_L_168 : Cond.methodLink RL 168 yX8_from ∈ WS := ws4 70 (by decide +kernel) rfl
theorem wq_m_L_172 : Cond.methodLink RL 172 yX8_status ∈ WS := ws4 74 (by decide +kernel) rfl
theorem wq_m_L_176 : Cond.methodLink RL 176 yX8_count ∈ WS := ws4 78 (by decide +kernel) rfl
theorem wq_m_X8_321 : Cond.methodLink RX8 321 yX8_tally ∈ WS := ws4 82 (by decide +kernel) rfl
theorem wq_m_X8_351 : Cond.methodLink RX8 351 yX2_knownTogether ∈ WS := ws4 86 (by decide +kernel) rfl
theorem wq_m_L_180 : Cond.methodLink RL 180 yX8_digest ∈ WS := ws4 90 (by decide +kernel) rfl
theorem wq_l_X8_324 : Cond.constantLong RX8 324 (1487 : Int64) ∈ WS := ws4 94 (by decide +kernel) rfl
theorem wq_l_X8_326 : Cond.constantLong RX8 326 (31 : Int64) ∈ WS := ws4 95 (by decide +kernel) rfl
theorem wq_m_X8_328 : Cond.methodLink RX8 328 yX6_mixInto ∈ WS := ws4 96 (by decide +kernel) rfl
theorem wq_l_X6_19 : Cond.constantLong RX6 19 (31 : Int64) ∈ WS := ws4 100 (by decide +kernel) rfl
theorem wq_m_X6_21 : Cond.methodLink RX6 21 yX6_told ∈ WS := ws4 101 (by decide +kernel) rfl
theorem wq_x_L_10 : Cond.classLink RL 10 RX9 ∈ WS := ws4 102 (by decide +kernel) rfl
theorem wq_a_RX9 : Cond.instantiable RX9 19 ∈ WS := ws4 103 (by decide +kernel) rfl
theorem wq_m_L_12 : Cond.methodLink RL 12 yX9_init ∈ WS := ws4 104 (by decide +kernel) rfl
theorem wq_m_X9_1 : Cond.methodLink RX9 1 objectInit ∈ WS := ws4 107 (by decide +kernel) rfl
theorem wq_m_X9_51 : Cond.methodLink RX9 51 yX9_begin ∈ WS := ws4 108 (by decide +kernel) rfl
theorem wq_m_L_17 : Cond.methodLink RL 17 yX9_land ∈ WS := ws4 169 (by decide +kernel) rfl
theorem wq_m_X9_63 : Cond.methodLink RX9 63 yX9_manyWatchers ∈ WS := ws4 173 (by decide +kernel) rfl
theorem wq_m_L_22 : Cond.methodLink RL 22 yX9_show ∈ WS := ws4 177 (by decide +kernel) rfl
theorem wq_l_X9_72 : Cond.constantLong RX9 72 (5 : Int64) ∈ WS := ws4 181 (by decide +kernel) rfl
theorem wq_m_X9_59 : Cond.methodLink RX9 59 yX9_in ∈ WS := ws4 182 (by decide +kernel) rfl
theorem wq_m_X9_74 : Cond.methodLink RX9 74 yX9_isCell ∈ WS := ws4 185 (by decide +kernel) rfl
theorem wq_l_X9_66 : Cond.constantLong RX9 66 (29 : Int64) ∈ WS := ws4 188 (by decide +kernel) rfl
theorem wq_l_X9_70 : Cond.constantLong RX9 70 (9 : Int64) ∈ WS := ws4 189 (by decide +kernel) rfl
theorem wq_m_X9_78 : Cond.methodLink RX9 78 yX9_bad ∈ WS := ws4 190 (by decide +kernel) rfl
theorem wq_m_X9_55 : Cond.methodLink RX9 55 yX9_many ∈ WS := ws4 194 (by decide +kernel) rfl
theorem wq_m_X9_82 : Cond.methodLink RX9 82 yX9_full ∈ WS := ws4 198 (by decide +kernel) rfl
theorem wq_m_X9_85 : Cond.methodLink RX9 85 yX9_layShow ∈ WS := ws4 202 (by decide +kernel) rfl
theorem wq_m_L_27 : Cond.methodLink RL 27 yX9_watcher ∈ WS := ws4 205 (by decide +kernel) rfl
theorem wq_m_X9_89 : Cond.methodLink RX9 89 yX9_layWatcher ∈ WS := ws4 209 (by decide +kernel) rfl
theorem wq_m_L_44 : Cond.methodLink RL 44 yX9_does ∈ WS := ws4 212 (by decide +kernel) rfl
theorem wq_m_X9_140 : Cond.methodLink RX9 140 yX9_keep ∈ WS := ws4 216 (by decide +kernel) rfl
theorem wq_m_X9_143 : Cond.methodLink RX9 143 yX9_goDoing ∈ WS := ws4 220 (by decide +kernel) rfl
theorem wq_m_X9_133 : Cond.methodLink RX9 133 yX9_isOn ∈ WS := ws4 223 (by decide +kernel) rfl
theorem wq_m_X9_137 : Cond.methodLink RX9 137 yX9_whoSees ∈ WS := ws4 226 (by decide +kernel) rfl
theorem wq_m_X9_129 : Cond.methodLink RX9 129 yX9_seesFrom ∈ WS := ws4 229 (by decide +kernel) rfl
theorem wq_m_X9_107 : Cond.methodLink RX9 107 yX9_distance ∈ WS := ws4 232 (by decide +kernel) rfl
theorem wq_m_X9_122 : Cond.methodLink RX9 122 yX9_greatest ∈ WS := ws4 235 (by decide +kernel) rfl
theorem wq_m_X9_114 : Cond.methodLink RX9 114 yX9_has ∈ WS := ws4 238 (by decide +kernel) rfl
theorem wq_m_X9_118 : Cond.methodLink RX9 118 yX9_pullAt ∈ WS := ws5 1 (by decide +kernel) rfl
theorem wq_m_X9_110 : Cond.methodLink RX9 110 yX9_pullAs ∈ WS := ws5 4 (by decide +kernel) rfl
theorem wq_m_X9_93 : Cond.methodLink RX9 93 yX9_plainPull ∈ WS := ws5 7 (by decide +kernel) rfl
theorem wq_m_X9_97 : Cond.methodLink RX9 97 yX9_firePull ∈ WS := ws5 10 (by decide +kernel) rfl
theorem wq_m_X9_125 : Cond.methodLink RX9 125 yX9_seesAs ∈ WS := ws5 13 (by decide +kernel) rfl
theorem wq_m_X9_101 : Cond.methodLink RX9 101 yX9_notesAs ∈ WS := ws5 16 (by decide +kernel) rfl
theorem wq_m_X9_104 : Cond.methodLink RX9 104 yX9_drawnAs ∈ WS := ws5 19 (by decide +kernel) rfl
theorem wq_m_L_48 : Cond.methodLink RL 48 yX9_rest ∈ WS := ws5 22 (by decide +kernel) rfl
theorem wq_l_X9_147 : Cond.constantLong RX9 147 (99 : Int64) ∈ WS := ws5 26 (by decide +kernel) rfl
theorem wq_m_X9_149 : Cond.methodLink RX9 149 yX9_goRest ∈ WS := ws5 27 (by decide +kernel) rfl
theorem wq_m_L_52 : Cond.methodLink RL 52 yX9_moves ∈ WS := ws5 30 (by decide +kernel) rfl
theorem wq_m_X9_153 : Cond.methodLink RX9 153 yX9_isShow ∈ WS := ws5 34 (by decide +kernel) rfl
theorem wq_m_X9_156 : Cond.methodLink RX9 156 yX9_put ∈ WS := ws5 38 (by decide +kernel) rfl
theorem wq_m_L_56 : Cond.methodLink RL 56 yX9_turns ∈ WS := ws5 42 (by decide +kernel) rfl
theorem wq_m_L_60 : Cond.methodLink RL 60 yX9_sends ∈ WS := ws5 46 (by decide +kernel) rfl
theorem wq_m_X9_159 : Cond.methodLink RX9 159 yX9_isWatcher ∈ WS := ws5 50 (by decide +kernel) rfl
theorem wq_m_L_64 : Cond.methodLink RL 64 yX9_undo ∈ WS := ws5 54 (by decide +kernel) rfl
theorem wq_m_X9_162 : Cond.methodLink RX9 162 yX9_no ∈ WS := ws5 58 (by decide +kernel) rfl
theorem wq_m_L_68 : Cond.methodLink RL 68 yX9_of ∈ WS := ws5 62 (by decide +kernel) rfl
theorem wq_l_X9_165 : Cond.constantLong RX9 165 (3 : Int64) ∈ WS := ws5 66 (by decide +kernel) rfl
theorem wq_m_L_72 : Cond.methodLink RL 72 yX9_about ∈ WS := ws5 67 (by decide +kernel) rfl
theorem wq_l_X9_167 : Cond.constantLong RX9 167 (2 : Int64) ∈ WS := ws5 71 (by decide +kernel) rfl
theorem wq_m_L_76 : Cond.methodLink RL 76 yX9_pull ∈ WS := ws5 72 (by decide +kernel) rfl
theorem wq_m_X9_169 : Cond.methodLink RX9 169 yX9_stepNow ∈ WS := ws5 76 (by decide +kernel) rfl
theorem wq_m_L_80 : Cond.methodLink RL 80 yX9_drawn ∈ WS := ws5 80 (by decide +kernel) rfl
theorem wq_m_X9_172 : Cond.methodLink RX9 172 yX9_pull ∈ WS := ws5 84 (by decide +kernel) rfl
theorem wq_m_L_84 : Cond.methodLink RL 84 yX9_sees ∈ WS := ws5 85 (by decide +kernel) rfl
theorem wq_l_X9_175 : Cond.constantLong RX9 175 (-1 : Int64) ∈ WS := ws5 89 (by decide +kernel) rfl
theorem wq_m_L_88 : Cond.methodLink RL 88 yX9_unseen ∈ WS := ws5 90 (by decide +kernel) rfl
theorem wq_m_X9_177 : Cond.methodLink RX9 177 yX9_isStep ∈ WS := ws5 94 (by decide +kernel) rfl
theorem wq_l_X9_68 : Cond.constantLong RX9 68 (11 : Int64) ∈ WS := ws5 97 (by decide +kernel) rfl
theorem wq_m_L_92 : Cond.methodLink RL 92 yX9_when ∈ WS := ws5 98 (by decide +kernel) rfl
theorem wq_m_X9_180 : Cond.methodLink RX9 180 yX9_isUnseenIn ∈ WS := ws5 102 (by decide +kernel) rfl
theorem wq_m_L_96 : Cond.methodLink RL 96 yX9_enough ∈ WS := ws5 106 (by decide +kernel) rfl
theorem wq_m_X9_183 : Cond.methodLink RX9 183 yX9_bits ∈ WS := ws5 110 (by decide +kernel) rfl
theorem wq_m_L_100 : Cond.methodLink RL 100 yX9_place ∈ WS := ws5 113 (by decide +kernel) rfl
theorem wq_k_X9_186 : Cond.constant RX9 186 (1000000 : Int32) ∈ WS := ws5 117 (by decide +kernel) rfl
theorem wq_m_X9_187 : Cond.methodLink RX9 187 yX9_layHand ∈ WS := ws5 118 (by decide +kernel) rfl
theorem wq_m_L_104 : Cond.methodLink RL 104 yX9_plan ∈ WS := ws5 122 (by decide +kernel) rfl
theorem wq_m_X9_192 : Cond.methodLink RX9 192 yX9_layGoals ∈ WS := ws5 126 (by decide +kernel) rfl
theorem wq_l_X9_190 : Cond.constantLong RX9 190 (40 : Int64) ∈ WS := ws5 130 (by decide +kernel) rfl
theorem wq_m_X9_195 : Cond.methodLink RX9 195 yX9_lastBy ∈ WS := ws5 131 (by decide +kernel) rfl
theorem wq_m_L_108 : Cond.methodLink RL 108 yX9_guard ∈ WS := ws5 135 (by decide +kernel) rfl
theorem wq_m_L_112 : Cond.methodLink RL 112 yX9_saw ∈ WS := ws5 139 (by decide +kernel) rfl
theorem wq_m_L_116 : Cond.methodLink RL 116 yX9_where ∈ WS := ws5 143 (by decide +kernel) rfl
theorem wq_m_L_121 : Cond.methodLink RL 121 yX9_note ∈ WS := ws5 147 (by decide +kernel) rfl
theorem wq_m_X9_198 : Cond.methodLink RX9 198 yX9_isFar ∈ WS := ws5 151 (by decide +kernel) rfl
theorem wq_m_L_126 : Cond.methodLink RL 126 yX9_mark ∈ WS := ws5 154 (by decide +kernel) rfl
theorem wq_m_L_130 : Cond.methodLink RL 130 yX9_forget ∈ WS := ws5 158 (by decide +kernel) rfl
theorem wq_m_L_134 : Cond.methodLink RL 134 yX9_is ∈ WS := ws5 162 (by decide +kernel) rfl
theorem wq_m_X9_201 : Cond.methodLink RX9 201 yX9_kindsOf ∈ WS := ws5 166 (by decide +kernel) rfl
theorem wq_m_L_138 : Cond.methodLink RL 138 yX9_look ∈ WS := ws5 170 (by decide +kernel) rfl
theorem wq_m_L_142 : Cond.methodLink RL 142 yX9_what ∈ WS := ws5 174 (by decide +kernel) rfl
theorem wq_m_X9_204 : Cond.methodLink RX9 204 yX9_kindsOfWatcher ∈ WS := ws5 178 (by decide +kernel) rfl
theorem wq_m_L_146 : Cond.methodLink RL 146 yX9_tries ∈ WS := ws5 182 (by decide +kernel) rfl
theorem wq_m_L_150 : Cond.methodLink RL 150 yX9_game ∈ WS := ws5 186 (by decide +kernel) rfl
theorem wq_m_L_154 : Cond.methodLink RL 154 yX9_fails ∈ WS := ws5 190 (by decide +kernel) rfl
theorem wq_l_X9_210 : Cond.constantLong RX9 210 (10 : Int64) ∈ WS := ws5 194 (by decide +kernel) rfl
theorem wq_m_X9_212 : Cond.methodLink RX9 212 yX9_fraction ∈ WS := ws5 195 (by decide +kernel) rfl
theorem wq_m_L_158 : Cond.methodLink RL 158 yX9_years ∈ WS := ws5 199 (by decide +kernel) rfl
theorem wq_l_X9_216 : Cond.constantLong RX9 216 (999999 : Int64) ∈ WS := ws5 203 (by decide +kernel) rfl
theorem wq_l_X9_218 : Cond.constantLong RX9 218 (60 : Int64) ∈ WS := ws5 204 (by decide +kernel) rfl
theorem wq_l_X9_220 : Cond.constantLong RX9 220 (1103515245 : Int64) ∈ WS := ws5 205 (by decide +kernel) rfl
theorem wq_l_X9_222 : Cond.constantLong RX9 222 (12345 : Int64) ∈ WS := ws5 206 (by decide +kernel) rfl
theorem wq_l_X9_224 : Cond.constantLong RX9 224 (2147483648 : Int64) ∈ WS := ws5 207 (by decide +kernel) rfl
theorem wq_l_X9_226 : Cond.constantLong RX9 226 (65536 : Int64) ∈ WS := ws5 208 (by decide +kernel) rfl
theorem wq_l_X9_228 : Cond.constantLong RX9 228 (30 : Int64) ∈ WS := ws5 209 (by decide +kernel) rfl
theorem wq_m_L_32 : Cond.methodLink RL 32 yX9_type ∈ WS := ws5 210 (by decide +kernel) rfl
theorem wq_l_X9_230 : Cond.constantLong RX9 230 (127 : Int64) ∈ WS := ws5 214 (by decide +kernel) rfl
theorem wq_m_L_36 : Cond.methodLink RL 36 yX9_clear ∈ WS := ws5 215 (by decide +kernel) rfl
theorem wq_m_L_40 : Cond.methodLink RL 40 yX9_read ∈ WS := ws5 219 (by decide +kernel) rfl
theorem wq_m_X9_262 : Cond.methodLink RX9 262 yX9_lookAt ∈ WS := ws5 223 (by decide +kernel) rfl
theorem wq_m_X9_256 : Cond.methodLink RX9 256 yX9_isSmall ∈ WS := ws5 227 (by decide +kernel) rfl
theorem wq_l_X9_236 : Cond.constantLong RX9 236 (97 : Int64) ∈ WS := ws5 230 (by decide +kernel) rfl
theorem wq_l_X9_238 : Cond.constantLong RX9 238 (122 : Int64) ∈ WS := ws5 231 (by decide +kernel) rfl
theorem wq_m_X9_259 : Cond.methodLink RX9 259 yX9_isFigure ∈ WS := ws5 232 (by decide +kernel) rfl
theorem wq_l_X9_240 : Cond.constantLong RX9 240 (48 : Int64) ∈ WS := ws5 235 (by decide +kernel) rfl
theorem wq_l_X9_242 : Cond.constantLong RX9 242 (57 : Int64) ∈ WS := ws5 236 (by decide +kernel) rfl
theorem wq_m_X9_272 : Cond.methodLink RX9 272 yX9_spells ∈ WS := ws5 237 (by decide +kernel) rfl
theorem wq_m_X9_266 : Cond.methodLink RX9 266 yX9_goBehind ∈ WS := ws6 1 (by decide +kernel) rfl
theorem wq_m_X9_295 : Cond.methodLink RX9 295 yX9_takesItem ∈ WS := ws6 5 (by decide +kernel) rfl
theorem wq_m_X9_276 : Cond.methodLink RX9 276 yX9_takesShow ∈ WS := ws6 9 (by decide +kernel) rfl
theorem wq_m_X9_269 : Cond.methodLink RX9 269 yX9_takes ∈ WS := ws6 13 (by decide +kernel) rfl
theorem wq_m_X9_280 : Cond.methodLink RX9 280 yX9_takesOff ∈ WS := ws6 17 (by decide +kernel) rfl
theorem wq_m_X9_283 : Cond.methodLink RX9 283 yX9_takesDo ∈ WS := ws6 21 (by decide +kernel) rfl
theorem wq_m_X9_286 : Cond.methodLink RX9 286 yX9_takesRest ∈ WS := ws6 25 (by decide +kernel) rfl
theorem wq_m_X9_289 : Cond.methodLink RX9 289 yX9_isWatcherWord ∈ WS := ws6 29 (by decide +kernel) rfl
theorem wq_m_X9_292 : Cond.methodLink RX9 292 yX9_takesWatcher ∈ WS := ws6 33 (by decide +kernel) rfl
theorem wq_m_L_163 : Cond.methodLink RL 163 yX9_part ∈ WS := ws6 37 (by decide +kernel) rfl
theorem wq_m_L_167 : Cond.methodLink RL 167 yX9_image ∈ WS := ws6 41 (by decide +kernel) rfl
theorem wq_m_L_171 : Cond.methodLink RL 171 yX9_from ∈ WS := ws6 45 (by decide +kernel) rfl
theorem wq_m_L_175 : Cond.methodLink RL 175 yX9_status ∈ WS := ws6 49 (by decide +kernel) rfl
theorem wq_m_L_179 : Cond.methodLink RL 179 yX9_count ∈ WS := ws6 53 (by decide +kernel) rfl
theorem wq_m_X9_301 : Cond.methodLink RX9 301 yX9_counted ∈ WS := ws6 57 (by decide +kernel) rfl
theorem wq_m_X9_298 : Cond.methodLink RX9 298 yX9_allKnow ∈ WS := ws6 61 (by decide +kernel) rfl
theorem wq_m_L_184 : Cond.methodLink RL 184 yX9_digest ∈ WS := ws6 65 (by decide +kernel) rfl
theorem wq_l_X9_306 : Cond.constantLong RX9 306 (1487 : Int64) ∈ WS := ws6 69 (by decide +kernel) rfl
theorem wq_l_X9_304 : Cond.constantLong RX9 304 (31 : Int64) ∈ WS := ws6 70 (by decide +kernel) rfl
theorem wq_m_X9_308 : Cond.methodLink RX9 308 yX9_sums ∈ WS := ws6 71 (by decide +kernel) rfl
def CL (ci : Nat) (C : String) (T : u_T) (N : Nat) (ty : Nat → FieldType) : Prop := vwCl[ci]? = some (C, T, N) ∧ (∀ w ∈ u_ws C T N, w ∈ WS) ∧ (∀ k, k < N → parseFieldDescriptor (T k).2.2.1 = some (ty k)) ∧ (∀ a, a < N → ∀ b, b < N → a ≠ b → (T a).2.1 ≠ (T b).2.1) ∧ (∀ k, k < N → (T k).1 = C)
theorem wq_u_X0_0 : u_lay RX0 TX0 0 ∈ WS := ws1 134 (by decide +kernel) rfl
theorem wq_u_X0_1 : u_lay RX0 TX0 1 ∈ WS := ws1 136 (by decide +kernel) rfl
theorem wq_u_X0_2 : u_lay RX0 TX0 2 ∈ WS := ws1 138 (by decide +kernel) rfl
theorem wq_u_X0_3 : u_lay RX0 TX0 3 ∈ WS := ws1 140 (by decide +kernel) rfl
theorem wq_u_X0_4 : u_lay RX0 TX0 4 ∈ WS := ws1 142 (by decide +kernel) rfl
theorem wq_u_X0 : ∀ w ∈ u_ws RX0 TX0 5, w ∈ WS := by
  intro w h
  obtain ⟨k, hk, rfl⟩ := List.mem_map.mp h
  have hk := List.mem_range.mp hk
  match k, hk with
  | 0, _ => exact wq_u_X0_0
  | 1, _ => exact wq_u_X0_1
  | 2, _ => exact wq_u_X0_2
  | 3, _ => exact wq_u_X0_3
  | 4, _ => exact wq_u_X0_4
  | k + 5, hk => exact absurd hk (by omega)
theorem cl_X0 : CL 0 RX0 TX0 5 tyX0 := ⟨rfl, wq_u_X0, tyX0_ok, nmX0, by decide +kernel⟩
theorem wq_u_X2_0 : u_lay RX2 TX2 0 ∈ WS := ws1 67 (by decide +kernel) rfl
theorem wq_u_X2_1 : u_lay RX2 TX2 1 ∈ WS := ws1 69 (by decide +kernel) rfl
theorem wq_u_X2_2 : u_lay RX2 TX2 2 ∈ WS := ws1 71 (by decide +kernel) rfl
theorem wq_u_X2_3 : u_lay RX2 TX2 3 ∈ WS := ws1 73 (by decide +kernel) rfl
theorem wq_u_X2_4 : u_lay RX2 TX2 4 ∈ WS := ws1 75 (by decide +kernel) rfl
theorem wq_u_X2_5 : u_lay RX2 TX2 5 ∈ WS := ws1 77 (by decide +kernel) rfl
theorem wq_u_X2_6 : u_lay RX2 TX2 6 ∈ WS := ws1 79 (by decide +kernel) rfl
theorem wq_u_X2_7 : u_lay RX2 TX2 7 ∈ WS := ws1 81 (by decide +kernel) rfl
theorem wq_u_X2_8 : u_lay RX2 TX2 8 ∈ WS := ws1 83 (by decide +kernel) rfl
theorem wq_u_X2_9 : u_lay RX2 TX2 9 ∈ WS := ws1 85 (by decide +kernel) rfl
theorem wq_u_X2_10 : u_lay RX2 TX2 10 ∈ WS := ws1 87 (by decide +kernel) rfl
theorem wq_u_X2 : ∀ w ∈ u_ws RX2 TX2 11, w ∈ WS := by
  intro w h
  obtain ⟨k, hk, rfl⟩ := List.mem_map.mp h
  have hk := List.mem_range.mp hk
  match k, hk with
  | 0, _ => exact wq_u_X2_0
  | 1, _ => exact wq_u_X2_1
  | 2, _ => exact wq_u_X2_2
  | 3, _ => exact wq_u_X2_3
  | 4, _ => exact wq_u_X2_4
  | 5, _ => exact wq_u_X2_5
  | 6, _ => exact wq_u_X2_6
  | 7, _ => exact wq_u_X2_7
  | 8, _ => exact wq_u_X2_8
  | 9, _ => exact wq_u_X2_9
  | 10, _ => exact wq_u_X2_10
  | k + 11, hk => exact absurd hk (by omega)
theorem cl_X2 : CL 1 RX2 TX2 11 tyX2 := ⟨rfl, wq_u_X2, tyX2_ok, nmX2, by decide +kernel⟩
theorem wq_u_X3_0 : u_lay RX3 TX3 0 ∈ WS := ws1 104 (by decide +kernel) rfl
theorem wq_u_X3_1 : u_lay RX3 TX3 1 ∈ WS := ws1 106 (by decide +kernel) rfl
theorem wq_u_X3 : ∀ w ∈ u_ws RX3 TX3 2, w ∈ WS := by
  intro w h
  obtain ⟨k, hk, rfl⟩ := List.mem_map.mp h
  have hk := List.mem_range.mp hk
  match k, hk with
  | 0, _ => exact wq_u_X3_0
  | 1, _ => exact wq_u_X3_1
  | k + 2, hk => exact absurd hk (by omega)
theorem cl_X3 : CL 2 RX3 TX3 2 tyX3 := ⟨rfl, wq_u_X3, tyX3_ok, nmX3, by decide +kernel⟩
theorem wq_u_X4_0 : u_lay RX4 TX4 0 ∈ WS := ws1 200 (by decide +kernel) rfl
theorem wq_u_X4_1 : u_lay RX4 TX4 1 ∈ WS := ws1 202 (by decide +kernel) rfl
theorem wq_u_X4 : ∀ w ∈ u_ws RX4 TX4 2, w ∈ WS := by
  intro w h
  obtain ⟨k, hk, rfl⟩ := List.mem_map.mp h
  have hk := List.mem_range.mp hk
  match k, hk with
  | 0, _ => exact wq_u_X4_0
  | 1, _ => exact wq_u_X4_1
  | k + 2, hk => exact absurd hk (by omega)
theorem cl_X4 : CL 3 RX4 TX4 2 tyX4 := ⟨rfl, wq_u_X4, tyX4_ok, nmX4, by decide +kernel⟩
theorem wq_u_X5_0 : u_lay RX5 TX5 0 ∈ WS := ws1 174 (by decide +kernel) rfl
theorem wq_u_X5_1 : u_lay RX5 TX5 1 ∈ WS := ws1 176 (by decide +kernel) rfl
theorem wq_u_X5_2 : u_lay RX5 TX5 2 ∈ WS := ws1 178 (by decide +kernel) rfl
theorem wq_u_X5_3 : u_lay RX5 TX5 3 ∈ WS := ws1 180 (by decide +kernel) rfl
theorem wq_u_X5_4 : u_lay RX5 TX5 4 ∈ WS := ws1 182 (by decide +kernel) rfl
theorem wq_u_X5_5 : u_lay RX5 TX5 5 ∈ WS := ws1 184 (by decide +kernel) rfl
theorem wq_u_X5_6 : u_lay RX5 TX5 6 ∈ WS := ws1 186 (by decide +kernel) rfl
theorem wq_u_X5_7 : u_lay RX5 TX5 7 ∈ WS := ws1 188 (by decide +kernel) rfl
theorem wq_u_X5 : ∀ w ∈ u_ws RX5 TX5 8, w ∈ WS := by
  intro w h
  obtain ⟨k, hk, rfl⟩ := List.mem_map.mp h
  have hk := List.mem_range.mp hk
  match k, hk with
  | 0, _ => exact wq_u_X5_0
  | 1, _ => exact wq_u_X5_1
  | 2, _ => exact wq_u_X5_2
  | 3, _ => exact wq_u_X5_3
  | 4, _ => exact wq_u_X5_4
  | 5, _ => exact wq_u_X5_5
  | 6, _ => exact wq_u_X5_6
  | 7, _ => exact wq_u_X5_7
  | k + 8, hk => exact absurd hk (by omega)
theorem cl_X5 : CL 4 RX5 TX5 8 tyX5 := ⟨rfl, wq_u_X5, tyX5_ok, nmX5, by decide +kernel⟩
theorem wq_u_X6_0 : u_lay RX6 TX6 0 ∈ WS := ws1 119 (by decide +kernel) rfl
theorem wq_u_X6_1 : u_lay RX6 TX6 1 ∈ WS := ws1 121 (by decide +kernel) rfl
theorem wq_u_X6 : ∀ w ∈ u_ws RX6 TX6 2, w ∈ WS := by
  intro w h
  obtain ⟨k, hk, rfl⟩ := List.mem_map.mp h
  have hk := List.mem_range.mp hk
  match k, hk with
  | 0, _ => exact wq_u_X6_0
  | 1, _ => exact wq_u_X6_1
  | k + 2, hk => exact absurd hk (by omega)
theorem cl_X6 : CL 5 RX6 TX6 2 tyX6 := ⟨rfl, wq_u_X6, tyX6_ok, nmX6, by decide +kernel⟩
theorem wq_u_X7_0 : u_lay RX7 TX7 0 ∈ WS := ws1 155 (by decide +kernel) rfl
theorem wq_u_X7 : ∀ w ∈ u_ws RX7 TX7 1, w ∈ WS := by
  intro w h
  obtain ⟨k, hk, rfl⟩ := List.mem_map.mp h
  have hk := List.mem_range.mp hk
  match k, hk with
  | 0, _ => exact wq_u_X7_0
  | k + 1, hk => exact absurd hk (by omega)
theorem cl_X7 : CL 6 RX7 TX7 1 tyX7 := ⟨rfl, wq_u_X7, tyX7_ok, nmX7, by decide +kernel⟩
theorem wq_u_X8_0 : u_lay RX8 TX8 0 ∈ WS := ws1 218 (by decide +kernel) rfl
theorem wq_u_X8_1 : u_lay RX8 TX8 1 ∈ WS := ws1 220 (by decide +kernel) rfl
theorem wq_u_X8_2 : u_lay RX8 TX8 2 ∈ WS := ws1 222 (by decide +kernel) rfl
theorem wq_u_X8_3 : u_lay RX8 TX8 3 ∈ WS := ws1 224 (by decide +kernel) rfl
theorem wq_u_X8_4 : u_lay RX8 TX8 4 ∈ WS := ws1 226 (by decide +kernel) rfl
theorem wq_u_X8_5 : u_lay RX8 TX8 5 ∈ WS := ws1 228 (by decide +kernel) rfl
theorem wq_u_X8_6 : u_lay RX8 TX8 6 ∈ WS := ws1 230 (by decide +kernel) rfl
theorem wq_u_X8_7 : u_lay RX8 TX8 7 ∈ WS := ws1 232 (by decide +kernel) rfl
theorem wq_u_X8_8 : u_lay RX8 TX8 8 ∈ WS := ws1 234 (by decide +kernel) rfl
theorem wq_u_X8_9 : u_lay RX8 TX8 9 ∈ WS := ws1 236 (by decide +kernel) rfl
theorem wq_u_X8_10 : u_lay RX8 TX8 10 ∈ WS := ws1 238 (by decide +kernel) rfl
theorem wq_u_X8_11 : u_lay RX8 TX8 11 ∈ WS := ws2 0 (by decide +kernel) rfl
theorem wq_u_X8_12 : u_lay RX8 TX8 12 ∈ WS := ws2 2 (by decide +kernel) rfl
theorem wq_u_X8 : ∀ w ∈ u_ws RX8 TX8 13, w ∈ WS := by
  intro w h
  obtain ⟨k, hk, rfl⟩ := List.mem_map.mp h
  have hk := List.mem_range.mp hk
  match k, hk with
  | 0, _ => exact wq_u_X8_0
  | 1, _ => exact wq_u_X8_1
  | 2, _ => exact wq_u_X8_2
  | 3, _ => exact wq_u_X8_3
  | 4, _ => exact wq_u_X8_4
  | 5, _ => exact wq_u_X8_5
  | 6, _ => exact wq_u_X8_6
  | 7, _ => exact wq_u_X8_7
  | 8, _ => exact wq_u_X8_8
  | 9, _ => exact wq_u_X8_9
  | 10, _ => exact wq_u_X8_10
  | 11, _ => exact wq_u_X8_11
  | 12, _ => exact wq_u_X8_12
  | k + 13, hk => exact absurd hk (by omega)
theorem cl_X8 : CL 7 RX8 TX8 13 tyX8 := ⟨rfl, wq_u_X8, tyX8_ok, nmX8, by decide +kernel⟩
theorem wq_u_X9_0 : u_lay RX9 TX9 0 ∈ WS := ws4 130 (by decide +kernel) rfl
theorem wq_u_X9_1 : u_lay RX9 TX9 1 ∈ WS := ws4 132 (by decide +kernel) rfl
theorem wq_u_X9_2 : u_lay RX9 TX9 2 ∈ WS := ws4 134 (by decide +kernel) rfl
theorem wq_u_X9_3 : u_lay RX9 TX9 3 ∈ WS := ws4 136 (by decide +kernel) rfl
theorem wq_u_X9_4 : u_lay RX9 TX9 4 ∈ WS := ws4 138 (by decide +kernel) rfl
theorem wq_u_X9_5 : u_lay RX9 TX9 5 ∈ WS := ws4 140 (by decide +kernel) rfl
theorem wq_u_X9_6 : u_lay RX9 TX9 6 ∈ WS := ws4 142 (by decide +kernel) rfl
theorem wq_u_X9_7 : u_lay RX9 TX9 7 ∈ WS := ws4 144 (by decide +kernel) rfl
theorem wq_u_X9_8 : u_lay RX9 TX9 8 ∈ WS := ws4 146 (by decide +kernel) rfl
theorem wq_u_X9_9 : u_lay RX9 TX9 9 ∈ WS := ws4 148 (by decide +kernel) rfl
theorem wq_u_X9_10 : u_lay RX9 TX9 10 ∈ WS := ws4 150 (by decide +kernel) rfl
theorem wq_u_X9_11 : u_lay RX9 TX9 11 ∈ WS := ws4 152 (by decide +kernel) rfl
theorem wq_u_X9_12 : u_lay RX9 TX9 12 ∈ WS := ws4 154 (by decide +kernel) rfl
theorem wq_u_X9_13 : u_lay RX9 TX9 13 ∈ WS := ws4 156 (by decide +kernel) rfl
theorem wq_u_X9_14 : u_lay RX9 TX9 14 ∈ WS := ws4 158 (by decide +kernel) rfl
theorem wq_u_X9_15 : u_lay RX9 TX9 15 ∈ WS := ws4 160 (by decide +kernel) rfl
theorem wq_u_X9_16 : u_lay RX9 TX9 16 ∈ WS := ws4 162 (by decide +kernel) rfl
theorem wq_u_X9_17 : u_lay RX9 TX9 17 ∈ WS := ws4 164 (by decide +kernel) rfl
theorem wq_u_X9_18 : u_lay RX9 TX9 18 ∈ WS := ws4 166 (by decide +kernel) rfl
theorem wq_u_X9 : ∀ w ∈ u_ws RX9 TX9 19, w ∈ WS := by
  intro w h
  obtain ⟨k, hk, rfl⟩ := List.mem_map.mp h
  have hk := List.mem_range.mp hk
  match k, hk with
  | 0, _ => exact wq_u_X9_0
  | 1, _ => exact wq_u_X9_1
  | 2, _ => exact wq_u_X9_2
  | 3, _ => exact wq_u_X9_3
  | 4, _ => exact wq_u_X9_4
  | 5, _ => exact wq_u_X9_5
  | 6, _ => exact wq_u_X9_6
  | 7, _ => exact wq_u_X9_7
  | 8, _ => exact wq_u_X9_8
  | 9, _ => exact wq_u_X9_9
  | 10, _ => exact wq_u_X9_10
  | 11, _ => exact wq_u_X9_11
  | 12, _ => exact wq_u_X9_12
  | 13, _ => exact wq_u_X9_13
  | 14, _ => exact wq_u_X9_14
  | 15, _ => exact wq_u_X9_15
  | 16, _ => exact wq_u_X9_16
  | 17, _ => exact wq_u_X9_17
  | 18, _ => exact wq_u_X9_18
  | k + 19, hk => exact absurd hk (by omega)
theorem cl_X9 : CL 8 RX9 TX9 19 tyX9 := ⟨rfl, wq_u_X9, tyX9_ok, nmX9, by decide +kernel⟩
def NFL : List Nat := [5, 11, 2, 2, 8, 2, 1, 13, 19]
def NF (ci : Nat) : Nat := NFL.getD ci 0
def FTL : List (List Nat) := [[2, 2, 2, 2, 2], [0, 0, 0, 0, 2, 2, 2, 2, 2, 2, 2], [2, 0], [2, 0], [2, 0, 2, 0, 0, 0, 0, 0], [2, 0], [2], [2, 2, 2, 2, 2, 2, 2, 2, 1, 1, 0, 0, 0], [2, 2, 2, 2, 1, 1, 2, 2, 2, 2, 2, 2, 0, 0, 0, 0, 0, 2, 2]]
def FT (ci k : Nat) : Nat := (FTL.getD ci []).getD k 0
/-- a link to a field: whose, its place in the pool, class, place among the class's fields, type (0 int, 1 long, 2 a reference) -/
def FLk (own : String) (idx ci k ft : Nat) (C : String) (T : u_T) (N : Nat) (ty : Nat → FieldType) : Prop := CL ci C T N ty ∧ k < N ∧ N = NF ci ∧ ci < 9 ∧ FT ci k = ft ∧ Cond.fieldLink own idx C (T k).2.1 (T k).2.2.1 ∈ WS
theorem fl_X2_33 : FLk RX2 33 1 0 0 RX2 TX2 11 tyX2 := ⟨cl_X2, by decide, rfl, by decide, rfl, ws1 37 (by decide +kernel) rfl⟩
theorem fl_X8_133 : FLk RX8 133 1 0 0 RX2 TX2 11 tyX2 := ⟨cl_X2, by decide, rfl, by decide, rfl, ws1 38 (by decide +kernel) rfl⟩
theorem fl_X2_37 : FLk RX2 37 1 1 0 RX2 TX2 11 tyX2 := ⟨cl_X2, by decide, rfl, by decide, rfl, ws1 39 (by decide +kernel) rfl⟩
theorem fl_X7_79 : FLk RX7 79 1 1 0 RX2 TX2 11 tyX2 := ⟨cl_X2, by decide, rfl, by decide, rfl, ws1 40 (by decide +kernel) rfl⟩
theorem fl_X8_348 : FLk RX8 348 1 1 0 RX2 TX2 11 tyX2 := ⟨cl_X2, by decide, rfl, by decide, rfl, ws1 41 (by decide +kernel) rfl⟩
theorem fl_X2_40 : FLk RX2 40 1 2 0 RX2 TX2 11 tyX2 := ⟨cl_X2, by decide, rfl, by decide, rfl, ws1 42 (by decide +kernel) rfl⟩
theorem fl_X8_84 : FLk RX8 84 1 2 0 RX2 TX2 11 tyX2 := ⟨cl_X2, by decide, rfl, by decide, rfl, ws1 43 (by decide +kernel) rfl⟩
theorem fl_X5_65 : FLk RX5 65 1 2 0 RX2 TX2 11 tyX2 := ⟨cl_X2, by decide, rfl, by decide, rfl, ws1 44 (by decide +kernel) rfl⟩
theorem fl_X7_15 : FLk RX7 15 1 3 0 RX2 TX2 11 tyX2 := ⟨cl_X2, by decide, rfl, by decide, rfl, ws1 45 (by decide +kernel) rfl⟩
theorem fl_X8_63 : FLk RX8 63 1 3 0 RX2 TX2 11 tyX2 := ⟨cl_X2, by decide, rfl, by decide, rfl, ws1 46 (by decide +kernel) rfl⟩
theorem fl_X2_43 : FLk RX2 43 1 3 0 RX2 TX2 11 tyX2 := ⟨cl_X2, by decide, rfl, by decide, rfl, ws1 47 (by decide +kernel) rfl⟩
theorem fl_X5_72 : FLk RX5 72 1 3 0 RX2 TX2 11 tyX2 := ⟨cl_X2, by decide, rfl, by decide, rfl, ws1 48 (by decide +kernel) rfl⟩
theorem fl_X2_9 : FLk RX2 9 1 4 2 RX2 TX2 11 tyX2 := ⟨cl_X2, by decide, rfl, by decide, rfl, ws1 49 (by decide +kernel) rfl⟩
theorem fl_X7_57 : FLk RX7 57 1 4 2 RX2 TX2 11 tyX2 := ⟨cl_X2, by decide, rfl, by decide, rfl, ws1 50 (by decide +kernel) rfl⟩
theorem fl_X2_15 : FLk RX2 15 1 5 2 RX2 TX2 11 tyX2 := ⟨cl_X2, by decide, rfl, by decide, rfl, ws1 51 (by decide +kernel) rfl⟩
theorem fl_X8_139 : FLk RX8 139 1 5 2 RX2 TX2 11 tyX2 := ⟨cl_X2, by decide, rfl, by decide, rfl, ws1 52 (by decide +kernel) rfl⟩
theorem fl_X2_18 : FLk RX2 18 1 6 2 RX2 TX2 11 tyX2 := ⟨cl_X2, by decide, rfl, by decide, rfl, ws1 53 (by decide +kernel) rfl⟩
theorem fl_X7_60 : FLk RX7 60 1 6 2 RX2 TX2 11 tyX2 := ⟨cl_X2, by decide, rfl, by decide, rfl, ws1 54 (by decide +kernel) rfl⟩
theorem fl_X8_262 : FLk RX8 262 1 6 2 RX2 TX2 11 tyX2 := ⟨cl_X2, by decide, rfl, by decide, rfl, ws1 55 (by decide +kernel) rfl⟩
theorem fl_X2_21 : FLk RX2 21 1 7 2 RX2 TX2 11 tyX2 := ⟨cl_X2, by decide, rfl, by decide, rfl, ws1 56 (by decide +kernel) rfl⟩
theorem fl_X5_85 : FLk RX5 85 1 7 2 RX2 TX2 11 tyX2 := ⟨cl_X2, by decide, rfl, by decide, rfl, ws1 57 (by decide +kernel) rfl⟩
theorem fl_X8_142 : FLk RX8 142 1 7 2 RX2 TX2 11 tyX2 := ⟨cl_X2, by decide, rfl, by decide, rfl, ws1 58 (by decide +kernel) rfl⟩
theorem fl_X2_24 : FLk RX2 24 1 8 2 RX2 TX2 11 tyX2 := ⟨cl_X2, by decide, rfl, by decide, rfl, ws1 59 (by decide +kernel) rfl⟩
theorem fl_X7_28 : FLk RX7 28 1 8 2 RX2 TX2 11 tyX2 := ⟨cl_X2, by decide, rfl, by decide, rfl, ws1 60 (by decide +kernel) rfl⟩
theorem fl_X8_173 : FLk RX8 173 1 8 2 RX2 TX2 11 tyX2 := ⟨cl_X2, by decide, rfl, by decide, rfl, ws1 61 (by decide +kernel) rfl⟩
theorem fl_X2_27 : FLk RX2 27 1 9 2 RX2 TX2 11 tyX2 := ⟨cl_X2, by decide, rfl, by decide, rfl, ws1 62 (by decide +kernel) rfl⟩
theorem fl_X7_21 : FLk RX7 21 1 9 2 RX2 TX2 11 tyX2 := ⟨cl_X2, by decide, rfl, by decide, rfl, ws1 63 (by decide +kernel) rfl⟩
theorem fl_X8_148 : FLk RX8 148 1 9 2 RX2 TX2 11 tyX2 := ⟨cl_X2, by decide, rfl, by decide, rfl, ws1 64 (by decide +kernel) rfl⟩
theorem fl_X2_30 : FLk RX2 30 1 10 2 RX2 TX2 11 tyX2 := ⟨cl_X2, by decide, rfl, by decide, rfl, ws1 65 (by decide +kernel) rfl⟩
theorem fl_X7_76 : FLk RX7 76 1 10 2 RX2 TX2 11 tyX2 := ⟨cl_X2, by decide, rfl, by decide, rfl, ws1 66 (by decide +kernel) rfl⟩
theorem fl_X3_11 : FLk RX3 11 2 0 2 RX3 TX3 2 tyX3 := ⟨cl_X3, by decide, rfl, by decide, rfl, ws1 100 (by decide +kernel) rfl⟩
theorem fl_X3_18 : FLk RX3 18 2 1 0 RX3 TX3 2 tyX3 := ⟨cl_X3, by decide, rfl, by decide, rfl, ws1 101 (by decide +kernel) rfl⟩
theorem fl_X0_39 : FLk RX0 39 2 1 0 RX3 TX3 2 tyX3 := ⟨cl_X3, by decide, rfl, by decide, rfl, ws1 102 (by decide +kernel) rfl⟩
theorem fl_X8_91 : FLk RX8 91 2 1 0 RX3 TX3 2 tyX3 := ⟨cl_X3, by decide, rfl, by decide, rfl, ws1 103 (by decide +kernel) rfl⟩
theorem fl_X6_9 : FLk RX6 9 5 0 2 RX6 TX6 2 tyX6 := ⟨cl_X6, by decide, rfl, by decide, rfl, ws1 115 (by decide +kernel) rfl⟩
theorem fl_X6_15 : FLk RX6 15 5 1 0 RX6 TX6 2 tyX6 := ⟨cl_X6, by decide, rfl, by decide, rfl, ws1 116 (by decide +kernel) rfl⟩
theorem fl_X0_43 : FLk RX0 43 5 1 0 RX6 TX6 2 tyX6 := ⟨cl_X6, by decide, rfl, by decide, rfl, ws1 117 (by decide +kernel) rfl⟩
theorem fl_X8_236 : FLk RX8 236 5 1 0 RX6 TX6 2 tyX6 := ⟨cl_X6, by decide, rfl, by decide, rfl, ws1 118 (by decide +kernel) rfl⟩
theorem fl_X0_10 : FLk RX0 10 0 0 2 RX0 TX0 5 tyX0 := ⟨cl_X0, by decide, rfl, by decide, rfl, ws1 124 (by decide +kernel) rfl⟩
theorem fl_X8_60 : FLk RX8 60 0 0 2 RX0 TX0 5 tyX0 := ⟨cl_X0, by decide, rfl, by decide, rfl, ws1 125 (by decide +kernel) rfl⟩
theorem fl_X0_19 : FLk RX0 19 0 1 2 RX0 TX0 5 tyX0 := ⟨cl_X0, by decide, rfl, by decide, rfl, ws1 126 (by decide +kernel) rfl⟩
theorem fl_X8_87 : FLk RX8 87 0 1 2 RX0 TX0 5 tyX0 := ⟨cl_X0, by decide, rfl, by decide, rfl, ws1 127 (by decide +kernel) rfl⟩
theorem fl_X0_26 : FLk RX0 26 0 2 2 RX0 TX0 5 tyX0 := ⟨cl_X0, by decide, rfl, by decide, rfl, ws1 128 (by decide +kernel) rfl⟩
theorem fl_X8_232 : FLk RX8 232 0 2 2 RX0 TX0 5 tyX0 := ⟨cl_X0, by decide, rfl, by decide, rfl, ws1 129 (by decide +kernel) rfl⟩
theorem fl_X0_30 : FLk RX0 30 0 3 2 RX0 TX0 5 tyX0 := ⟨cl_X0, by decide, rfl, by decide, rfl, ws1 130 (by decide +kernel) rfl⟩
theorem fl_X8_253 : FLk RX8 253 0 3 2 RX0 TX0 5 tyX0 := ⟨cl_X0, by decide, rfl, by decide, rfl, ws1 131 (by decide +kernel) rfl⟩
theorem fl_X0_33 : FLk RX0 33 0 4 2 RX0 TX0 5 tyX0 := ⟨cl_X0, by decide, rfl, by decide, rfl, ws1 132 (by decide +kernel) rfl⟩
theorem fl_X8_256 : FLk RX8 256 0 4 2 RX0 TX0 5 tyX0 := ⟨cl_X0, by decide, rfl, by decide, rfl, ws1 133 (by decide +kernel) rfl⟩
theorem fl_X7_9 : FLk RX7 9 6 0 2 RX7 TX7 1 tyX7 := ⟨cl_X7, by decide, rfl, by decide, rfl, ws1 154 (by decide +kernel) rfl⟩
theorem fl_X5_9 : FLk RX5 9 4 0 2 RX5 TX5 8 tyX5 := ⟨cl_X5, by decide, rfl, by decide, rfl, ws1 165 (by decide +kernel) rfl⟩
theorem fl_X5_54 : FLk RX5 54 4 1 0 RX5 TX5 8 tyX5 := ⟨cl_X5, by decide, rfl, by decide, rfl, ws1 166 (by decide +kernel) rfl⟩
theorem fl_X5_15 : FLk RX5 15 4 2 2 RX5 TX5 8 tyX5 := ⟨cl_X5, by decide, rfl, by decide, rfl, ws1 167 (by decide +kernel) rfl⟩
theorem fl_X5_18 : FLk RX5 18 4 3 0 RX5 TX5 8 tyX5 := ⟨cl_X5, by decide, rfl, by decide, rfl, ws1 168 (by decide +kernel) rfl⟩
theorem fl_X8_108 : FLk RX8 108 4 3 0 RX5 TX5 8 tyX5 := ⟨cl_X5, by decide, rfl, by decide, rfl, ws1 169 (by decide +kernel) rfl⟩
theorem fl_X5_22 : FLk RX5 22 4 4 0 RX5 TX5 8 tyX5 := ⟨cl_X5, by decide, rfl, by decide, rfl, ws1 170 (by decide +kernel) rfl⟩
theorem fl_X5_33 : FLk RX5 33 4 5 0 RX5 TX5 8 tyX5 := ⟨cl_X5, by decide, rfl, by decide, rfl, ws1 171 (by decide +kernel) rfl⟩
theorem fl_X5_44 : FLk RX5 44 4 6 0 RX5 TX5 8 tyX5 := ⟨cl_X5, by decide, rfl, by decide, rfl, ws1 172 (by decide +kernel) rfl⟩
theorem fl_X5_47 : FLk RX5 47 4 7 0 RX5 TX5 8 tyX5 := ⟨cl_X5, by decide, rfl, by decide, rfl, ws1 173 (by decide +kernel) rfl⟩
theorem fl_X4_9 : FLk RX4 9 3 0 2 RX4 TX4 2 tyX4 := ⟨cl_X4, by decide, rfl, by decide, rfl, ws1 197 (by decide +kernel) rfl⟩
theorem fl_X4_23 : FLk RX4 23 3 1 0 RX4 TX4 2 tyX4 := ⟨cl_X4, by decide, rfl, by decide, rfl, ws1 198 (by decide +kernel) rfl⟩
theorem fl_X8_216 : FLk RX8 216 3 1 0 RX4 TX4 2 tyX4 := ⟨cl_X4, by decide, rfl, by decide, rfl, ws1 199 (by decide +kernel) rfl⟩
theorem fl_X8_10 : FLk RX8 10 7 0 2 RX8 TX8 13 tyX8 := ⟨cl_X8, by decide, rfl, by decide, rfl, ws1 205 (by decide +kernel) rfl⟩
theorem fl_X8_16 : FLk RX8 16 7 1 2 RX8 TX8 13 tyX8 := ⟨cl_X8, by decide, rfl, by decide, rfl, ws1 206 (by decide +kernel) rfl⟩
theorem fl_X8_20 : FLk RX8 20 7 2 2 RX8 TX8 13 tyX8 := ⟨cl_X8, by decide, rfl, by decide, rfl, ws1 207 (by decide +kernel) rfl⟩
theorem fl_X8_27 : FLk RX8 27 7 3 2 RX8 TX8 13 tyX8 := ⟨cl_X8, by decide, rfl, by decide, rfl, ws1 208 (by decide +kernel) rfl⟩
theorem fl_X8_34 : FLk RX8 34 7 4 2 RX8 TX8 13 tyX8 := ⟨cl_X8, by decide, rfl, by decide, rfl, ws1 209 (by decide +kernel) rfl⟩
theorem fl_X8_41 : FLk RX8 41 7 5 2 RX8 TX8 13 tyX8 := ⟨cl_X8, by decide, rfl, by decide, rfl, ws1 210 (by decide +kernel) rfl⟩
theorem fl_X8_48 : FLk RX8 48 7 6 2 RX8 TX8 13 tyX8 := ⟨cl_X8, by decide, rfl, by decide, rfl, ws1 211 (by decide +kernel) rfl⟩
theorem fl_X8_52 : FLk RX8 52 7 7 2 RX8 TX8 13 tyX8 := ⟨cl_X8, by decide, rfl, by decide, rfl, ws1 212 (by decide +kernel) rfl⟩
theorem fl_X8_303 : FLk RX8 303 7 8 1 RX8 TX8 13 tyX8 := ⟨cl_X8, by decide, rfl, by decide, rfl, ws1 213 (by decide +kernel) rfl⟩
theorem fl_X8_56 : FLk RX8 56 7 9 1 RX8 TX8 13 tyX8 := ⟨cl_X8, by decide, rfl, by decide, rfl, ws1 214 (by decide +kernel) rfl⟩
theorem fl_X8_312 : FLk RX8 312 7 10 0 RX8 TX8 13 tyX8 := ⟨cl_X8, by decide, rfl, by decide, rfl, ws1 215 (by decide +kernel) rfl⟩
theorem fl_X8_315 : FLk RX8 315 7 11 0 RX8 TX8 13 tyX8 := ⟨cl_X8, by decide, rfl, by decide, rfl, ws1 216 (by decide +kernel) rfl⟩
theorem fl_X8_318 : FLk RX8 318 7 12 0 RX8 TX8 13 tyX8 := ⟨cl_X8, by decide, rfl, by decide, rfl, ws1 217 (by decide +kernel) rfl⟩
theorem fl_X9_7 : FLk RX9 7 8 0 2 RX9 TX9 19 tyX9 := ⟨cl_X9, by decide, rfl, by decide, rfl, ws4 111 (by decide +kernel) rfl⟩
theorem fl_X9_13 : FLk RX9 13 8 1 2 RX9 TX9 19 tyX9 := ⟨cl_X9, by decide, rfl, by decide, rfl, ws4 112 (by decide +kernel) rfl⟩
theorem fl_X9_16 : FLk RX9 16 8 2 2 RX9 TX9 19 tyX9 := ⟨cl_X9, by decide, rfl, by decide, rfl, ws4 113 (by decide +kernel) rfl⟩
theorem fl_X9_20 : FLk RX9 20 8 3 2 RX9 TX9 19 tyX9 := ⟨cl_X9, by decide, rfl, by decide, rfl, ws4 114 (by decide +kernel) rfl⟩
theorem fl_X9_207 : FLk RX9 207 8 4 1 RX9 TX9 19 tyX9 := ⟨cl_X9, by decide, rfl, by decide, rfl, ws4 115 (by decide +kernel) rfl⟩
theorem fl_X9_23 : FLk RX9 23 8 5 1 RX9 TX9 19 tyX9 := ⟨cl_X9, by decide, rfl, by decide, rfl, ws4 116 (by decide +kernel) rfl⟩
theorem fl_X9_27 : FLk RX9 27 8 6 2 RX9 TX9 19 tyX9 := ⟨cl_X9, by decide, rfl, by decide, rfl, ws4 117 (by decide +kernel) rfl⟩
theorem fl_X9_30 : FLk RX9 30 8 7 2 RX9 TX9 19 tyX9 := ⟨cl_X9, by decide, rfl, by decide, rfl, ws4 118 (by decide +kernel) rfl⟩
theorem fl_X9_33 : FLk RX9 33 8 8 2 RX9 TX9 19 tyX9 := ⟨cl_X9, by decide, rfl, by decide, rfl, ws4 119 (by decide +kernel) rfl⟩
theorem fl_X9_36 : FLk RX9 36 8 9 2 RX9 TX9 19 tyX9 := ⟨cl_X9, by decide, rfl, by decide, rfl, ws4 120 (by decide +kernel) rfl⟩
theorem fl_X9_39 : FLk RX9 39 8 10 2 RX9 TX9 19 tyX9 := ⟨cl_X9, by decide, rfl, by decide, rfl, ws4 121 (by decide +kernel) rfl⟩
theorem fl_X9_42 : FLk RX9 42 8 11 2 RX9 TX9 19 tyX9 := ⟨cl_X9, by decide, rfl, by decide, rfl, ws4 122 (by decide +kernel) rfl⟩
theorem fl_X9_232 : FLk RX9 232 8 12 0 RX9 TX9 19 tyX9 := ⟨cl_X9, by decide, rfl, by decide, rfl, ws4 123 (by decide +kernel) rfl⟩
theorem fl_X9_244 : FLk RX9 244 8 13 0 RX9 TX9 19 tyX9 := ⟨cl_X9, by decide, rfl, by decide, rfl, ws4 124 (by decide +kernel) rfl⟩
theorem fl_X9_247 : FLk RX9 247 8 14 0 RX9 TX9 19 tyX9 := ⟨cl_X9, by decide, rfl, by decide, rfl, ws4 125 (by decide +kernel) rfl⟩
theorem fl_X9_250 : FLk RX9 250 8 15 0 RX9 TX9 19 tyX9 := ⟨cl_X9, by decide, rfl, by decide, rfl, ws4 126 (by decide +kernel) rfl⟩
theorem fl_X9_253 : FLk RX9 253 8 16 0 RX9 TX9 19 tyX9 := ⟨cl_X9, by decide, rfl, by decide, rfl, ws4 127 (by decide +kernel) rfl⟩
theorem fl_X9_45 : FLk RX9 45 8 17 2 RX9 TX9 19 tyX9 := ⟨cl_X9, by decide, rfl, by decide, rfl, ws4 128 (by decide +kernel) rfl⟩
theorem fl_X9_48 : FLk RX9 48 8 18 2 RX9 TX9 19 tyX9 := ⟨cl_X9, by decide, rfl, by decide, rfl, ws4 129 (by decide +kernel) rfl⟩
end
