section
-- ===== PART A: goes FIRST, ahead of the names: the tables' words, and 'selects' of the private methods out of them =====
/-- a private method of a class that the tables say can be made, by its rows of tables_1 -/
def lw_okq (q : MethodName × Nat) : Prop := (q.1.cls ≠ "java/lang/invoke/MethodHandle" ∧ q.1.cls ≠ "java/lang/invoke/VarHandle") ∧ Cond.instantiable q.1.cls q.2 ∈ tables_1 ∧ Cond.privateMethod q.1 ∈ tables_1 ∧ Cond.instanceMethod q.1 ∈ tables_1
theorem lw_p0 : lw_okq (⟨"StoryNumbers$Reader", "skipBlanks", "()V"⟩, 8) := ⟨⟨by decide +kernel, by decide +kernel⟩, List.mem_of_getElem? (i := 44) (by decide +kernel), List.mem_of_getElem? (i := 301) (by decide +kernel), List.mem_of_getElem? (i := 302) (by decide +kernel)⟩
theorem lw_p1 : lw_okq (⟨"StoryNumbers$Reader", "readClause", "()V"⟩, 8) := ⟨⟨by decide +kernel, by decide +kernel⟩, List.mem_of_getElem? (i := 44) (by decide +kernel), List.mem_of_getElem? (i := 309) (by decide +kernel), List.mem_of_getElem? (i := 310) (by decide +kernel)⟩
theorem lw_p2 : lw_okq (⟨"StoryNumbers$Reader", "takeWord", "()I"⟩, 8) := ⟨⟨by decide +kernel, by decide +kernel⟩, List.mem_of_getElem? (i := 44) (by decide +kernel), List.mem_of_getElem? (i := 313) (by decide +kernel), List.mem_of_getElem? (i := 314) (by decide +kernel)⟩
theorem lw_p3 : lw_okq (⟨"StoryNumbers$Reader", "isWord", "(II)Z"⟩, 8) := ⟨⟨by decide +kernel, by decide +kernel⟩, List.mem_of_getElem? (i := 44) (by decide +kernel), List.mem_of_getElem? (i := 317) (by decide +kernel), List.mem_of_getElem? (i := 318) (by decide +kernel)⟩
theorem lw_p4 : lw_okq (⟨"StoryNumbers$Reader", "fail", "(II)V"⟩, 8) := ⟨⟨by decide +kernel, by decide +kernel⟩, List.mem_of_getElem? (i := 44) (by decide +kernel), List.mem_of_getElem? (i := 362) (by decide +kernel), List.mem_of_getElem? (i := 363) (by decide +kernel)⟩
theorem lw_p5 : lw_okq (⟨"StoryNumbers$Reader", "readNumber", "(I)V"⟩, 8) := ⟨⟨by decide +kernel, by decide +kernel⟩, List.mem_of_getElem? (i := 44) (by decide +kernel), List.mem_of_getElem? (i := 374) (by decide +kernel), List.mem_of_getElem? (i := 375) (by decide +kernel)⟩
theorem lw_p6 : lw_okq (⟨"StoryNumbers$Reader", "faultOf", "(III)I"⟩, 8) := ⟨⟨by decide +kernel, by decide +kernel⟩, List.mem_of_getElem? (i := 44) (by decide +kernel), List.mem_of_getElem? (i := 378) (by decide +kernel), List.mem_of_getElem? (i := 379) (by decide +kernel)⟩
theorem lw_p7 : lw_okq (⟨"StoryNumbers$Reader", "take", "(II)V"⟩, 8) := ⟨⟨by decide +kernel, by decide +kernel⟩, List.mem_of_getElem? (i := 44) (by decide +kernel), List.mem_of_getElem? (i := 391) (by decide +kernel), List.mem_of_getElem? (i := 392) (by decide +kernel)⟩
theorem lw_p8 : lw_okq (⟨"StoryNumbers$Reader", "include", "(II)V"⟩, 8) := ⟨⟨by decide +kernel, by decide +kernel⟩, List.mem_of_getElem? (i := 44) (by decide +kernel), List.mem_of_getElem? (i := 395) (by decide +kernel), List.mem_of_getElem? (i := 396) (by decide +kernel)⟩
theorem lw_p9 : lw_okq (⟨"StoryNumbers$Reader", "readPart", "(I)I"⟩, 8) := ⟨⟨by decide +kernel, by decide +kernel⟩, List.mem_of_getElem? (i := 44) (by decide +kernel), List.mem_of_getElem? (i := 404) (by decide +kernel), List.mem_of_getElem? (i := 405) (by decide +kernel)⟩
theorem lw_p10 : lw_okq (⟨"StoryNumbers$Reader", "takeComma", "(I)Z"⟩, 8) := ⟨⟨by decide +kernel, by decide +kernel⟩, List.mem_of_getElem? (i := 44) (by decide +kernel), List.mem_of_getElem? (i := 408) (by decide +kernel), List.mem_of_getElem? (i := 409) (by decide +kernel)⟩
theorem lw_p11 : lw_okq (⟨"StoryNumbers", "forgetPlans", "()V"⟩, 12) := ⟨⟨by decide +kernel, by decide +kernel⟩, List.mem_of_getElem? (i := 20) (by decide +kernel), List.mem_of_getElem? (i := 423) (by decide +kernel), List.mem_of_getElem? (i := 424) (by decide +kernel)⟩
theorem lw_p12 : lw_okq (⟨"StoryNumbers", "isScene", "(I)Z"⟩, 12) := ⟨⟨by decide +kernel, by decide +kernel⟩, List.mem_of_getElem? (i := 20) (by decide +kernel), List.mem_of_getElem? (i := 440) (by decide +kernel), List.mem_of_getElem? (i := 441) (by decide +kernel)⟩
theorem lw_p13 : lw_okq (⟨"StoryNumbers$Book", "setFrom", "(II)I"⟩, 5) := ⟨⟨by decide +kernel, by decide +kernel⟩, List.mem_of_getElem? (i := 177) (by decide +kernel), List.mem_of_getElem? (i := 460) (by decide +kernel), List.mem_of_getElem? (i := 461) (by decide +kernel)⟩
theorem lw_p14 : lw_okq (⟨"StoryNumbers", "areScenes", "(I)Z"⟩, 12) := ⟨⟨by decide +kernel, by decide +kernel⟩, List.mem_of_getElem? (i := 20) (by decide +kernel), List.mem_of_getElem? (i := 513) (by decide +kernel), List.mem_of_getElem? (i := 514) (by decide +kernel)⟩
theorem lw_p15 : lw_okq (⟨"StoryNumbers$Rules", "mayTell", "(II)Z"⟩, 3) := ⟨⟨by decide +kernel, by decide +kernel⟩, List.mem_of_getElem? (i := 98) (by decide +kernel), List.mem_of_getElem? (i := 530) (by decide +kernel), List.mem_of_getElem? (i := 531) (by decide +kernel)⟩
def lw_privs_1 : List (MethodName × Nat) := [(⟨"StoryNumbers$Reader", "skipBlanks", "()V"⟩, 8), (⟨"StoryNumbers$Reader", "readClause", "()V"⟩, 8), (⟨"StoryNumbers$Reader", "takeWord", "()I"⟩, 8), (⟨"StoryNumbers$Reader", "isWord", "(II)Z"⟩, 8), (⟨"StoryNumbers$Reader", "fail", "(II)V"⟩, 8), (⟨"StoryNumbers$Reader", "readNumber", "(I)V"⟩, 8), (⟨"StoryNumbers$Reader", "faultOf", "(III)I"⟩, 8), (⟨"StoryNumbers$Reader", "take", "(II)V"⟩, 8), (⟨"StoryNumbers$Reader", "include", "(II)V"⟩, 8), (⟨"StoryNumbers$Reader", "readPart", "(I)I"⟩, 8), (⟨"StoryNumbers$Reader", "takeComma", "(I)Z"⟩, 8), (⟨"StoryNumbers", "forgetPlans", "()V"⟩, 12), (⟨"StoryNumbers", "isScene", "(I)Z"⟩, 12), (⟨"StoryNumbers$Book", "setFrom", "(II)I"⟩, 5), (⟨"StoryNumbers", "areScenes", "(I)Z"⟩, 12), (⟨"StoryNumbers$Rules", "mayTell", "(II)Z"⟩, 3)]
theorem lw_r1 : ∀ q ∈ lw_privs_1, lw_okq q := List.forall_mem_cons.mpr ⟨lw_p0, List.forall_mem_cons.mpr ⟨lw_p1, List.forall_mem_cons.mpr ⟨lw_p2, List.forall_mem_cons.mpr ⟨lw_p3, List.forall_mem_cons.mpr ⟨lw_p4, List.forall_mem_cons.mpr ⟨lw_p5, List.forall_mem_cons.mpr ⟨lw_p6, List.forall_mem_cons.mpr ⟨lw_p7, List.forall_mem_cons.mpr ⟨lw_p8, List.forall_mem_cons.mpr ⟨lw_p9, List.forall_mem_cons.mpr ⟨lw_p10, List.forall_mem_cons.mpr ⟨lw_p11, List.forall_mem_cons.mpr ⟨lw_p12, List.forall_mem_cons.mpr ⟨lw_p13, List.forall_mem_cons.mpr ⟨lw_p14, List.forall_mem_cons.mpr ⟨lw_p15, fun _ h => absurd h List.not_mem_nil⟩⟩⟩⟩⟩⟩⟩⟩⟩⟩⟩⟩⟩⟩⟩⟩
theorem lw_p16 : lw_okq (⟨"StoryNumbers", "freshSets", "()LStoryNumbers$Sets;"⟩, 12) := ⟨⟨by decide +kernel, by decide +kernel⟩, List.mem_of_getElem? (i := 20) (by decide +kernel), List.mem_of_getElem? (i := 542) (by decide +kernel), List.mem_of_getElem? (i := 543) (by decide +kernel)⟩
theorem lw_p17 : lw_okq (⟨"StoryNumbers$Sets", "addUp", "(II)V"⟩, 16) := ⟨⟨by decide +kernel, by decide +kernel⟩, List.mem_of_getElem? (i := 115) (by decide +kernel), List.mem_of_getElem? (i := 550) (by decide +kernel), List.mem_of_getElem? (i := 551) (by decide +kernel)⟩
theorem lw_p18 : lw_okq (⟨"StoryNumbers$Sets", "spread", "(I)V"⟩, 16) := ⟨⟨by decide +kernel, by decide +kernel⟩, List.mem_of_getElem? (i := 115) (by decide +kernel), List.mem_of_getElem? (i := 560) (by decide +kernel), List.mem_of_getElem? (i := 561) (by decide +kernel)⟩
theorem lw_p19 : lw_okq (⟨"StoryNumbers$Sets", "findEndings", "(I)V"⟩, 16) := ⟨⟨by decide +kernel, by decide +kernel⟩, List.mem_of_getElem? (i := 115) (by decide +kernel), List.mem_of_getElem? (i := 576) (by decide +kernel), List.mem_of_getElem? (i := 577) (by decide +kernel)⟩
theorem lw_p20 : lw_okq (⟨"StoryNumbers$Sets", "isPlace", "(II)Z"⟩, 16) := ⟨⟨by decide +kernel, by decide +kernel⟩, List.mem_of_getElem? (i := 115) (by decide +kernel), List.mem_of_getElem? (i := 596) (by decide +kernel), List.mem_of_getElem? (i := 597) (by decide +kernel)⟩
theorem lw_p21 : lw_okq (⟨"StoryNumbers", "freshPlans", "()LStoryNumbers$Plans;"⟩, 12) := ⟨⟨by decide +kernel, by decide +kernel⟩, List.mem_of_getElem? (i := 20) (by decide +kernel), List.mem_of_getElem? (i := 738) (by decide +kernel), List.mem_of_getElem? (i := 739) (by decide +kernel)⟩
theorem lw_p22 : lw_okq (⟨"StoryNumbers$Plans", "chooseFirst", "(II)V"⟩, 10) := ⟨⟨by decide +kernel, by decide +kernel⟩, List.mem_of_getElem? (i := 742) (by decide +kernel), List.mem_of_getElem? (i := 787) (by decide +kernel), List.mem_of_getElem? (i := 788) (by decide +kernel)⟩
theorem lw_p23 : lw_okq (⟨"StoryNumbers$Plans", "findParts", "(II)V"⟩, 10) := ⟨⟨by decide +kernel, by decide +kernel⟩, List.mem_of_getElem? (i := 742) (by decide +kernel), List.mem_of_getElem? (i := 791) (by decide +kernel), List.mem_of_getElem? (i := 792) (by decide +kernel)⟩
theorem lw_p24 : lw_okq (⟨"StoryNumbers$Plans", "growPart", "(III)V"⟩, 10) := ⟨⟨by decide +kernel, by decide +kernel⟩, List.mem_of_getElem? (i := 742) (by decide +kernel), List.mem_of_getElem? (i := 795) (by decide +kernel), List.mem_of_getElem? (i := 796) (by decide +kernel)⟩
theorem lw_p25 : lw_okq (⟨"StoryNumbers$Plans", "worthOfPart", "(II)I"⟩, 10) := ⟨⟨by decide +kernel, by decide +kernel⟩, List.mem_of_getElem? (i := 742) (by decide +kernel), List.mem_of_getElem? (i := 801) (by decide +kernel), List.mem_of_getElem? (i := 802) (by decide +kernel)⟩
theorem lw_p26 : lw_okq (⟨"StoryNumbers$Plans", "isGathered", "(I)Z"⟩, 10) := ⟨⟨by decide +kernel, by decide +kernel⟩, List.mem_of_getElem? (i := 742) (by decide +kernel), List.mem_of_getElem? (i := 827) (by decide +kernel), List.mem_of_getElem? (i := 828) (by decide +kernel)⟩
theorem lw_p27 : lw_okq (⟨"StoryNumbers$Plans", "gatherBehind", "(II)V"⟩, 10) := ⟨⟨by decide +kernel, by decide +kernel⟩, List.mem_of_getElem? (i := 742) (by decide +kernel), List.mem_of_getElem? (i := 831) (by decide +kernel), List.mem_of_getElem? (i := 832) (by decide +kernel)⟩
theorem lw_p28 : lw_okq (⟨"StoryNumbers$Plans", "isKinder", "(III)Z"⟩, 10) := ⟨⟨by decide +kernel, by decide +kernel⟩, List.mem_of_getElem? (i := 742) (by decide +kernel), List.mem_of_getElem? (i := 839) (by decide +kernel), List.mem_of_getElem? (i := 840) (by decide +kernel)⟩
theorem lw_p29 : lw_okq (⟨"StoryNumbers$Chapters", "chooseFirst", "(III)V"⟩, 4) := ⟨⟨by decide +kernel, by decide +kernel⟩, List.mem_of_getElem? (i := 226) (by decide +kernel), List.mem_of_getElem? (i := 856) (by decide +kernel), List.mem_of_getElem? (i := 857) (by decide +kernel)⟩
theorem lw_p30 : lw_okq (⟨"StoryNumbersModel", "here", "()I"⟩, 40) := ⟨⟨by decide +kernel, by decide +kernel⟩, List.mem_of_getElem? (i := 883) (by decide +kernel), List.mem_of_getElem? (i := 1024) (by decide +kernel), List.mem_of_getElem? (i := 1025) (by decide +kernel)⟩
theorem lw_p31 : lw_okq (⟨"StoryNumbersModel", "takeScene", "()V"⟩, 40) := ⟨⟨by decide +kernel, by decide +kernel⟩, List.mem_of_getElem? (i := 883) (by decide +kernel), List.mem_of_getElem? (i := 1028) (by decide +kernel), List.mem_of_getElem? (i := 1029) (by decide +kernel)⟩
def lw_privs_2 : List (MethodName × Nat) := [(⟨"StoryNumbers", "freshSets", "()LStoryNumbers$Sets;"⟩, 12), (⟨"StoryNumbers$Sets", "addUp", "(II)V"⟩, 16), (⟨"StoryNumbers$Sets", "spread", "(I)V"⟩, 16), (⟨"StoryNumbers$Sets", "findEndings", "(I)V"⟩, 16), (⟨"StoryNumbers$Sets", "isPlace", "(II)Z"⟩, 16), (⟨"StoryNumbers", "freshPlans", "()LStoryNumbers$Plans;"⟩, 12), (⟨"StoryNumbers$Plans", "chooseFirst", "(II)V"⟩, 10), (⟨"StoryNumbers$Plans", "findParts", "(II)V"⟩, 10), (⟨"StoryNumbers$Plans", "growPart", "(III)V"⟩, 10), (⟨"StoryNumbers$Plans", "worthOfPart", "(II)I"⟩, 10), (⟨"StoryNumbers$Plans", "isGathered", "(I)Z"⟩, 10), (⟨"StoryNumbers$Plans", "gatherBehind", "(II)V"⟩, 10), (⟨"StoryNumbers$Plans", "isKinder", "(III)Z"⟩, 10), (⟨"StoryNumbers$Chapters", "chooseFirst", "(III)V"⟩, 4), (⟨"StoryNumbersModel", "here", "()I"⟩, 40), (⟨"StoryNumbersModel", "takeScene", "()V"⟩, 40)]
theorem lw_r2 : ∀ q ∈ lw_privs_2, lw_okq q := List.forall_mem_cons.mpr ⟨lw_p16, List.forall_mem_cons.mpr ⟨lw_p17, List.forall_mem_cons.mpr ⟨lw_p18, List.forall_mem_cons.mpr ⟨lw_p19, List.forall_mem_cons.mpr ⟨lw_p20, List.forall_mem_cons.mpr ⟨lw_p21, List.forall_mem_cons.mpr ⟨lw_p22, List.forall_mem_cons.mpr ⟨lw_p23, List.forall_mem_cons.mpr ⟨lw_p24, List.forall_mem_cons.mpr ⟨lw_p25, List.forall_mem_cons.mpr ⟨lw_p26, List.forall_mem_cons.mpr ⟨lw_p27, List.forall_mem_cons.mpr ⟨lw_p28, List.forall_mem_cons.mpr ⟨lw_p29, List.forall_mem_cons.mpr ⟨lw_p30, List.forall_mem_cons.mpr ⟨lw_p31, fun _ h => absurd h List.not_mem_nil⟩⟩⟩⟩⟩⟩⟩⟩⟩⟩⟩⟩⟩⟩⟩⟩
theorem lw_p32 : lw_okq (⟨"StoryNumbersModel", "takeWord", "()V"⟩, 40) := ⟨⟨by decide +kernel, by decide +kernel⟩, List.mem_of_getElem? (i := 883) (by decide +kernel), List.mem_of_getElem? (i := 1032) (by decide +kernel), List.mem_of_getElem? (i := 1033) (by decide +kernel)⟩
theorem lw_p33 : lw_okq (⟨"StoryNumbersModel", "isWord", "(IIIIII)Z"⟩, 40) := ⟨⟨by decide +kernel, by decide +kernel⟩, List.mem_of_getElem? (i := 883) (by decide +kernel), List.mem_of_getElem? (i := 1038) (by decide +kernel), List.mem_of_getElem? (i := 1039) (by decide +kernel)⟩
theorem lw_p34 : lw_okq (⟨"StoryNumbersModel", "want", "(ZII)Z"⟩, 40) := ⟨⟨by decide +kernel, by decide +kernel⟩, List.mem_of_getElem? (i := 883) (by decide +kernel), List.mem_of_getElem? (i := 1042) (by decide +kernel), List.mem_of_getElem? (i := 1043) (by decide +kernel)⟩
theorem lw_p35 : lw_okq (⟨"StoryNumbersModel", "takeNumber", "(II)I"⟩, 40) := ⟨⟨by decide +kernel, by decide +kernel⟩, List.mem_of_getElem? (i := 883) (by decide +kernel), List.mem_of_getElem? (i := 1046) (by decide +kernel), List.mem_of_getElem? (i := 1047) (by decide +kernel)⟩
theorem lw_p36 : lw_okq (⟨"StoryNumbersModel", "kindOf", "()I"⟩, 40) := ⟨⟨by decide +kernel, by decide +kernel⟩, List.mem_of_getElem? (i := 883) (by decide +kernel), List.mem_of_getElem? (i := 1052) (by decide +kernel), List.mem_of_getElem? (i := 1053) (by decide +kernel)⟩
theorem lw_p37 : lw_okq (⟨"StoryNumbersModel", "takeDying", "()V"⟩, 40) := ⟨⟨by decide +kernel, by decide +kernel⟩, List.mem_of_getElem? (i := 883) (by decide +kernel), List.mem_of_getElem? (i := 1056) (by decide +kernel), List.mem_of_getElem? (i := 1057) (by decide +kernel)⟩
theorem lw_p38 : lw_okq (⟨"StoryNumbersModel", "takeList", "(I)V"⟩, 40) := ⟨⟨by decide +kernel, by decide +kernel⟩, List.mem_of_getElem? (i := 883) (by decide +kernel), List.mem_of_getElem? (i := 1060) (by decide +kernel), List.mem_of_getElem? (i := 1061) (by decide +kernel)⟩
theorem lw_p39 : lw_okq (⟨"StoryNumbersModel", "isAhead", "(II)Z"⟩, 40) := ⟨⟨by decide +kernel, by decide +kernel⟩, List.mem_of_getElem? (i := 883) (by decide +kernel), List.mem_of_getElem? (i := 1067) (by decide +kernel), List.mem_of_getElem? (i := 1068) (by decide +kernel)⟩
theorem lw_p40 : lw_okq (⟨"StoryNumbersModel", "noScene", "(I)Z"⟩, 40) := ⟨⟨by decide +kernel, by decide +kernel⟩, List.mem_of_getElem? (i := 883) (by decide +kernel), List.mem_of_getElem? (i := 1082) (by decide +kernel), List.mem_of_getElem? (i := 1083) (by decide +kernel)⟩
theorem lw_p41 : lw_okq (⟨"StoryNumbersModel", "setOf", "(II)I"⟩, 40) := ⟨⟨by decide +kernel, by decide +kernel⟩, List.mem_of_getElem? (i := 883) (by decide +kernel), List.mem_of_getElem? (i := 1086) (by decide +kernel), List.mem_of_getElem? (i := 1087) (by decide +kernel)⟩
theorem lw_p42 : lw_okq (⟨"StoryNumbersModel", "numberOf", "(I)I"⟩, 40) := ⟨⟨by decide +kernel, by decide +kernel⟩, List.mem_of_getElem? (i := 883) (by decide +kernel), List.mem_of_getElem? (i := 1090) (by decide +kernel), List.mem_of_getElem? (i := 1091) (by decide +kernel)⟩
theorem lw_p43 : lw_okq (⟨"StoryNumbersModel", "setIn", "(I)I"⟩, 40) := ⟨⟨by decide +kernel, by decide +kernel⟩, List.mem_of_getElem? (i := 883) (by decide +kernel), List.mem_of_getElem? (i := 1094) (by decide +kernel), List.mem_of_getElem? (i := 1095) (by decide +kernel)⟩
theorem lw_p44 : lw_okq (⟨"StoryNumbersModel", "all", "()I"⟩, 40) := ⟨⟨by decide +kernel, by decide +kernel⟩, List.mem_of_getElem? (i := 883) (by decide +kernel), List.mem_of_getElem? (i := 1110) (by decide +kernel), List.mem_of_getElem? (i := 1111) (by decide +kernel)⟩
theorem lw_p45 : lw_okq (⟨"StoryNumbersModel", "linesOf", "(I)I"⟩, 40) := ⟨⟨by decide +kernel, by decide +kernel⟩, List.mem_of_getElem? (i := 883) (by decide +kernel), List.mem_of_getElem? (i := 1114) (by decide +kernel), List.mem_of_getElem? (i := 1115) (by decide +kernel)⟩
theorem lw_p46 : lw_okq (⟨"StoryNumbersModel", "nevers", "()I"⟩, 40) := ⟨⟨by decide +kernel, by decide +kernel⟩, List.mem_of_getElem? (i := 883) (by decide +kernel), List.mem_of_getElem? (i := 1118) (by decide +kernel), List.mem_of_getElem? (i := 1119) (by decide +kernel)⟩
theorem lw_p47 : lw_okq (⟨"StoryNumbersModel", "union", "(II)I"⟩, 40) := ⟨⟨by decide +kernel, by decide +kernel⟩, List.mem_of_getElem? (i := 883) (by decide +kernel), List.mem_of_getElem? (i := 1122) (by decide +kernel), List.mem_of_getElem? (i := 1123) (by decide +kernel)⟩
def lw_privs_3 : List (MethodName × Nat) := [(⟨"StoryNumbersModel", "takeWord", "()V"⟩, 40), (⟨"StoryNumbersModel", "isWord", "(IIIIII)Z"⟩, 40), (⟨"StoryNumbersModel", "want", "(ZII)Z"⟩, 40), (⟨"StoryNumbersModel", "takeNumber", "(II)I"⟩, 40), (⟨"StoryNumbersModel", "kindOf", "()I"⟩, 40), (⟨"StoryNumbersModel", "takeDying", "()V"⟩, 40), (⟨"StoryNumbersModel", "takeList", "(I)V"⟩, 40), (⟨"StoryNumbersModel", "isAhead", "(II)Z"⟩, 40), (⟨"StoryNumbersModel", "noScene", "(I)Z"⟩, 40), (⟨"StoryNumbersModel", "setOf", "(II)I"⟩, 40), (⟨"StoryNumbersModel", "numberOf", "(I)I"⟩, 40), (⟨"StoryNumbersModel", "setIn", "(I)I"⟩, 40), (⟨"StoryNumbersModel", "all", "()I"⟩, 40), (⟨"StoryNumbersModel", "linesOf", "(I)I"⟩, 40), (⟨"StoryNumbersModel", "nevers", "()I"⟩, 40), (⟨"StoryNumbersModel", "union", "(II)I"⟩, 40)]
theorem lw_r3 : ∀ q ∈ lw_privs_3, lw_okq q := List.forall_mem_cons.mpr ⟨lw_p32, List.forall_mem_cons.mpr ⟨lw_p33, List.forall_mem_cons.mpr ⟨lw_p34, List.forall_mem_cons.mpr ⟨lw_p35, List.forall_mem_cons.mpr ⟨lw_p36, List.forall_mem_cons.mpr ⟨lw_p37, List.forall_mem_cons.mpr ⟨lw_p38, List.forall_mem_cons.mpr ⟨lw_p39, List.forall_mem_cons.mpr ⟨lw_p40, List.forall_mem_cons.mpr ⟨lw_p41, List.forall_mem_cons.mpr ⟨lw_p42, List.forall_mem_cons.mpr ⟨lw_p43, List.forall_mem_cons.mpr ⟨lw_p44, List.forall_mem_cons.mpr ⟨lw_p45, List.forall_mem_cons.mpr ⟨lw_p46, List.forall_mem_cons.mpr ⟨lw_p47, fun _ h => absurd h List.not_mem_nil⟩⟩⟩⟩⟩⟩⟩⟩⟩⟩⟩⟩⟩⟩⟩⟩
theorem lw_p48 : lw_okq (⟨"StoryNumbersModel", "noSet", "(I)Z"⟩, 40) := ⟨⟨by decide +kernel, by decide +kernel⟩, List.mem_of_getElem? (i := 883) (by decide +kernel), List.mem_of_getElem? (i := 1130) (by decide +kernel), List.mem_of_getElem? (i := 1131) (by decide +kernel)⟩
theorem lw_p49 : lw_okq (⟨"StoryNumbersModel", "mayCome", "(II)Z"⟩, 40) := ⟨⟨by decide +kernel, by decide +kernel⟩, List.mem_of_getElem? (i := 883) (by decide +kernel), List.mem_of_getElem? (i := 1134) (by decide +kernel), List.mem_of_getElem? (i := 1135) (by decide +kernel)⟩
theorem lw_p50 : lw_okq (⟨"StoryNumbersModel", "findWays", "(I)V"⟩, 40) := ⟨⟨by decide +kernel, by decide +kernel⟩, List.mem_of_getElem? (i := 883) (by decide +kernel), List.mem_of_getElem? (i := 1147) (by decide +kernel), List.mem_of_getElem? (i := 1148) (by decide +kernel)⟩
theorem lw_p51 : lw_okq (⟨"StoryNumbersModel", "findComing", "()V"⟩, 40) := ⟨⟨by decide +kernel, by decide +kernel⟩, List.mem_of_getElem? (i := 883) (by decide +kernel), List.mem_of_getElem? (i := 1151) (by decide +kernel), List.mem_of_getElem? (i := 1152) (by decide +kernel)⟩
theorem lw_p52 : lw_okq (⟨"StoryNumbersModel", "findGood", "()V"⟩, 40) := ⟨⟨by decide +kernel, by decide +kernel⟩, List.mem_of_getElem? (i := 883) (by decide +kernel), List.mem_of_getElem? (i := 1163) (by decide +kernel), List.mem_of_getElem? (i := 1164) (by decide +kernel)⟩
theorem lw_p53 : lw_okq (⟨"StoryNumbersModel", "openOf", "(I)I"⟩, 40) := ⟨⟨by decide +kernel, by decide +kernel⟩, List.mem_of_getElem? (i := 883) (by decide +kernel), List.mem_of_getElem? (i := 1175) (by decide +kernel), List.mem_of_getElem? (i := 1176) (by decide +kernel)⟩
theorem lw_p54 : lw_okq (⟨"StoryNumbersModel", "linesAs", "(II)I"⟩, 40) := ⟨⟨by decide +kernel, by decide +kernel⟩, List.mem_of_getElem? (i := 883) (by decide +kernel), List.mem_of_getElem? (i := 1208) (by decide +kernel), List.mem_of_getElem? (i := 1209) (by decide +kernel)⟩
theorem lw_p55 : lw_okq (⟨"StoryNumbersModel", "remindedOf", "(II)I"⟩, 40) := ⟨⟨by decide +kernel, by decide +kernel⟩, List.mem_of_getElem? (i := 883) (by decide +kernel), List.mem_of_getElem? (i := 1212) (by decide +kernel), List.mem_of_getElem? (i := 1213) (by decide +kernel)⟩
theorem lw_p56 : lw_okq (⟨"StoryNumbersModel", "pullOf", "(I)I"⟩, 40) := ⟨⟨by decide +kernel, by decide +kernel⟩, List.mem_of_getElem? (i := 883) (by decide +kernel), List.mem_of_getElem? (i := 1224) (by decide +kernel), List.mem_of_getElem? (i := 1225) (by decide +kernel)⟩
theorem lw_p57 : lw_okq (⟨"StoryNumbersModel", "upTo", "(I)I"⟩, 40) := ⟨⟨by decide +kernel, by decide +kernel⟩, List.mem_of_getElem? (i := 883) (by decide +kernel), List.mem_of_getElem? (i := 1228) (by decide +kernel), List.mem_of_getElem? (i := 1229) (by decide +kernel)⟩
theorem lw_p58 : lw_okq (⟨"StoryNumbersModel", "joyOf", "(I)I"⟩, 40) := ⟨⟨by decide +kernel, by decide +kernel⟩, List.mem_of_getElem? (i := 883) (by decide +kernel), List.mem_of_getElem? (i := 1232) (by decide +kernel), List.mem_of_getElem? (i := 1233) (by decide +kernel)⟩
theorem lw_p59 : lw_okq (⟨"StoryNumbersModel", "readersBehind", "(I)I"⟩, 40) := ⟨⟨by decide +kernel, by decide +kernel⟩, List.mem_of_getElem? (i := 883) (by decide +kernel), List.mem_of_getElem? (i := 1236) (by decide +kernel), List.mem_of_getElem? (i := 1237) (by decide +kernel)⟩
theorem lw_p60 : lw_okq (⟨"StoryNumbersModel", "findPlan", "(II)V"⟩, 40) := ⟨⟨by decide +kernel, by decide +kernel⟩, List.mem_of_getElem? (i := 883) (by decide +kernel), List.mem_of_getElem? (i := 1254) (by decide +kernel), List.mem_of_getElem? (i := 1255) (by decide +kernel)⟩
theorem lw_p61 : lw_okq (⟨"StoryNumbersModel", "findWorths", "(II)V"⟩, 40) := ⟨⟨by decide +kernel, by decide +kernel⟩, List.mem_of_getElem? (i := 883) (by decide +kernel), List.mem_of_getElem? (i := 1258) (by decide +kernel), List.mem_of_getElem? (i := 1259) (by decide +kernel)⟩
theorem lw_p62 : lw_okq (⟨"StoryNumbersModel", "findReach", "(II)V"⟩, 40) := ⟨⟨by decide +kernel, by decide +kernel⟩, List.mem_of_getElem? (i := 883) (by decide +kernel), List.mem_of_getElem? (i := 1262) (by decide +kernel), List.mem_of_getElem? (i := 1263) (by decide +kernel)⟩
theorem lw_p63 : lw_okq (⟨"StoryNumbersModel", "hooks", "(II)Z"⟩, 40) := ⟨⟨by decide +kernel, by decide +kernel⟩, List.mem_of_getElem? (i := 883) (by decide +kernel), List.mem_of_getElem? (i := 1266) (by decide +kernel), List.mem_of_getElem? (i := 1267) (by decide +kernel)⟩
def lw_privs_4 : List (MethodName × Nat) := [(⟨"StoryNumbersModel", "noSet", "(I)Z"⟩, 40), (⟨"StoryNumbersModel", "mayCome", "(II)Z"⟩, 40), (⟨"StoryNumbersModel", "findWays", "(I)V"⟩, 40), (⟨"StoryNumbersModel", "findComing", "()V"⟩, 40), (⟨"StoryNumbersModel", "findGood", "()V"⟩, 40), (⟨"StoryNumbersModel", "openOf", "(I)I"⟩, 40), (⟨"StoryNumbersModel", "linesAs", "(II)I"⟩, 40), (⟨"StoryNumbersModel", "remindedOf", "(II)I"⟩, 40), (⟨"StoryNumbersModel", "pullOf", "(I)I"⟩, 40), (⟨"StoryNumbersModel", "upTo", "(I)I"⟩, 40), (⟨"StoryNumbersModel", "joyOf", "(I)I"⟩, 40), (⟨"StoryNumbersModel", "readersBehind", "(I)I"⟩, 40), (⟨"StoryNumbersModel", "findPlan", "(II)V"⟩, 40), (⟨"StoryNumbersModel", "findWorths", "(II)V"⟩, 40), (⟨"StoryNumbersModel", "findReach", "(II)V"⟩, 40), (⟨"StoryNumbersModel", "hooks", "(II)Z"⟩, 40)]
theorem lw_r4 : ∀ q ∈ lw_privs_4, lw_okq q := List.forall_mem_cons.mpr ⟨lw_p48, List.forall_mem_cons.mpr ⟨lw_p49, List.forall_mem_cons.mpr ⟨lw_p50, List.forall_mem_cons.mpr ⟨lw_p51, List.forall_mem_cons.mpr ⟨lw_p52, List.forall_mem_cons.mpr ⟨lw_p53, List.forall_mem_cons.mpr ⟨lw_p54, List.forall_mem_cons.mpr ⟨lw_p55, List.forall_mem_cons.mpr ⟨lw_p56, List.forall_mem_cons.mpr ⟨lw_p57, List.forall_mem_cons.mpr ⟨lw_p58, List.forall_mem_cons.mpr ⟨lw_p59, List.forall_mem_cons.mpr ⟨lw_p60, List.forall_mem_cons.mpr ⟨lw_p61, List.forall_mem_cons.mpr ⟨lw_p62, List.forall_mem_cons.mpr ⟨lw_p63, fun _ h => absurd h List.not_mem_nil⟩⟩⟩⟩⟩⟩⟩⟩⟩⟩⟩⟩⟩⟩⟩⟩
theorem lw_p64 : lw_okq (⟨"StoryNumbersModel", "findAll", "(II)V"⟩, 40) := ⟨⟨by decide +kernel, by decide +kernel⟩, List.mem_of_getElem? (i := 883) (by decide +kernel), List.mem_of_getElem? (i := 1274) (by decide +kernel), List.mem_of_getElem? (i := 1275) (by decide +kernel)⟩
def lw_privs_5 : List (MethodName × Nat) := [(⟨"StoryNumbersModel", "findAll", "(II)V"⟩, 40)]
theorem lw_r5 : ∀ q ∈ lw_privs_5, lw_okq q := List.forall_mem_cons.mpr ⟨lw_p64, fun _ h => absurd h List.not_mem_nil⟩
def lw_privs : List (MethodName × Nat) := lw_privs_1 ++ (lw_privs_2 ++ (lw_privs_3 ++ (lw_privs_4 ++ (lw_privs_5))))
def lw_tbl : List Cond := k2_sels lw_privs ++ tables_1
theorem lw_privs_ok : ∀ q ∈ lw_privs, lw_okq q := by
  show ∀ q ∈ lw_privs_1 ++ (lw_privs_2 ++ (lw_privs_3 ++ (lw_privs_4 ++ (lw_privs_5)))), lw_okq q
  exact List.forall_mem_append.mpr ⟨lw_r1, List.forall_mem_append.mpr ⟨lw_r2, List.forall_mem_append.mpr ⟨lw_r3, List.forall_mem_append.mpr ⟨lw_r4, lw_r5⟩⟩⟩⟩
end
section
def RX0 : String := "StoryNumbers$Book"
def TX0 : u_T := fun k => match k with
  | 0 => ("StoryNumbers$Book", "row", "[I", true)
  | 1 => ("StoryNumbers$Book", "filled", "I", false)
  | 2 => ("StoryNumbers$Book", "ends", "[I", true)
  | 3 => ("StoryNumbers$Book", "numbers", "I", false)
  | _ => ("StoryNumbers$Book", "laws", "[I", true)
def tyX0 : Nat → FieldType := fun k => match k with
  | 0 => .array .int
  | 1 => .int
  | 2 => .array .int
  | 3 => .int
  | _ => .array .int
abbrev wsX00 : List Cond := u_ws RX0 TX0 5
theorem nmX0 : ∀ a, a < 5 → ∀ b, b < 5 → a ≠ b → (TX0 a).2.1 ≠ (TX0 b).2.1 := by decide +kernel
theorem tyX0_ok : ∀ k, k < 5 → parseFieldDescriptor (TX0 k).2.2.1 = some (tyX0 k) := by decide +kernel
abbrev cX0_init : ByteArray := prog_2_method_1_code
def yX0_init : MethodName := ⟨RX0, "<init>", "()V"⟩
abbrev cX0_clear : ByteArray := prog_2_method_2_code
def yX0_clear : MethodName := ⟨RX0, "clear", "()V"⟩
abbrev cX0_become : ByteArray := prog_2_method_3_code
def yX0_become : MethodName := ⟨RX0, "become", "(LStoryNumbers$Book;)V"⟩
abbrev cX0_mayBecome : ByteArray := prog_2_method_4_code
def yX0_mayBecome : MethodName := ⟨RX0, "mayBecome", "(II)Z"⟩
abbrev cX0_start : ByteArray := prog_2_method_5_code
def yX0_start : MethodName := ⟨RX0, "start", "(I)I"⟩
abbrev cX0_end : ByteArray := prog_2_method_6_code
def yX0_end : MethodName := ⟨RX0, "end", "(I)I"⟩
abbrev cX0_printed : ByteArray := prog_2_method_7_code
def yX0_printed : MethodName := ⟨RX0, "printed", "()I"⟩
abbrev cX0_drafted : ByteArray := prog_2_method_8_code
def yX0_drafted : MethodName := ⟨RX0, "drafted", "()I"⟩
abbrev cX0_append : ByteArray := prog_2_method_9_code
def yX0_append : MethodName := ⟨RX0, "append", "(I)V"⟩
abbrev cX0_takeLast : ByteArray := prog_2_method_10_code
def yX0_takeLast : MethodName := ⟨RX0, "takeLast", "()I"⟩
abbrev cX0_closeNumber : ByteArray := prog_2_method_11_code
def yX0_closeNumber : MethodName := ⟨RX0, "closeNumber", "()V"⟩
abbrev cX0_sceneOf : ByteArray := prog_2_method_12_code
def yX0_sceneOf : MethodName := ⟨RX0, "sceneOf", "(II)I"⟩
abbrev cX0_setUpTo : ByteArray := prog_2_method_13_code
def yX0_setUpTo : MethodName := ⟨RX0, "setUpTo", "(I)I"⟩
abbrev cX0_setOf : ByteArray := prog_2_method_14_code
def yX0_setOf : MethodName := ⟨RX0, "setOf", "(I)I"⟩
abbrev cX0_setFrom : ByteArray := prog_2_method_15_code
def yX0_setFrom : MethodName := ⟨RX0, "setFrom", "(II)I"⟩
abbrev cX0_numberOf : ByteArray := prog_2_method_16_code
def yX0_numberOf : MethodName := ⟨RX0, "numberOf", "(I)I"⟩
def RX1 : String := "StoryNumbers$Chapters"
def TX1 : u_T := fun k => match k with
  | 0 => ("StoryNumbers$Chapters", "story", "LStoryNumbers$Story;", true)
  | 1 => ("StoryNumbers$Chapters", "book", "LStoryNumbers$Book;", true)
  | 2 => ("StoryNumbers$Chapters", "least", "[[I", true)
  | _ => ("StoryNumbers$Chapters", "first", "[[I", true)
def tyX1 : Nat → FieldType := fun k => match k with
  | 0 => .object "StoryNumbers$Story"
  | 1 => .object "StoryNumbers$Book"
  | 2 => .array (.array .int)
  | _ => .array (.array .int)
abbrev wsX10 : List Cond := u_ws RX1 TX1 4
theorem nmX1 : ∀ a, a < 4 → ∀ b, b < 4 → a ≠ b → (TX1 a).2.1 ≠ (TX1 b).2.1 := by decide +kernel
theorem tyX1_ok : ∀ k, k < 4 → parseFieldDescriptor (TX1 k).2.2.1 = some (tyX1 k) := by decide +kernel
abbrev cX1_init : ByteArray := prog_3_method_1_code
def yX1_init : MethodName := ⟨RX1, "<init>", "(LStoryNumbers$Story;LStoryNumbers$Book;)V"⟩
abbrev cX1_part : ByteArray := prog_3_method_2_code
def yX1_part : MethodName := ⟨RX1, "part", "(I)V"⟩
abbrev cX1_chooseFirst : ByteArray := prog_3_method_3_code
def yX1_chooseFirst : MethodName := ⟨RX1, "chooseFirst", "(III)V"⟩
abbrev cX1_uneven : ByteArray := prog_3_method_4_code
def yX1_uneven : MethodName := ⟨RX1, "uneven", "(I)I"⟩
abbrev cX1_scenesIn : ByteArray := prog_3_method_5_code
def yX1_scenesIn : MethodName := ⟨RX1, "scenesIn", "(II)I"⟩
def RX2 : String := "StoryNumbers$Plans"
def TX2 : u_T := fun k => match k with
  | 0 => ("StoryNumbers$Plans", "story", "LStoryNumbers$Story;", true)
  | 1 => ("StoryNumbers$Plans", "sets", "LStoryNumbers$Sets;", true)
  | 2 => ("StoryNumbers$Plans", "book", "LStoryNumbers$Book;", true)
  | 3 => ("StoryNumbers$Plans", "printed", "I", false)
  | 4 => ("StoryNumbers$Plans", "parts", "[I", true)
  | 5 => ("StoryNumbers$Plans", "best", "[[I", true)
  | 6 => ("StoryNumbers$Plans", "first", "[[I", true)
  | 7 => ("StoryNumbers$Plans", "plannedFor", "I", false)
  | 8 => ("StoryNumbers$Plans", "gathered", "[[I", true)
  | _ => ("StoryNumbers$Plans", "gatheredFor", "I", false)
def tyX2 : Nat → FieldType := fun k => match k with
  | 0 => .object "StoryNumbers$Story"
  | 1 => .object "StoryNumbers$Sets"
  | 2 => .object "StoryNumbers$Book"
  | 3 => .int
  | 4 => .array .int
  | 5 => .array (.array .int)
  | 6 => .array (.array .int)
  | 7 => .int
  | 8 => .array (.array .int)
  | _ => .int
abbrev wsX20 : List Cond := u_ws RX2 TX2 10
theorem nmX2 : ∀ a, a < 10 → ∀ b, b < 10 → a ≠ b → (TX2 a).2.1 ≠ (TX2 b).2.1 := by decide +kernel
theorem tyX2_ok : ∀ k, k < 10 → parseFieldDescriptor (TX2 k).2.2.1 = some (tyX2 k) := by decide +kernel
abbrev cX2_init : ByteArray := prog_4_method_1_code
def yX2_init : MethodName := ⟨RX2, "<init>", "(LStoryNumbers$Story;LStoryNumbers$Sets;LStoryNumbers$Book;)V"⟩
abbrev cX2_forget : ByteArray := prog_4_method_2_code
def yX2_forget : MethodName := ⟨RX2, "forget", "()V"⟩
abbrev cX2_worthOfBest : ByteArray := prog_4_method_3_code
def yX2_worthOfBest : MethodName := ⟨RX2, "worthOfBest", "(I)I"⟩
abbrev cX2_partOfBest : ByteArray := prog_4_method_4_code
def yX2_partOfBest : MethodName := ⟨RX2, "partOfBest", "(II)I"⟩
abbrev cX2_kindest : ByteArray := prog_4_method_5_code
def yX2_kindest : MethodName := ⟨RX2, "kindest", "(II)I"⟩
abbrev cX2_isKinder : ByteArray := prog_4_method_6_code
def yX2_isKinder : MethodName := ⟨RX2, "isKinder", "(III)Z"⟩
abbrev cX2_worthGathered : ByteArray := prog_4_method_7_code
def yX2_worthGathered : MethodName := ⟨RX2, "worthGathered", "(II)I"⟩
abbrev cX2_planFor : ByteArray := prog_4_method_8_code
def yX2_planFor : MethodName := ⟨RX2, "planFor", "(I)V"⟩
abbrev cX2_chooseFirst : ByteArray := prog_4_method_9_code
def yX2_chooseFirst : MethodName := ⟨RX2, "chooseFirst", "(II)V"⟩
abbrev cX2_gatherFor : ByteArray := prog_4_method_10_code
def yX2_gatherFor : MethodName := ⟨RX2, "gatherFor", "(I)V"⟩
abbrev cX2_isGathered : ByteArray := prog_4_method_11_code
def yX2_isGathered : MethodName := ⟨RX2, "isGathered", "(I)Z"⟩
abbrev cX2_gatherBehind : ByteArray := prog_4_method_12_code
def yX2_gatherBehind : MethodName := ⟨RX2, "gatherBehind", "(II)V"⟩
abbrev cX2_findParts : ByteArray := prog_4_method_13_code
def yX2_findParts : MethodName := ⟨RX2, "findParts", "(II)V"⟩
abbrev cX2_growPart : ByteArray := prog_4_method_14_code
def yX2_growPart : MethodName := ⟨RX2, "growPart", "(III)V"⟩
abbrev cX2_worthOfPart : ByteArray := prog_4_method_15_code
def yX2_worthOfPart : MethodName := ⟨RX2, "worthOfPart", "(II)I"⟩
def RX3 : String := "StoryNumbers$Press"
def TX3 : u_T := fun k => match k with
  | 0 => ("StoryNumbers$Press", "story", "LStoryNumbers$Story;", true)
  | _ => ("StoryNumbers$Press", "book", "LStoryNumbers$Book;", true)
def tyX3 : Nat → FieldType := fun k => match k with
  | 0 => .object "StoryNumbers$Story"
  | _ => .object "StoryNumbers$Book"
abbrev wsX30 : List Cond := u_ws RX3 TX3 2
theorem nmX3 : ∀ a, a < 2 → ∀ b, b < 2 → a ≠ b → (TX3 a).2.1 ≠ (TX3 b).2.1 := by decide +kernel
theorem tyX3_ok : ∀ k, k < 2 → parseFieldDescriptor (TX3 k).2.2.1 = some (tyX3 k) := by decide +kernel
abbrev cX3_init : ByteArray := prog_5_method_1_code
def yX3_init : MethodName := ⟨RX3, "<init>", "(LStoryNumbers$Story;LStoryNumbers$Book;)V"⟩
abbrev cX3_linesOf : ByteArray := prog_5_method_2_code
def yX3_linesOf : MethodName := ⟨RX3, "linesOf", "(I)I"⟩
abbrev cX3_remindedIn : ByteArray := prog_5_method_3_code
def yX3_remindedIn : MethodName := ⟨RX3, "remindedIn", "(I)I"⟩
abbrev cX3_openBehindNumber : ByteArray := prog_5_method_4_code
def yX3_openBehindNumber : MethodName := ⟨RX3, "openBehindNumber", "(I)I"⟩
abbrev cX3_pullOf : ByteArray := prog_5_method_5_code
def yX3_pullOf : MethodName := ⟨RX3, "pullOf", "(I)I"⟩
abbrev cX3_readersBehind : ByteArray := prog_5_method_6_code
def yX3_readersBehind : MethodName := ⟨RX3, "readersBehind", "(I)I"⟩
def RX4 : String := "StoryNumbers$Reader"
def TX4 : u_T := fun k => match k with
  | 0 => ("StoryNumbers$Reader", "text", "LStoryNumbers$Text;", true)
  | 1 => ("StoryNumbers$Reader", "told", "LStoryNumbers$Story;", false)
  | 2 => ("StoryNumbers$Reader", "at", "I", false)
  | 3 => ("StoryNumbers$Reader", "fault", "I", false)
  | 4 => ("StoryNumbers$Reader", "faultAt", "I", false)
  | 5 => ("StoryNumbers$Reader", "opened", "I", false)
  | 6 => ("StoryNumbers$Reader", "shut", "I", false)
  | _ => ("StoryNumbers$Reader", "dead", "I", false)
def tyX4 : Nat → FieldType := fun k => match k with
  | 0 => .object "StoryNumbers$Text"
  | 1 => .object "StoryNumbers$Story"
  | 2 => .int
  | 3 => .int
  | 4 => .int
  | 5 => .int
  | 6 => .int
  | _ => .int
abbrev wsX40 : List Cond := u_ws RX4 TX4 8
theorem nmX4 : ∀ a, a < 8 → ∀ b, b < 8 → a ≠ b → (TX4 a).2.1 ≠ (TX4 b).2.1 := by decide +kernel
theorem tyX4_ok : ∀ k, k < 8 → parseFieldDescriptor (TX4 k).2.2.1 = some (tyX4 k) := by decide +kernel
abbrev cX4_init : ByteArray := prog_6_method_1_code
def yX4_init : MethodName := ⟨RX4, "<init>", "(LStoryNumbers$Text;)V"⟩
abbrev cX4_read : ByteArray := prog_6_method_2_code
def yX4_read : MethodName := ⟨RX4, "read", "(LStoryNumbers$Story;)I"⟩
abbrev cX4_fail : ByteArray := prog_6_method_3_code
def yX4_fail : MethodName := ⟨RX4, "fail", "(II)V"⟩
abbrev cX4_skipBlanks : ByteArray := prog_6_method_4_code
def yX4_skipBlanks : MethodName := ⟨RX4, "skipBlanks", "()V"⟩
abbrev cX4_readClause : ByteArray := prog_6_method_5_code
def yX4_readClause : MethodName := ⟨RX4, "readClause", "()V"⟩
abbrev cX4_readPart : ByteArray := prog_6_method_6_code
def yX4_readPart : MethodName := ⟨RX4, "readPart", "(I)I"⟩
abbrev cX4_takeComma : ByteArray := prog_6_method_7_code
def yX4_takeComma : MethodName := ⟨RX4, "takeComma", "(I)Z"⟩
abbrev cX4_takeWord : ByteArray := prog_6_method_8_code
def yX4_takeWord : MethodName := ⟨RX4, "takeWord", "()I"⟩
abbrev cX4_isWord : ByteArray := prog_6_method_9_code
def yX4_isWord : MethodName := ⟨RX4, "isWord", "(II)Z"⟩
abbrev cX4_readNumber : ByteArray := prog_6_method_10_code
def yX4_readNumber : MethodName := ⟨RX4, "readNumber", "(I)V"⟩
abbrev cX4_faultOf : ByteArray := prog_6_method_11_code
def yX4_faultOf : MethodName := ⟨RX4, "faultOf", "(III)I"⟩
abbrev cX4_take : ByteArray := prog_6_method_12_code
def yX4_take : MethodName := ⟨RX4, "take", "(II)V"⟩
abbrev cX4_include : ByteArray := prog_6_method_13_code
def yX4_include : MethodName := ⟨RX4, "include", "(II)V"⟩
def RX5 : String := "StoryNumbers$Rules"
def TX5 : u_T := fun k => match k with
  | 0 => ("StoryNumbers$Rules", "story", "LStoryNumbers$Story;", true)
  | 1 => ("StoryNumbers$Rules", "against", "[I", true)
  | _ => ("StoryNumbers$Rules", "pairs", "I", false)
def tyX5 : Nat → FieldType := fun k => match k with
  | 0 => .object "StoryNumbers$Story"
  | 1 => .array .int
  | _ => .int
abbrev wsX50 : List Cond := u_ws RX5 TX5 3
theorem nmX5 : ∀ a, a < 3 → ∀ b, b < 3 → a ≠ b → (TX5 a).2.1 ≠ (TX5 b).2.1 := by decide +kernel
theorem tyX5_ok : ∀ k, k < 3 → parseFieldDescriptor (TX5 k).2.2.1 = some (tyX5 k) := by decide +kernel
abbrev cX5_init : ByteArray := prog_7_method_1_code
def yX5_init : MethodName := ⟨RX5, "<init>", "(LStoryNumbers$Story;)V"⟩
abbrev cX5_isNever : ByteArray := prog_7_method_2_code
def yX5_isNever : MethodName := ⟨RX5, "isNever", "(II)Z"⟩
abbrev cX5_turnNever : ByteArray := prog_7_method_3_code
def yX5_turnNever : MethodName := ⟨RX5, "turnNever", "(II)V"⟩
abbrev cX5_nextBehind : ByteArray := prog_7_method_4_code
def yX5_nextBehind : MethodName := ⟨RX5, "nextBehind", "(I)I"⟩
abbrev cX5_nextBehind_ : ByteArray := prog_7_method_5_code
def yX5_nextBehind_ : MethodName := ⟨RX5, "nextBehind", "(IIII)I"⟩
abbrev cX5_mayTell : ByteArray := prog_7_method_6_code
def yX5_mayTell : MethodName := ⟨RX5, "mayTell", "(II)Z"⟩
def RX6 : String := "StoryNumbers$Sets"
def TX6 : u_T := fun k => match k with
  | 0 => ("StoryNumbers$Sets", "story", "LStoryNumbers$Story;", true)
  | 1 => ("StoryNumbers$Sets", "rules", "LStoryNumbers$Rules;", true)
  | 2 => ("StoryNumbers$Sets", "isFresh", "Z", false)
  | 3 => ("StoryNumbers$Sets", "size", "I", false)
  | 4 => ("StoryNumbers$Sets", "lines", "[I", true)
  | 5 => ("StoryNumbers$Sets", "joy", "[I", true)
  | 6 => ("StoryNumbers$Sets", "opened", "[I", true)
  | 7 => ("StoryNumbers$Sets", "shut", "[I", true)
  | 8 => ("StoryNumbers$Sets", "told", "[I", true)
  | 9 => ("StoryNumbers$Sets", "dead", "[I", true)
  | 10 => ("StoryNumbers$Sets", "open", "[I", true)
  | 11 => ("StoryNumbers$Sets", "next", "[I", true)
  | 12 => ("StoryNumbers$Sets", "ways", "[I", true)
  | 13 => ("StoryNumbers$Sets", "fewest", "[I", true)
  | 14 => ("StoryNumbers$Sets", "endings", "[I", true)
  | _ => ("StoryNumbers$Sets", "endedAt", "I", false)
def tyX6 : Nat → FieldType := fun k => match k with
  | 0 => .object "StoryNumbers$Story"
  | 1 => .object "StoryNumbers$Rules"
  | 2 => .boolean
  | 3 => .int
  | 4 => .array .int
  | 5 => .array .int
  | 6 => .array .int
  | 7 => .array .int
  | 8 => .array .int
  | 9 => .array .int
  | 10 => .array .int
  | 11 => .array .int
  | 12 => .array .int
  | 13 => .array .int
  | 14 => .array .int
  | _ => .int
abbrev wsX60 : List Cond := u_ws RX6 TX6 16
theorem nmX6 : ∀ a, a < 16 → ∀ b, b < 16 → a ≠ b → (TX6 a).2.1 ≠ (TX6 b).2.1 := by decide +kernel
theorem tyX6_ok : ∀ k, k < 16 → parseFieldDescriptor (TX6 k).2.2.1 = some (tyX6 k) := by decide +kernel
abbrev cX6_init : ByteArray := prog_8_method_1_code
def yX6_init : MethodName := ⟨RX6, "<init>", "(LStoryNumbers$Story;LStoryNumbers$Rules;)V"⟩
abbrev cX6_build : ByteArray := prog_8_method_2_code
def yX6_build : MethodName := ⟨RX6, "build", "()V"⟩
abbrev cX6_addUp : ByteArray := prog_8_method_3_code
def yX6_addUp : MethodName := ⟨RX6, "addUp", "(II)V"⟩
abbrev cX6_spread : ByteArray := prog_8_method_4_code
def yX6_spread : MethodName := ⟨RX6, "spread", "(I)V"⟩
abbrev cX6_countGood : ByteArray := prog_8_method_5_code
def yX6_countGood : MethodName := ⟨RX6, "countGood", "()I"⟩
abbrev cX6_findEndings : ByteArray := prog_8_method_6_code
def yX6_findEndings : MethodName := ⟨RX6, "findEndings", "(I)V"⟩
abbrev cX6_sceneOfOrder : ByteArray := prog_8_method_7_code
def yX6_sceneOfOrder : MethodName := ⟨RX6, "sceneOfOrder", "(IJI)I"⟩
abbrev cX6_isPlace : ByteArray := prog_8_method_8_code
def yX6_isPlace : MethodName := ⟨RX6, "isPlace", "(II)Z"⟩
abbrev cX6_leastPlace : ByteArray := prog_8_method_9_code
def yX6_leastPlace : MethodName := ⟨RX6, "leastPlace", "(I)I"⟩
abbrev cX6_greatestPlace : ByteArray := prog_8_method_10_code
def yX6_greatestPlace : MethodName := ⟨RX6, "greatestPlace", "(I)I"⟩
abbrev cX6_takenAlong : ByteArray := prog_8_method_11_code
def yX6_takenAlong : MethodName := ⟨RX6, "takenAlong", "(I)I"⟩
abbrev cX6_shortestTo : ByteArray := prog_8_method_12_code
def yX6_shortestTo : MethodName := ⟨RX6, "shortestTo", "(I)I"⟩
def RX7 : String := "StoryNumbers$Story"
def TX7 : u_T := fun k => match k with
  | 0 => ("StoryNumbers$Story", "cells", "[[I", true)
  | _ => ("StoryNumbers$Story", "count", "I", false)
def tyX7 : Nat → FieldType := fun k => match k with
  | 0 => .array (.array .int)
  | _ => .int
abbrev wsX70 : List Cond := u_ws RX7 TX7 2
theorem nmX7 : ∀ a, a < 2 → ∀ b, b < 2 → a ≠ b → (TX7 a).2.1 ≠ (TX7 b).2.1 := by decide +kernel
theorem tyX7_ok : ∀ k, k < 2 → parseFieldDescriptor (TX7 k).2.2.1 = some (tyX7 k) := by decide +kernel
abbrev cX7_init : ByteArray := prog_9_method_1_code
def yX7_init : MethodName := ⟨RX7, "<init>", "()V"⟩
abbrev cX7_isList : ByteArray := prog_9_method_2_code
def yX7_isList : MethodName := ⟨RX7, "isList", "(I)Z"⟩
abbrev cX7_cell : ByteArray := prog_9_method_3_code
def yX7_cell : MethodName := ⟨RX7, "cell", "(II)I"⟩
abbrev cX7_put : ByteArray := prog_9_method_4_code
def yX7_put : MethodName := ⟨RX7, "put", "(III)V"⟩
abbrev cX7_clearScene : ByteArray := prog_9_method_5_code
def yX7_clearScene : MethodName := ⟨RX7, "clearScene", "(I)V"⟩
abbrev cX7_closeScene : ByteArray := prog_9_method_6_code
def yX7_closeScene : MethodName := ⟨RX7, "closeScene", "()V"⟩
abbrev cX7_become : ByteArray := prog_9_method_7_code
def yX7_become : MethodName := ⟨RX7, "become", "(LStoryNumbers$Story;)V"⟩
abbrev cX7_all : ByteArray := prog_9_method_8_code
def yX7_all : MethodName := ⟨RX7, "all", "()I"⟩
abbrev cX7_union : ByteArray := prog_9_method_9_code
def yX7_union : MethodName := ⟨RX7, "union", "(II)I"⟩
abbrev cX7_sum : ByteArray := prog_9_method_10_code
def yX7_sum : MethodName := ⟨RX7, "sum", "(II)I"⟩
abbrev cX7_deadIn : ByteArray := prog_9_method_11_code
def yX7_deadIn : MethodName := ⟨RX7, "deadIn", "(I)I"⟩
abbrev cX7_deathsOf : ByteArray := prog_9_method_12_code
def yX7_deathsOf : MethodName := ⟨RX7, "deathsOf", "(I)I"⟩
abbrev cX7_openBehind : ByteArray := prog_9_method_13_code
def yX7_openBehind : MethodName := ⟨RX7, "openBehind", "(I)I"⟩
def RX8 : String := "StoryNumbers$Text"
def TX8 : u_T := fun k => match k with
  | 0 => ("StoryNumbers$Text", "bytes", "[I", true)
  | _ => ("StoryNumbers$Text", "length", "I", false)
def tyX8 : Nat → FieldType := fun k => match k with
  | 0 => .array .int
  | _ => .int
abbrev wsX80 : List Cond := u_ws RX8 TX8 2
theorem nmX8 : ∀ a, a < 2 → ∀ b, b < 2 → a ≠ b → (TX8 a).2.1 ≠ (TX8 b).2.1 := by decide +kernel
theorem tyX8_ok : ∀ k, k < 2 → parseFieldDescriptor (TX8 k).2.2.1 = some (tyX8 k) := by decide +kernel
abbrev cX8_init : ByteArray := prog_10_method_1_code
def yX8_init : MethodName := ⟨RX8, "<init>", "()V"⟩
abbrev cX8_append : ByteArray := prog_10_method_2_code
def yX8_append : MethodName := ⟨RX8, "append", "(I)V"⟩
abbrev cX8_at : ByteArray := prog_10_method_3_code
def yX8_at : MethodName := ⟨RX8, "at", "(I)I"⟩
def RX9 : String := "StoryNumbers"
def TX9 : u_T := fun k => match k with
  | 0 => ("StoryNumbers", "text", "LStoryNumbers$Text;", true)
  | 1 => ("StoryNumbers", "reader", "LStoryNumbers$Reader;", true)
  | 2 => ("StoryNumbers", "story", "LStoryNumbers$Story;", true)
  | 3 => ("StoryNumbers", "trial", "LStoryNumbers$Story;", true)
  | 4 => ("StoryNumbers", "rules", "LStoryNumbers$Rules;", true)
  | 5 => ("StoryNumbers", "sets", "LStoryNumbers$Sets;", true)
  | 6 => ("StoryNumbers", "book", "LStoryNumbers$Book;", true)
  | 7 => ("StoryNumbers", "press", "LStoryNumbers$Press;", true)
  | 8 => ("StoryNumbers", "chapters", "LStoryNumbers$Chapters;", true)
  | 9 => ("StoryNumbers", "states", "[LStoryNumbers$Book;", true)
  | 10 => ("StoryNumbers", "isKept", "[Z", true)
  | _ => ("StoryNumbers", "plans", "LStoryNumbers$Plans;", false)
def tyX9 : Nat → FieldType := fun k => match k with
  | 0 => .object "StoryNumbers$Text"
  | 1 => .object "StoryNumbers$Reader"
  | 2 => .object "StoryNumbers$Story"
  | 3 => .object "StoryNumbers$Story"
  | 4 => .object "StoryNumbers$Rules"
  | 5 => .object "StoryNumbers$Sets"
  | 6 => .object "StoryNumbers$Book"
  | 7 => .object "StoryNumbers$Press"
  | 8 => .object "StoryNumbers$Chapters"
  | 9 => .array (.object "StoryNumbers$Book")
  | 10 => .array .boolean
  | _ => .object "StoryNumbers$Plans"
abbrev wsX90 : List Cond := u_ws RX9 TX9 12
theorem nmX9 : ∀ a, a < 12 → ∀ b, b < 12 → a ≠ b → (TX9 a).2.1 ≠ (TX9 b).2.1 := by decide +kernel
theorem tyX9_ok : ∀ k, k < 12 → parseFieldDescriptor (TX9 k).2.2.1 = some (tyX9 k) := by decide +kernel
abbrev cX9_init : ByteArray := prog_1_method_1_code
def yX9_init : MethodName := ⟨RX9, "<init>", "()V"⟩
abbrev cX9_feed : ByteArray := prog_1_method_2_code
def yX9_feed : MethodName := ⟨RX9, "feed", "(IJ)I"⟩
abbrev cX9_story : ByteArray := prog_1_method_3_code
def yX9_story : MethodName := ⟨RX9, "story", "()I"⟩
abbrev cX9_fault : ByteArray := prog_1_method_4_code
def yX9_fault : MethodName := ⟨RX9, "fault", "()I"⟩
abbrev cX9_scene : ByteArray := prog_1_method_5_code
def yX9_scene : MethodName := ⟨RX9, "scene", "(II)I"⟩
abbrev cX9_never : ByteArray := prog_1_method_6_code
def yX9_never : MethodName := ⟨RX9, "never", "(IIZ)I"⟩
abbrev cX9_count : ByteArray := prog_1_method_7_code
def yX9_count : MethodName := ⟨RX9, "count", "(I)I"⟩
abbrev cX9_may : ByteArray := prog_1_method_8_code
def yX9_may : MethodName := ⟨RX9, "may", "(II)I"⟩
abbrev cX9_next : ByteArray := prog_1_method_9_code
def yX9_next : MethodName := ⟨RX9, "next", "(I)I"⟩
abbrev cX9_orders : ByteArray := prog_1_method_10_code
def yX9_orders : MethodName := ⟨RX9, "orders", "(I)J"⟩
abbrev cX9_order : ByteArray := prog_1_method_11_code
def yX9_order : MethodName := ⟨RX9, "order", "(IJI)I"⟩
abbrev cX9_good : ByteArray := prog_1_method_12_code
def yX9_good : MethodName := ⟨RX9, "good", "()I"⟩
abbrev cX9_place : ByteArray := prog_1_method_13_code
def yX9_place : MethodName := ⟨RX9, "place", "(II)I"⟩
abbrev cX9_open : ByteArray := prog_1_method_14_code
def yX9_open : MethodName := ⟨RX9, "open", "(I)I"⟩
abbrev cX9_atOnce : ByteArray := prog_1_method_15_code
def yX9_atOnce : MethodName := ⟨RX9, "atOnce", "(I)I"⟩
abbrev cX9_along : ByteArray := prog_1_method_16_code
def yX9_along : MethodName := ⟨RX9, "along", "(I)I"⟩
abbrev cX9_shortest : ByteArray := prog_1_method_17_code
def yX9_shortest : MethodName := ⟨RX9, "shortest", "(II)I"⟩
abbrev cX9_law : ByteArray := prog_1_method_18_code
def yX9_law : MethodName := ⟨RX9, "law", "(II)I"⟩
abbrev cX9_add : ByteArray := prog_1_method_19_code
def yX9_add : MethodName := ⟨RX9, "add", "(I)I"⟩
abbrev cX9_drop : ByteArray := prog_1_method_20_code
def yX9_drop : MethodName := ⟨RX9, "drop", "()I"⟩
abbrev cX9_lines : ByteArray := prog_1_method_21_code
def yX9_lines : MethodName := ⟨RX9, "lines", "()I"⟩
abbrev cX9_print : ByteArray := prog_1_method_22_code
def yX9_print : MethodName := ⟨RX9, "print", "()I"⟩
abbrev cX9_number : ByteArray := prog_1_method_23_code
def yX9_number : MethodName := ⟨RX9, "number", "(II)I"⟩
abbrev cX9_readers : ByteArray := prog_1_method_24_code
def yX9_readers : MethodName := ⟨RX9, "readers", "()I"⟩
abbrev cX9_plan : ByteArray := prog_1_method_25_code
def yX9_plan : MethodName := ⟨RX9, "plan", "(III)I"⟩
abbrev cX9_kind : ByteArray := prog_1_method_26_code
def yX9_kind : MethodName := ⟨RX9, "kind", "(III)I"⟩
abbrev cX9_chapter : ByteArray := prog_1_method_27_code
def yX9_chapter : MethodName := ⟨RX9, "chapter", "(II)I"⟩
abbrev cX9_keep : ByteArray := prog_1_method_28_code
def yX9_keep : MethodName := ⟨RX9, "keep", "(I)I"⟩
abbrev cX9_goBack : ByteArray := prog_1_method_29_code
def yX9_goBack : MethodName := ⟨RX9, "goBack", "(I)I"⟩
abbrev cX9_isScene : ByteArray := prog_1_method_30_code
def yX9_isScene : MethodName := ⟨RX9, "isScene", "(I)Z"⟩
abbrev cX9_areScenes : ByteArray := prog_1_method_31_code
def yX9_areScenes : MethodName := ⟨RX9, "areScenes", "(I)Z"⟩
abbrev cX9_freshSets : ByteArray := prog_1_method_32_code
def yX9_freshSets : MethodName := ⟨RX9, "freshSets", "()LStoryNumbers$Sets;"⟩
abbrev cX9_freshPlans : ByteArray := prog_1_method_33_code
def yX9_freshPlans : MethodName := ⟨RX9, "freshPlans", "()LStoryNumbers$Plans;"⟩
abbrev cX9_forgetPlans : ByteArray := prog_1_method_34_code
def yX9_forgetPlans : MethodName := ⟨RX9, "forgetPlans", "()V"⟩
def RX10 : String := "StoryNumbersModel"
def TX10 : u_T := fun k => match k with
  | 0 => ("StoryNumbersModel", "scenes", "I", false)
  | 1 => ("StoryNumbersModel", "told", "I", false)
  | 2 => ("StoryNumbersModel", "lines", "[I", true)
  | 3 => ("StoryNumbersModel", "dead", "[I", true)
  | 4 => ("StoryNumbersModel", "of", "[I", true)
  | 5 => ("StoryNumbersModel", "never", "[I", true)
  | 6 => ("StoryNumbersModel", "law", "[I", true)
  | 7 => ("StoryNumbersModel", "text", "[I", true)
  | 8 => ("StoryNumbersModel", "textSize", "I", false)
  | 9 => ("StoryNumbersModel", "at", "I", false)
  | 10 => ("StoryNumbersModel", "from", "I", false)
  | 11 => ("StoryNumbersModel", "letters", "I", false)
  | 12 => ("StoryNumbersModel", "faultOf", "I", false)
  | 13 => ("StoryNumbersModel", "fault", "I", false)
  | 14 => ("StoryNumbersModel", "newScenes", "I", false)
  | 15 => ("StoryNumbersModel", "newLines", "[I", true)
  | 16 => ("StoryNumbersModel", "newDead", "[I", true)
  | 17 => ("StoryNumbersModel", "newOf", "[I", true)
  | 18 => ("StoryNumbersModel", "ways", "[J", true)
  | 19 => ("StoryNumbersModel", "isGood", "[Z", true)
  | 20 => ("StoryNumbersModel", "come", "[I", true)
  | 21 => ("StoryNumbersModel", "once", "[I", true)
  | 22 => ("StoryNumbersModel", "numbers", "I", false)
  | 23 => ("StoryNumbersModel", "printedSet", "I", false)
  | 24 => ("StoryNumbersModel", "size", "[I", true)
  | 25 => ("StoryNumbersModel", "row", "[I", true)
  | 26 => ("StoryNumbersModel", "drafted", "I", false)
  | 27 => ("StoryNumbersModel", "draftSet", "I", false)
  | 28 => ("StoryNumbersModel", "draft", "[I", true)
  | 29 => ("StoryNumbersModel", "reach", "[Z", true)
  | 30 => ("StoryNumbersModel", "partWorth", "[I", true)
  | 31 => ("StoryNumbersModel", "rest", "[I", true)
  | 32 => ("StoryNumbersModel", "firstPart", "[I", true)
  | 33 => ("StoryNumbersModel", "sofar", "[I", true)
  | 34 => ("StoryNumbersModel", "said", "[I", true)
  | 35 => ("StoryNumbersModel", "uneven", "[I", true)
  | 36 => ("StoryNumbersModel", "taken", "[I", true)
  | 37 => ("StoryNumbersModel", "kept", "[I", true)
  | 38 => ("StoryNumbersModel", "keptStory", "[I", true)
  | _ => ("StoryNumbersModel", "isKept", "[Z", true)
def tyX10 : Nat → FieldType := fun k => match k with
  | 0 => .int
  | 1 => .int
  | 2 => .array .int
  | 3 => .array .int
  | 4 => .array .int
  | 5 => .array .int
  | 6 => .array .int
  | 7 => .array .int
  | 8 => .int
  | 9 => .int
  | 10 => .int
  | 11 => .int
  | 12 => .int
  | 13 => .int
  | 14 => .int
  | 15 => .array .int
  | 16 => .array .int
  | 17 => .array .int
  | 18 => .array .long
  | 19 => .array .boolean
  | 20 => .array .int
  | 21 => .array .int
  | 22 => .int
  | 23 => .int
  | 24 => .array .int
  | 25 => .array .int
  | 26 => .int
  | 27 => .int
  | 28 => .array .int
  | 29 => .array .boolean
  | 30 => .array .int
  | 31 => .array .int
  | 32 => .array .int
  | 33 => .array .int
  | 34 => .array .int
  | 35 => .array .int
  | 36 => .array .int
  | 37 => .array .int
  | 38 => .array .int
  | _ => .array .boolean
abbrev wsX100 : List Cond := u_ws RX10 TX10 40
theorem nmX10 : ∀ a, a < 40 → ∀ b, b < 40 → a ≠ b → (TX10 a).2.1 ≠ (TX10 b).2.1 := by decide +kernel
theorem tyX10_ok : ∀ k, k < 40 → parseFieldDescriptor (TX10 k).2.2.1 = some (tyX10 k) := by decide +kernel
abbrev cX10_init : ByteArray := prog_12_method_1_code
def yX10_init : MethodName := ⟨RX10, "<init>", "()V"⟩
abbrev cX10_in : ByteArray := prog_12_method_3_code
def yX10_in : MethodName := ⟨RX10, "in", "(JJJ)Z"⟩
abbrev cX10_one : ByteArray := prog_12_method_4_code
def yX10_one : MethodName := ⟨RX10, "one", "(Z)I"⟩
abbrev cX10_ones : ByteArray := prog_12_method_5_code
def yX10_ones : MethodName := ⟨RX10, "ones", "(I)I"⟩
abbrev cX10_has : ByteArray := prog_12_method_6_code
def yX10_has : MethodName := ⟨RX10, "has", "(II)Z"⟩
abbrev cX10_feed : ByteArray := prog_12_method_7_code
def yX10_feed : MethodName := ⟨RX10, "feed", "(IJ)I"⟩
abbrev cX10_here : ByteArray := prog_12_method_8_code
def yX10_here : MethodName := ⟨RX10, "here", "()I"⟩
abbrev cX10_want : ByteArray := prog_12_method_9_code
def yX10_want : MethodName := ⟨RX10, "want", "(ZII)Z"⟩
abbrev cX10_takeWord : ByteArray := prog_12_method_10_code
def yX10_takeWord : MethodName := ⟨RX10, "takeWord", "()V"⟩
abbrev cX10_isWord : ByteArray := prog_12_method_11_code
def yX10_isWord : MethodName := ⟨RX10, "isWord", "(IIIIII)Z"⟩
abbrev cX10_kindOf : ByteArray := prog_12_method_12_code
def yX10_kindOf : MethodName := ⟨RX10, "kindOf", "()I"⟩
abbrev cX10_takeNumber : ByteArray := prog_12_method_13_code
def yX10_takeNumber : MethodName := ⟨RX10, "takeNumber", "(II)I"⟩
abbrev cX10_isAhead : ByteArray := prog_12_method_14_code
def yX10_isAhead : MethodName := ⟨RX10, "isAhead", "(II)Z"⟩
abbrev cX10_takeList : ByteArray := prog_12_method_15_code
def yX10_takeList : MethodName := ⟨RX10, "takeList", "(I)V"⟩
abbrev cX10_takeDying : ByteArray := prog_12_method_16_code
def yX10_takeDying : MethodName := ⟨RX10, "takeDying", "()V"⟩
abbrev cX10_takeScene : ByteArray := prog_12_method_17_code
def yX10_takeScene : MethodName := ⟨RX10, "takeScene", "()V"⟩
abbrev cX10_story : ByteArray := prog_12_method_18_code
def yX10_story : MethodName := ⟨RX10, "story", "()I"⟩
abbrev cX10_fault : ByteArray := prog_12_method_19_code
def yX10_fault : MethodName := ⟨RX10, "fault", "()I"⟩
abbrev cX10_setOf : ByteArray := prog_12_method_20_code
def yX10_setOf : MethodName := ⟨RX10, "setOf", "(II)I"⟩
abbrev cX10_noScene : ByteArray := prog_12_method_21_code
def yX10_noScene : MethodName := ⟨RX10, "noScene", "(I)Z"⟩
abbrev cX10_all : ByteArray := prog_12_method_22_code
def yX10_all : MethodName := ⟨RX10, "all", "()I"⟩
abbrev cX10_noSet : ByteArray := prog_12_method_23_code
def yX10_noSet : MethodName := ⟨RX10, "noSet", "(I)Z"⟩
abbrev cX10_scene : ByteArray := prog_12_method_24_code
def yX10_scene : MethodName := ⟨RX10, "scene", "(II)I"⟩
abbrev cX10_never : ByteArray := prog_12_method_25_code
def yX10_never : MethodName := ⟨RX10, "never", "(IIZ)I"⟩
abbrev cX10_linesOf : ByteArray := prog_12_method_26_code
def yX10_linesOf : MethodName := ⟨RX10, "linesOf", "(I)I"⟩
abbrev cX10_union : ByteArray := prog_12_method_27_code
def yX10_union : MethodName := ⟨RX10, "union", "(II)I"⟩
abbrev cX10_nevers : ByteArray := prog_12_method_28_code
def yX10_nevers : MethodName := ⟨RX10, "nevers", "()I"⟩
abbrev cX10_count : ByteArray := prog_12_method_29_code
def yX10_count : MethodName := ⟨RX10, "count", "(I)I"⟩
abbrev cX10_mayCome : ByteArray := prog_12_method_30_code
def yX10_mayCome : MethodName := ⟨RX10, "mayCome", "(II)Z"⟩
abbrev cX10_may : ByteArray := prog_12_method_31_code
def yX10_may : MethodName := ⟨RX10, "may", "(II)I"⟩
abbrev cX10_next : ByteArray := prog_12_method_32_code
def yX10_next : MethodName := ⟨RX10, "next", "(I)I"⟩
abbrev cX10_findComing : ByteArray := prog_12_method_33_code
def yX10_findComing : MethodName := ⟨RX10, "findComing", "()V"⟩
abbrev cX10_findWays : ByteArray := prog_12_method_34_code
def yX10_findWays : MethodName := ⟨RX10, "findWays", "(I)V"⟩
abbrev cX10_findGood : ByteArray := prog_12_method_35_code
def yX10_findGood : MethodName := ⟨RX10, "findGood", "()V"⟩
abbrev cX10_orders : ByteArray := prog_12_method_36_code
def yX10_orders : MethodName := ⟨RX10, "orders", "(I)J"⟩
abbrev cX10_order : ByteArray := prog_12_method_37_code
def yX10_order : MethodName := ⟨RX10, "order", "(IJI)I"⟩
abbrev cX10_good : ByteArray := prog_12_method_38_code
def yX10_good : MethodName := ⟨RX10, "good", "()I"⟩
abbrev cX10_place : ByteArray := prog_12_method_39_code
def yX10_place : MethodName := ⟨RX10, "place", "(II)I"⟩
abbrev cX10_openOf : ByteArray := prog_12_method_40_code
def yX10_openOf : MethodName := ⟨RX10, "openOf", "(I)I"⟩
abbrev cX10_open : ByteArray := prog_12_method_41_code
def yX10_open : MethodName := ⟨RX10, "open", "(I)I"⟩
abbrev cX10_atOnce : ByteArray := prog_12_method_42_code
def yX10_atOnce : MethodName := ⟨RX10, "atOnce", "(I)I"⟩
abbrev cX10_along : ByteArray := prog_12_method_43_code
def yX10_along : MethodName := ⟨RX10, "along", "(I)I"⟩
abbrev cX10_shortest : ByteArray := prog_12_method_44_code
def yX10_shortest : MethodName := ⟨RX10, "shortest", "(II)I"⟩
abbrev cX10_numberOf : ByteArray := prog_12_method_45_code
def yX10_numberOf : MethodName := ⟨RX10, "numberOf", "(I)I"⟩
abbrev cX10_setIn : ByteArray := prog_12_method_46_code
def yX10_setIn : MethodName := ⟨RX10, "setIn", "(I)I"⟩
abbrev cX10_law : ByteArray := prog_12_method_47_code
def yX10_law : MethodName := ⟨RX10, "law", "(II)I"⟩
abbrev cX10_add : ByteArray := prog_12_method_48_code
def yX10_add : MethodName := ⟨RX10, "add", "(I)I"⟩
abbrev cX10_drop : ByteArray := prog_12_method_49_code
def yX10_drop : MethodName := ⟨RX10, "drop", "()I"⟩
abbrev cX10_remindedOf : ByteArray := prog_12_method_50_code
def yX10_remindedOf : MethodName := ⟨RX10, "remindedOf", "(II)I"⟩
abbrev cX10_linesAs : ByteArray := prog_12_method_51_code
def yX10_linesAs : MethodName := ⟨RX10, "linesAs", "(II)I"⟩
abbrev cX10_lines : ByteArray := prog_12_method_52_code
def yX10_lines : MethodName := ⟨RX10, "lines", "()I"⟩
abbrev cX10_print : ByteArray := prog_12_method_53_code
def yX10_print : MethodName := ⟨RX10, "print", "()I"⟩
abbrev cX10_upTo : ByteArray := prog_12_method_54_code
def yX10_upTo : MethodName := ⟨RX10, "upTo", "(I)I"⟩
abbrev cX10_joyOf : ByteArray := prog_12_method_55_code
def yX10_joyOf : MethodName := ⟨RX10, "joyOf", "(I)I"⟩
abbrev cX10_pullOf : ByteArray := prog_12_method_56_code
def yX10_pullOf : MethodName := ⟨RX10, "pullOf", "(I)I"⟩
abbrev cX10_readersBehind : ByteArray := prog_12_method_57_code
def yX10_readersBehind : MethodName := ⟨RX10, "readersBehind", "(I)I"⟩
abbrev cX10_number : ByteArray := prog_12_method_58_code
def yX10_number : MethodName := ⟨RX10, "number", "(II)I"⟩
abbrev cX10_readers : ByteArray := prog_12_method_59_code
def yX10_readers : MethodName := ⟨RX10, "readers", "()I"⟩
abbrev cX10_findReach : ByteArray := prog_12_method_60_code
def yX10_findReach : MethodName := ⟨RX10, "findReach", "(II)V"⟩
abbrev cX10_hooks : ByteArray := prog_12_method_61_code
def yX10_hooks : MethodName := ⟨RX10, "hooks", "(II)Z"⟩
abbrev cX10_findWorths : ByteArray := prog_12_method_62_code
def yX10_findWorths : MethodName := ⟨RX10, "findWorths", "(II)V"⟩
abbrev cX10_findPlan : ByteArray := prog_12_method_63_code
def yX10_findPlan : MethodName := ⟨RX10, "findPlan", "(II)V"⟩
abbrev cX10_plan : ByteArray := prog_12_method_64_code
def yX10_plan : MethodName := ⟨RX10, "plan", "(III)I"⟩
abbrev cX10_findAll : ByteArray := prog_12_method_65_code
def yX10_findAll : MethodName := ⟨RX10, "findAll", "(II)V"⟩
abbrev cX10_kind : ByteArray := prog_12_method_66_code
def yX10_kind : MethodName := ⟨RX10, "kind", "(III)I"⟩
abbrev cX10_chapter : ByteArray := prog_12_method_67_code
def yX10_chapter : MethodName := ⟨RX10, "chapter", "(II)I"⟩
abbrev cX10_keep : ByteArray := prog_12_method_68_code
def yX10_keep : MethodName := ⟨RX10, "keep", "(I)I"⟩
abbrev cX10_goBack : ByteArray := prog_12_method_69_code
def yX10_goBack : MethodName := ⟨RX10, "goBack", "(I)I"⟩
def RJx8e188 : String := "java/lang/Cloneable"
def TJx8e188 : u_T := fun k => match k with
  | _ => ("", "", "", false)
def tyJx8e188 : Nat → FieldType := fun k => match k with
  | _ => .int
abbrev wsJx8e1880 : List Cond := u_ws RJx8e188 TJx8e188 0
theorem nmJx8e188 : ∀ a, a < 0 → ∀ b, b < 0 → a ≠ b → (TJx8e188 a).2.1 ≠ (TJx8e188 b).2.1 := by decide +kernel
theorem tyJx8e188_ok : ∀ k, k < 0 → parseFieldDescriptor (TJx8e188 k).2.2.1 = some (tyJx8e188 k) := by decide +kernel
def RJ6 : String := "java/lang/Integer"
def TJ6 : u_T := fun k => match k with
  | _ => ("", "", "", false)
def tyJ6 : Nat → FieldType := fun k => match k with
  | _ => .int
abbrev wsJ60 : List Cond := u_ws RJ6 TJ6 0
theorem nmJ6 : ∀ a, a < 0 → ∀ b, b < 0 → a ≠ b → (TJ6 a).2.1 ≠ (TJ6 b).2.1 := by decide +kernel
theorem tyJ6_ok : ∀ k, k < 0 → parseFieldDescriptor (TJ6 k).2.2.1 = some (tyJ6 k) := by decide +kernel
abbrev cJ6_bitCount_0f7a4 : ByteArray := prog_14_method_49_code
def yJ6_bitCount_0f7a4 : MethodName := ⟨RJ6, "bitCount", "(I)I"⟩
def RJ9 : String := "java/lang/Math"
def TJ9 : u_T := fun k => match k with
  | _ => ("", "", "", false)
def tyJ9 : Nat → FieldType := fun k => match k with
  | _ => .int
abbrev wsJ90 : List Cond := u_ws RJ9 TJ9 0
theorem nmJ9 : ∀ a, a < 0 → ∀ b, b < 0 → a ≠ b → (TJ9 a).2.1 ≠ (TJ9 b).2.1 := by decide +kernel
theorem tyJ9_ok : ∀ k, k < 0 → parseFieldDescriptor (TJ9 k).2.2.1 = some (tyJ9 k) := by decide +kernel
abbrev cJ9_max_7cf53 : ByteArray := prog_15_method_65_code
def yJ9_max_7cf53 : MethodName := ⟨RJ9, "max", "(II)I"⟩
abbrev cJ9_max_f86c9 : ByteArray := prog_15_method_66_code
def yJ9_max_f86c9 : MethodName := ⟨RJ9, "max", "(JJ)J"⟩
abbrev cJ9_min_7cf53 : ByteArray := prog_15_method_69_code
def yJ9_min_7cf53 : MethodName := ⟨RJ9, "min", "(II)I"⟩
abbrev cJ9_min_f86c9 : ByteArray := prog_15_method_70_code
def yJ9_min_f86c9 : MethodName := ⟨RJ9, "min", "(JJ)J"⟩
def RJ0 : String := "java/lang/String"
def TJ0 : u_T := fun k => match k with
  | _ => ("", "", "", false)
def tyJ0 : Nat → FieldType := fun k => match k with
  | _ => .int
abbrev wsJ00 : List Cond := u_ws RJ0 TJ0 0
theorem nmJ0 : ∀ a, a < 0 → ∀ b, b < 0 → a ≠ b → (TJ0 a).2.1 ≠ (TJ0 b).2.1 := by decide +kernel
theorem tyJ0_ok : ∀ k, k < 0 → parseFieldDescriptor (TJ0 k).2.2.1 = some (tyJ0 k) := by decide +kernel
abbrev cJ0_charAt_5068e : ByteArray := prog_16_method_56_code
def yJ0_charAt_5068e : MethodName := ⟨RJ0, "charAt", "(I)C"⟩
abbrev cJ0_isLatin1_aae02 : ByteArray := prog_16_method_154_code
def yJ0_isLatin1_aae02 : MethodName := ⟨RJ0, "isLatin1", "()Z"⟩
abbrev cJ0_checkIndex_df160 : ByteArray := prog_16_method_155_code
def yJ0_checkIndex_df160 : MethodName := ⟨RJ0, "checkIndex", "(II)V"⟩
def RJ1 : String := "java/lang/StringLatin1"
def TJ1 : u_T := fun k => match k with
  | _ => ("", "", "", false)
def tyJ1 : Nat → FieldType := fun k => match k with
  | _ => .int
abbrev wsJ10 : List Cond := u_ws RJ1 TJ1 0
theorem nmJ1 : ∀ a, a < 0 → ∀ b, b < 0 → a ≠ b → (TJ1 a).2.1 ≠ (TJ1 b).2.1 := by decide +kernel
theorem tyJ1_ok : ∀ k, k < 0 → parseFieldDescriptor (TJ1 k).2.2.1 = some (tyJ1 k) := by decide +kernel
abbrev cJ1_charAt_3b067 : ByteArray := prog_17_method_2_code
def yJ1_charAt_3b067 : MethodName := ⟨RJ1, "charAt", "([BI)C"⟩
def RJ2 : String := "java/lang/StringUTF16"
def TJ2 : u_T := fun k => match k with
  | _ => ("", "", "", false)
def tyJ2 : Nat → FieldType := fun k => match k with
  | _ => .int
abbrev wsJ20 : List Cond := u_ws RJ2 TJ2 0
theorem nmJ2 : ∀ a, a < 0 → ∀ b, b < 0 → a ≠ b → (TJ2 a).2.1 ≠ (TJ2 b).2.1 := by decide +kernel
theorem tyJ2_ok : ∀ k, k < 0 → parseFieldDescriptor (TJ2 k).2.2.1 = some (tyJ2 k) := by decide +kernel
abbrev cJ2_getChar_3b067 : ByteArray := prog_18_method_5_code
def yJ2_getChar_3b067 : MethodName := ⟨RJ2, "getChar", "([BI)C"⟩
abbrev cJ2_length_9d52b : ByteArray := prog_18_method_6_code
def yJ2_length_9d52b : MethodName := ⟨RJ2, "length", "([B)I"⟩
abbrev cJ2_charAt_3b067 : ByteArray := prog_18_method_83_code
def yJ2_charAt_3b067 : MethodName := ⟨RJ2, "charAt", "([BI)C"⟩
abbrev cJ2_checkIndex_2214a : ByteArray := prog_18_method_91_code
def yJ2_checkIndex_2214a : MethodName := ⟨RJ2, "checkIndex", "(I[B)V"⟩
def RJ10 : String := "java/lang/System"
def TJ10 : u_T := fun k => match k with
  | _ => ("", "", "", false)
def tyJ10 : Nat → FieldType := fun k => match k with
  | _ => .int
abbrev wsJ100 : List Cond := u_ws RJ10 TJ10 0
theorem nmJ10 : ∀ a, a < 0 → ∀ b, b < 0 → a ≠ b → (TJ10 a).2.1 ≠ (TJ10 b).2.1 := by decide +kernel
theorem tyJ10_ok : ∀ k, k < 0 → parseFieldDescriptor (TJ10 k).2.2.1 = some (tyJ10 k) := by decide +kernel
def RJ3 : String := "jdk/internal/util/Preconditions"
def TJ3 : u_T := fun k => match k with
  | _ => ("", "", "", false)
def tyJ3 : Nat → FieldType := fun k => match k with
  | _ => .int
abbrev wsJ30 : List Cond := u_ws RJ3 TJ3 0
theorem nmJ3 : ∀ a, a < 0 → ∀ b, b < 0 → a ≠ b → (TJ3 a).2.1 ≠ (TJ3 b).2.1 := by decide +kernel
theorem tyJ3_ok : ∀ k, k < 0 → parseFieldDescriptor (TJ3 k).2.2.1 = some (tyJ3 k) := by decide +kernel
abbrev cJ3_checkIndex_8e157 : ByteArray := prog_20_method_11_code
def yJ3_checkIndex_8e157 : MethodName := ⟨RJ3, "checkIndex", "(IILjava/util/function/BiFunction;)I"⟩
def RL : String := "StoryNumbersLaw"
abbrev cL_law : ByteArray := code
def yL_law : MethodName := ⟨RL, "law", "([I)Z"⟩
set_option maxRecDepth 20000 in
abbrev vwCl : List vw_C := [(RX0, TX0, 5), (RX1, TX1, 4), (RX2, TX2, 10), (RX3, TX3, 2), (RX4, TX4, 8), (RX5, TX5, 3), (RX6, TX6, 16), (RX7, TX7, 2), (RX8, TX8, 2), (RX9, TX9, 12), (RX10, TX10, 40)]
end
section
theorem dX0_init_0 : decode cX0_init 0 = .ok (.aload_n 0, 1) := by decide +kernel
theorem dX0_init_1 : decode cX0_init 1 = .ok (.invokespecial 3, 3) := by decide +kernel
theorem dX0_init_4 : decode cX0_init 4 = .ok (.aload_n 0, 1) := by decide +kernel
theorem dX0_init_5 : decode cX0_init 5 = .ok (.bipush 10, 2) := by decide +kernel
theorem dX0_init_7 : decode cX0_init 7 = .ok (.newarray .int, 2) := by decide +kernel
theorem dX0_init_9 : decode cX0_init 9 = .ok (.putfield 9, 3) := by decide +kernel
theorem dX0_init_12 : decode cX0_init 12 = .ok (.aload_n 0, 1) := by decide +kernel
theorem dX0_init_13 : decode cX0_init 13 = .ok (.iconst 0, 1) := by decide +kernel
theorem dX0_init_14 : decode cX0_init 14 = .ok (.putfield 15, 3) := by decide +kernel
theorem dX0_init_17 : decode cX0_init 17 = .ok (.aload_n 0, 1) := by decide +kernel
theorem dX0_init_18 : decode cX0_init 18 = .ok (.bipush 12, 2) := by decide +kernel
theorem dX0_init_20 : decode cX0_init 20 = .ok (.newarray .int, 2) := by decide +kernel
theorem dX0_init_22 : decode cX0_init 22 = .ok (.putfield 19, 3) := by decide +kernel
theorem dX0_init_25 : decode cX0_init 25 = .ok (.aload_n 0, 1) := by decide +kernel
theorem dX0_init_26 : decode cX0_init 26 = .ok (.iconst 0, 1) := by decide +kernel
theorem dX0_init_27 : decode cX0_init 27 = .ok (.putfield 22, 3) := by decide +kernel
theorem dX0_init_30 : decode cX0_init 30 = .ok (.aload_n 0, 1) := by decide +kernel
theorem dX0_init_31 : decode cX0_init 31 = .ok (.getstatic 25, 3) := by decide +kernel
theorem dX0_init_34 : decode cX0_init 34 = .ok (.invokevirtual 28, 3) := by decide +kernel
theorem dX0_init_37 : decode cX0_init 37 = .ok (.checkcast 29, 3) := by decide +kernel
theorem dX0_init_40 : decode cX0_init 40 = .ok (.putfield 33, 3) := by decide +kernel
theorem dX0_init_43 : decode cX0_init 43 = .ok (.return_, 1) := by decide +kernel
theorem dX0_clear_0 : decode cX0_clear 0 = .ok (.aload_n 0, 1) := by decide +kernel
theorem dX0_clear_1 : decode cX0_clear 1 = .ok (.iconst 0, 1) := by decide +kernel
theorem dX0_clear_2 : decode cX0_clear 2 = .ok (.putfield 15, 3) := by decide +kernel
theorem dX0_clear_5 : decode cX0_clear 5 = .ok (.aload_n 0, 1) := by decide +kernel
theorem dX0_clear_6 : decode cX0_clear 6 = .ok (.iconst 0, 1) := by decide +kernel
theorem dX0_clear_7 : decode cX0_clear 7 = .ok (.putfield 22, 3) := by decide +kernel
theorem dX0_clear_10 : decode cX0_clear 10 = .ok (.return_, 1) := by decide +kernel
theorem dX0_become_0 : decode cX0_become 0 = .ok (.aload_n 1, 1) := by decide +kernel
theorem dX0_become_1 : decode cX0_become 1 = .ok (.getfield 9, 3) := by decide +kernel
theorem dX0_become_4 : decode cX0_become 4 = .ok (.iconst 0, 1) := by decide +kernel
theorem dX0_become_5 : decode cX0_become 5 = .ok (.aload_n 0, 1) := by decide +kernel
theorem dX0_become_6 : decode cX0_become 6 = .ok (.getfield 9, 3) := by decide +kernel
theorem dX0_become_9 : decode cX0_become 9 = .ok (.iconst 0, 1) := by decide +kernel
theorem dX0_become_10 : decode cX0_become 10 = .ok (.bipush 10, 2) := by decide +kernel
theorem dX0_become_12 : decode cX0_become 12 = .ok (.invokestatic 36, 3) := by decide +kernel
theorem dX0_become_15 : decode cX0_become 15 = .ok (.aload_n 1, 1) := by decide +kernel
theorem dX0_become_16 : decode cX0_become 16 = .ok (.getfield 19, 3) := by decide +kernel
theorem dX0_become_19 : decode cX0_become 19 = .ok (.iconst 0, 1) := by decide +kernel
theorem dX0_become_20 : decode cX0_become 20 = .ok (.aload_n 0, 1) := by decide +kernel
theorem dX0_become_21 : decode cX0_become 21 = .ok (.getfield 19, 3) := by decide +kernel
theorem dX0_become_24 : decode cX0_become 24 = .ok (.iconst 0, 1) := by decide +kernel
theorem dX0_become_25 : decode cX0_become 25 = .ok (.bipush 12, 2) := by decide +kernel
theorem dX0_become_27 : decode cX0_become 27 = .ok (.invokestatic 36, 3) := by decide +kernel
theorem dX0_become_30 : decode cX0_become 30 = .ok (.aload_n 1, 1) := by decide +kernel
theorem dX0_become_31 : decode cX0_become 31 = .ok (.getfield 33, 3) := by decide +kernel
theorem dX0_become_34 : decode cX0_become 34 = .ok (.iconst 0, 1) := by decide +kernel
theorem dX0_become_35 : decode cX0_become 35 = .ok (.aload_n 0, 1) := by decide +kernel
theorem dX0_become_36 : decode cX0_become 36 = .ok (.getfield 33, 3) := by decide +kernel
theorem dX0_become_39 : decode cX0_become 39 = .ok (.iconst 0, 1) := by decide +kernel
theorem dX0_become_40 : decode cX0_become 40 = .ok (.bipush 8, 2) := by decide +kernel
theorem dX0_become_42 : decode cX0_become 42 = .ok (.invokestatic 36, 3) := by decide +kernel
theorem dX0_become_45 : decode cX0_become 45 = .ok (.aload_n 0, 1) := by decide +kernel
theorem dX0_become_46 : decode cX0_become 46 = .ok (.aload_n 1, 1) := by decide +kernel
theorem dX0_become_47 : decode cX0_become 47 = .ok (.getfield 15, 3) := by decide +kernel
theorem dX0_become_50 : decode cX0_become 50 = .ok (.putfield 15, 3) := by decide +kernel
theorem dX0_become_53 : decode cX0_become 53 = .ok (.aload_n 0, 1) := by decide +kernel
theorem dX0_become_54 : decode cX0_become 54 = .ok (.aload_n 1, 1) := by decide +kernel
theorem dX0_become_55 : decode cX0_become 55 = .ok (.getfield 22, 3) := by decide +kernel
theorem dX0_become_58 : decode cX0_become 58 = .ok (.putfield 22, 3) := by decide +kernel
theorem dX0_become_61 : decode cX0_become 61 = .ok (.return_, 1) := by decide +kernel
theorem dX0_mayBecome_0 : decode cX0_mayBecome 0 = .ok (.iload_n 1, 1) := by decide +kernel
theorem dX0_mayBecome_1 : decode cX0_mayBecome 1 = .ok (.ifCond .lt 27, 3) := by decide +kernel
theorem dX0_mayBecome_4 : decode cX0_mayBecome 4 = .ok (.iload_n 1, 1) := by decide +kernel
theorem dX0_mayBecome_5 : decode cX0_mayBecome 5 = .ok (.bipush 8, 2) := by decide +kernel
theorem dX0_mayBecome_7 : decode cX0_mayBecome 7 = .ok (.if_icmp .ge 21, 3) := by decide +kernel
theorem dX0_mayBecome_10 : decode cX0_mayBecome 10 = .ok (.iload_n 2, 1) := by decide +kernel
theorem dX0_mayBecome_11 : decode cX0_mayBecome 11 = .ok (.getstatic 42, 3) := by decide +kernel
theorem dX0_mayBecome_14 : decode cX0_mayBecome 14 = .ok (.iload_n 1, 1) := by decide +kernel
theorem dX0_mayBecome_15 : decode cX0_mayBecome 15 = .ok (.iaload, 1) := by decide +kernel
theorem dX0_mayBecome_16 : decode cX0_mayBecome 16 = .ok (.if_icmp .lt 12, 3) := by decide +kernel
theorem dX0_mayBecome_19 : decode cX0_mayBecome 19 = .ok (.iload_n 2, 1) := by decide +kernel
theorem dX0_mayBecome_20 : decode cX0_mayBecome 20 = .ok (.getstatic 45, 3) := by decide +kernel
theorem dX0_mayBecome_23 : decode cX0_mayBecome 23 = .ok (.iload_n 1, 1) := by decide +kernel
theorem dX0_mayBecome_24 : decode cX0_mayBecome 24 = .ok (.iaload, 1) := by decide +kernel
theorem dX0_mayBecome_25 : decode cX0_mayBecome 25 = .ok (.if_icmp .le 5, 3) := by decide +kernel
theorem dX0_mayBecome_28 : decode cX0_mayBecome 28 = .ok (.iconst 0, 1) := by decide +kernel
theorem dX0_mayBecome_29 : decode cX0_mayBecome 29 = .ok (.ireturn, 1) := by decide +kernel
theorem dX0_mayBecome_30 : decode cX0_mayBecome 30 = .ok (.iload_n 1, 1) := by decide +kernel
theorem dX0_mayBecome_31 : decode cX0_mayBecome 31 = .ok (.ifCond .ne 13, 3) := by decide +kernel
theorem dX0_mayBecome_34 : decode cX0_mayBecome 34 = .ok (.iload_n 2, 1) := by decide +kernel
theorem dX0_mayBecome_35 : decode cX0_mayBecome 35 = .ok (.aload_n 0, 1) := by decide +kernel
theorem dX0_mayBecome_36 : decode cX0_mayBecome 36 = .ok (.getfield 33, 3) := by decide +kernel
theorem dX0_mayBecome_39 : decode cX0_mayBecome 39 = .ok (.iconst 1, 1) := by decide +kernel
theorem dX0_mayBecome_40 : decode cX0_mayBecome 40 = .ok (.iaload, 1) := by decide +kernel
theorem dX0_mayBecome_41 : decode cX0_mayBecome 41 = .ok (.if_icmp .gt 22, 3) := by decide +kernel
theorem dX0_mayBecome_44 : decode cX0_mayBecome 44 = .ok (.iload_n 1, 1) := by decide +kernel
theorem dX0_mayBecome_45 : decode cX0_mayBecome 45 = .ok (.iconst 1, 1) := by decide +kernel
theorem dX0_mayBecome_46 : decode cX0_mayBecome 46 = .ok (.if_icmp .ne 13, 3) := by decide +kernel
theorem dX0_mayBecome_49 : decode cX0_mayBecome 49 = .ok (.iload_n 2, 1) := by decide +kernel
theorem dX0_mayBecome_50 : decode cX0_mayBecome 50 = .ok (.aload_n 0, 1) := by decide +kernel
theorem dX0_mayBecome_51 : decode cX0_mayBecome 51 = .ok (.getfield 33, 3) := by decide +kernel
theorem dX0_mayBecome_54 : decode cX0_mayBecome 54 = .ok (.iconst 0, 1) := by decide +kernel
theorem dX0_mayBecome_55 : decode cX0_mayBecome 55 = .ok (.iaload, 1) := by decide +kernel
theorem dX0_mayBecome_56 : decode cX0_mayBecome 56 = .ok (.if_icmp .lt 7, 3) := by decide +kernel
theorem dX0_mayBecome_59 : decode cX0_mayBecome 59 = .ok (.iconst 1, 1) := by decide +kernel
theorem dX0_mayBecome_60 : decode cX0_mayBecome 60 = .ok (.goto 4, 3) := by decide +kernel
theorem dX0_mayBecome_63 : decode cX0_mayBecome 63 = .ok (.iconst 0, 1) := by decide +kernel
theorem dX0_mayBecome_64 : decode cX0_mayBecome 64 = .ok (.ireturn, 1) := by decide +kernel
theorem dX0_start_0 : decode cX0_start 0 = .ok (.iload_n 1, 1) := by decide +kernel
theorem dX0_start_1 : decode cX0_start 1 = .ok (.iconst 1, 1) := by decide +kernel
theorem dX0_start_2 : decode cX0_start 2 = .ok (.if_icmp .lt 11, 3) := by decide +kernel
theorem dX0_start_5 : decode cX0_start 5 = .ok (.iload_n 1, 1) := by decide +kernel
theorem dX0_start_6 : decode cX0_start 6 = .ok (.aload_n 0, 1) := by decide +kernel
theorem dX0_start_7 : decode cX0_start 7 = .ok (.getfield 22, 3) := by decide +kernel
theorem dX0_start_10 : decode cX0_start 10 = .ok (.if_icmp .le 7, 3) := by decide +kernel
theorem dX0_start_13 : decode cX0_start 13 = .ok (.iconst 0, 1) := by decide +kernel
theorem dX0_start_14 : decode cX0_start 14 = .ok (.goto 11, 3) := by decide +kernel
theorem dX0_start_17 : decode cX0_start 17 = .ok (.aload_n 0, 1) := by decide +kernel
theorem dX0_start_18 : decode cX0_start 18 = .ok (.getfield 19, 3) := by decide +kernel
theorem dX0_start_21 : decode cX0_start 21 = .ok (.iload_n 1, 1) := by decide +kernel
theorem dX0_start_22 : decode cX0_start 22 = .ok (.iconst 1, 1) := by decide +kernel
theorem dX0_start_23 : decode cX0_start 23 = .ok (.isub, 1) := by decide +kernel
theorem dX0_start_24 : decode cX0_start 24 = .ok (.iaload, 1) := by decide +kernel
theorem dX0_start_25 : decode cX0_start 25 = .ok (.ireturn, 1) := by decide +kernel
theorem dX0_end_0 : decode cX0_end 0 = .ok (.iload_n 1, 1) := by decide +kernel
theorem dX0_end_1 : decode cX0_end 1 = .ok (.ifCond .lt 20, 3) := by decide +kernel
theorem dX0_end_4 : decode cX0_end 4 = .ok (.iload_n 1, 1) := by decide +kernel
theorem dX0_end_5 : decode cX0_end 5 = .ok (.aload_n 0, 1) := by decide +kernel
theorem dX0_end_6 : decode cX0_end 6 = .ok (.getfield 22, 3) := by decide +kernel
theorem dX0_end_9 : decode cX0_end 9 = .ok (.if_icmp .ge 12, 3) := by decide +kernel
theorem dX0_end_12 : decode cX0_end 12 = .ok (.aload_n 0, 1) := by decide +kernel
theorem dX0_end_13 : decode cX0_end 13 = .ok (.getfield 19, 3) := by decide +kernel
theorem dX0_end_16 : decode cX0_end 16 = .ok (.iload_n 1, 1) := by decide +kernel
theorem dX0_end_17 : decode cX0_end 17 = .ok (.iaload, 1) := by decide +kernel
theorem dX0_end_18 : decode cX0_end 18 = .ok (.goto 7, 3) := by decide +kernel
theorem dX0_end_21 : decode cX0_end 21 = .ok (.aload_n 0, 1) := by decide +kernel
theorem dX0_end_22 : decode cX0_end 22 = .ok (.getfield 15, 3) := by decide +kernel
theorem dX0_end_25 : decode cX0_end 25 = .ok (.ireturn, 1) := by decide +kernel
theorem dX0_printed_0 : decode cX0_printed 0 = .ok (.aload_n 0, 1) := by decide +kernel
theorem dX0_printed_1 : decode cX0_printed 1 = .ok (.aload_n 0, 1) := by decide +kernel
theorem dX0_printed_2 : decode cX0_printed 2 = .ok (.getfield 22, 3) := by decide +kernel
theorem dX0_printed_5 : decode cX0_printed 5 = .ok (.invokevirtual 48, 3) := by decide +kernel
theorem dX0_printed_8 : decode cX0_printed 8 = .ok (.ireturn, 1) := by decide +kernel
theorem dX0_drafted_0 : decode cX0_drafted 0 = .ok (.aload_n 0, 1) := by decide +kernel
theorem dX0_drafted_1 : decode cX0_drafted 1 = .ok (.getfield 15, 3) := by decide +kernel
theorem dX0_drafted_4 : decode cX0_drafted 4 = .ok (.aload_n 0, 1) := by decide +kernel
theorem dX0_drafted_5 : decode cX0_drafted 5 = .ok (.invokevirtual 52, 3) := by decide +kernel
theorem dX0_drafted_8 : decode cX0_drafted 8 = .ok (.isub, 1) := by decide +kernel
theorem dX0_drafted_9 : decode cX0_drafted 9 = .ok (.ireturn, 1) := by decide +kernel
theorem dX0_append_0 : decode cX0_append 0 = .ok (.aload_n 0, 1) := by decide +kernel
theorem dX0_append_1 : decode cX0_append 1 = .ok (.getfield 15, 3) := by decide +kernel
theorem dX0_append_4 : decode cX0_append 4 = .ok (.bipush 10, 2) := by decide +kernel
theorem dX0_append_6 : decode cX0_append 6 = .ok (.if_icmp .ge 23, 3) := by decide +kernel
theorem dX0_append_9 : decode cX0_append 9 = .ok (.aload_n 0, 1) := by decide +kernel
theorem dX0_append_10 : decode cX0_append 10 = .ok (.getfield 9, 3) := by decide +kernel
theorem dX0_append_13 : decode cX0_append 13 = .ok (.aload_n 0, 1) := by decide +kernel
theorem dX0_append_14 : decode cX0_append 14 = .ok (.getfield 15, 3) := by decide +kernel
theorem dX0_append_17 : decode cX0_append 17 = .ok (.iload_n 1, 1) := by decide +kernel
theorem dX0_append_18 : decode cX0_append 18 = .ok (.iastore, 1) := by decide +kernel
theorem dX0_append_19 : decode cX0_append 19 = .ok (.aload_n 0, 1) := by decide +kernel
theorem dX0_append_20 : decode cX0_append 20 = .ok (.dup, 1) := by decide +kernel
theorem dX0_append_21 : decode cX0_append 21 = .ok (.getfield 15, 3) := by decide +kernel
theorem dX0_append_24 : decode cX0_append 24 = .ok (.iconst 1, 1) := by decide +kernel
theorem dX0_append_25 : decode cX0_append 25 = .ok (.iadd, 1) := by decide +kernel
theorem dX0_append_26 : decode cX0_append 26 = .ok (.putfield 15, 3) := by decide +kernel
theorem dX0_append_29 : decode cX0_append 29 = .ok (.return_, 1) := by decide +kernel
theorem dX0_takeLast_0 : decode cX0_takeLast 0 = .ok (.aload_n 0, 1) := by decide +kernel
theorem dX0_takeLast_1 : decode cX0_takeLast 1 = .ok (.getfield 15, 3) := by decide +kernel
theorem dX0_takeLast_4 : decode cX0_takeLast 4 = .ok (.iconst 1, 1) := by decide +kernel
theorem dX0_takeLast_5 : decode cX0_takeLast 5 = .ok (.if_icmp .ge 5, 3) := by decide +kernel
theorem dX0_takeLast_8 : decode cX0_takeLast 8 = .ok (.iconst (-1), 1) := by decide +kernel
theorem dX0_takeLast_9 : decode cX0_takeLast 9 = .ok (.ireturn, 1) := by decide +kernel
theorem dX0_takeLast_10 : decode cX0_takeLast 10 = .ok (.aload_n 0, 1) := by decide +kernel
theorem dX0_takeLast_11 : decode cX0_takeLast 11 = .ok (.dup, 1) := by decide +kernel
theorem dX0_takeLast_12 : decode cX0_takeLast 12 = .ok (.getfield 15, 3) := by decide +kernel
theorem dX0_takeLast_15 : decode cX0_takeLast 15 = .ok (.iconst 1, 1) := by decide +kernel
theorem dX0_takeLast_16 : decode cX0_takeLast 16 = .ok (.isub, 1) := by decide +kernel
theorem dX0_takeLast_17 : decode cX0_takeLast 17 = .ok (.putfield 15, 3) := by decide +kernel
theorem dX0_takeLast_20 : decode cX0_takeLast 20 = .ok (.aload_n 0, 1) := by decide +kernel
theorem dX0_takeLast_21 : decode cX0_takeLast 21 = .ok (.getfield 9, 3) := by decide +kernel
theorem dX0_takeLast_24 : decode cX0_takeLast 24 = .ok (.aload_n 0, 1) := by decide +kernel
theorem dX0_takeLast_25 : decode cX0_takeLast 25 = .ok (.getfield 15, 3) := by decide +kernel
theorem dX0_takeLast_28 : decode cX0_takeLast 28 = .ok (.iaload, 1) := by decide +kernel
theorem dX0_takeLast_29 : decode cX0_takeLast 29 = .ok (.ireturn, 1) := by decide +kernel
theorem dX0_closeNumber_0 : decode cX0_closeNumber 0 = .ok (.aload_n 0, 1) := by decide +kernel
theorem dX0_closeNumber_1 : decode cX0_closeNumber 1 = .ok (.getfield 22, 3) := by decide +kernel
theorem dX0_closeNumber_4 : decode cX0_closeNumber 4 = .ok (.bipush 12, 2) := by decide +kernel
theorem dX0_closeNumber_6 : decode cX0_closeNumber 6 = .ok (.if_icmp .ge 26, 3) := by decide +kernel
theorem dX0_closeNumber_9 : decode cX0_closeNumber 9 = .ok (.aload_n 0, 1) := by decide +kernel
theorem dX0_closeNumber_10 : decode cX0_closeNumber 10 = .ok (.getfield 19, 3) := by decide +kernel
theorem dX0_closeNumber_13 : decode cX0_closeNumber 13 = .ok (.aload_n 0, 1) := by decide +kernel
theorem dX0_closeNumber_14 : decode cX0_closeNumber 14 = .ok (.getfield 22, 3) := by decide +kernel
theorem dX0_closeNumber_17 : decode cX0_closeNumber 17 = .ok (.aload_n 0, 1) := by decide +kernel
theorem dX0_closeNumber_18 : decode cX0_closeNumber 18 = .ok (.getfield 15, 3) := by decide +kernel
theorem dX0_closeNumber_21 : decode cX0_closeNumber 21 = .ok (.iastore, 1) := by decide +kernel
theorem dX0_closeNumber_22 : decode cX0_closeNumber 22 = .ok (.aload_n 0, 1) := by decide +kernel
theorem dX0_closeNumber_23 : decode cX0_closeNumber 23 = .ok (.dup, 1) := by decide +kernel
theorem dX0_closeNumber_24 : decode cX0_closeNumber 24 = .ok (.getfield 22, 3) := by decide +kernel
theorem dX0_closeNumber_27 : decode cX0_closeNumber 27 = .ok (.iconst 1, 1) := by decide +kernel
theorem dX0_closeNumber_28 : decode cX0_closeNumber 28 = .ok (.iadd, 1) := by decide +kernel
theorem dX0_closeNumber_29 : decode cX0_closeNumber 29 = .ok (.putfield 22, 3) := by decide +kernel
theorem dX0_closeNumber_32 : decode cX0_closeNumber 32 = .ok (.return_, 1) := by decide +kernel
theorem dX0_sceneOf_0 : decode cX0_sceneOf 0 = .ok (.aload_n 0, 1) := by decide +kernel
theorem dX0_sceneOf_1 : decode cX0_sceneOf 1 = .ok (.iload_n 1, 1) := by decide +kernel
theorem dX0_sceneOf_2 : decode cX0_sceneOf 2 = .ok (.invokevirtual 48, 3) := by decide +kernel
theorem dX0_sceneOf_5 : decode cX0_sceneOf 5 = .ok (.iload_n 2, 1) := by decide +kernel
theorem dX0_sceneOf_6 : decode cX0_sceneOf 6 = .ok (.iadd, 1) := by decide +kernel
theorem dX0_sceneOf_7 : decode cX0_sceneOf 7 = .ok (.istore_n 3, 1) := by decide +kernel
theorem dX0_sceneOf_8 : decode cX0_sceneOf 8 = .ok (.iload_n 2, 1) := by decide +kernel
theorem dX0_sceneOf_9 : decode cX0_sceneOf 9 = .ok (.ifCond .lt 12, 3) := by decide +kernel
theorem dX0_sceneOf_12 : decode cX0_sceneOf 12 = .ok (.iload_n 3, 1) := by decide +kernel
theorem dX0_sceneOf_13 : decode cX0_sceneOf 13 = .ok (.aload_n 0, 1) := by decide +kernel
theorem dX0_sceneOf_14 : decode cX0_sceneOf 14 = .ok (.iload_n 1, 1) := by decide +kernel
theorem dX0_sceneOf_15 : decode cX0_sceneOf 15 = .ok (.invokevirtual 56, 3) := by decide +kernel
theorem dX0_sceneOf_18 : decode cX0_sceneOf 18 = .ok (.if_icmp .lt 7, 3) := by decide +kernel
theorem dX0_sceneOf_21 : decode cX0_sceneOf 21 = .ok (.iconst (-1), 1) := by decide +kernel
theorem dX0_sceneOf_22 : decode cX0_sceneOf 22 = .ok (.goto 9, 3) := by decide +kernel
theorem dX0_sceneOf_25 : decode cX0_sceneOf 25 = .ok (.aload_n 0, 1) := by decide +kernel
theorem dX0_sceneOf_26 : decode cX0_sceneOf 26 = .ok (.getfield 9, 3) := by decide +kernel
theorem dX0_sceneOf_29 : decode cX0_sceneOf 29 = .ok (.iload_n 3, 1) := by decide +kernel
theorem dX0_sceneOf_30 : decode cX0_sceneOf 30 = .ok (.iaload, 1) := by decide +kernel
theorem dX0_sceneOf_31 : decode cX0_sceneOf 31 = .ok (.ireturn, 1) := by decide +kernel
theorem dX0_setUpTo_0 : decode cX0_setUpTo 0 = .ok (.aload_n 0, 1) := by decide +kernel
theorem dX0_setUpTo_1 : decode cX0_setUpTo 1 = .ok (.iconst 0, 1) := by decide +kernel
theorem dX0_setUpTo_2 : decode cX0_setUpTo 2 = .ok (.iload_n 1, 1) := by decide +kernel
theorem dX0_setUpTo_3 : decode cX0_setUpTo 3 = .ok (.invokevirtual 59, 3) := by decide +kernel
theorem dX0_setUpTo_6 : decode cX0_setUpTo 6 = .ok (.ireturn, 1) := by decide +kernel
theorem dX0_setOf_0 : decode cX0_setOf 0 = .ok (.aload_n 0, 1) := by decide +kernel
theorem dX0_setOf_1 : decode cX0_setOf 1 = .ok (.aload_n 0, 1) := by decide +kernel
theorem dX0_setOf_2 : decode cX0_setOf 2 = .ok (.iload_n 1, 1) := by decide +kernel
theorem dX0_setOf_3 : decode cX0_setOf 3 = .ok (.invokevirtual 48, 3) := by decide +kernel
theorem dX0_setOf_6 : decode cX0_setOf 6 = .ok (.aload_n 0, 1) := by decide +kernel
theorem dX0_setOf_7 : decode cX0_setOf 7 = .ok (.iload_n 1, 1) := by decide +kernel
theorem dX0_setOf_8 : decode cX0_setOf 8 = .ok (.invokevirtual 56, 3) := by decide +kernel
theorem dX0_setOf_11 : decode cX0_setOf 11 = .ok (.invokevirtual 59, 3) := by decide +kernel
theorem dX0_setOf_14 : decode cX0_setOf 14 = .ok (.ireturn, 1) := by decide +kernel
theorem dX0_setFrom_0 : decode cX0_setFrom 0 = .ok (.iconst 0, 1) := by decide +kernel
theorem dX0_setFrom_1 : decode cX0_setFrom 1 = .ok (.istore_n 3, 1) := by decide +kernel
theorem dX0_setFrom_2 : decode cX0_setFrom 2 = .ok (.iload_n 1, 1) := by decide +kernel
theorem dX0_setFrom_3 : decode cX0_setFrom 3 = .ok (.istore 4, 2) := by decide +kernel
theorem dX0_setFrom_5 : decode cX0_setFrom 5 = .ok (.iload 4, 2) := by decide +kernel
theorem dX0_setFrom_7 : decode cX0_setFrom 7 = .ok (.iload_n 2, 1) := by decide +kernel
theorem dX0_setFrom_8 : decode cX0_setFrom 8 = .ok (.if_icmp .ge 28, 3) := by decide +kernel
theorem dX0_setFrom_11 : decode cX0_setFrom 11 = .ok (.iload 4, 2) := by decide +kernel
theorem dX0_setFrom_13 : decode cX0_setFrom 13 = .ok (.bipush 10, 2) := by decide +kernel
theorem dX0_setFrom_15 : decode cX0_setFrom 15 = .ok (.if_icmp .ge 21, 3) := by decide +kernel
theorem dX0_setFrom_18 : decode cX0_setFrom 18 = .ok (.iload_n 3, 1) := by decide +kernel
theorem dX0_setFrom_19 : decode cX0_setFrom 19 = .ok (.iconst 1, 1) := by decide +kernel
theorem dX0_setFrom_20 : decode cX0_setFrom 20 = .ok (.aload_n 0, 1) := by decide +kernel
theorem dX0_setFrom_21 : decode cX0_setFrom 21 = .ok (.getfield 9, 3) := by decide +kernel
theorem dX0_setFrom_24 : decode cX0_setFrom 24 = .ok (.iload 4, 2) := by decide +kernel
theorem dX0_setFrom_26 : decode cX0_setFrom 26 = .ok (.iaload, 1) := by decide +kernel
theorem dX0_setFrom_27 : decode cX0_setFrom 27 = .ok (.ishl, 1) := by decide +kernel
theorem dX0_setFrom_28 : decode cX0_setFrom 28 = .ok (.ior, 1) := by decide +kernel
theorem dX0_setFrom_29 : decode cX0_setFrom 29 = .ok (.istore_n 3, 1) := by decide +kernel
theorem dX0_setFrom_30 : decode cX0_setFrom 30 = .ok (.iinc 4 1, 3) := by decide +kernel
theorem dX0_setFrom_33 : decode cX0_setFrom 33 = .ok (.goto (-28), 3) := by decide +kernel
theorem dX0_setFrom_36 : decode cX0_setFrom 36 = .ok (.iload_n 3, 1) := by decide +kernel
theorem dX0_setFrom_37 : decode cX0_setFrom 37 = .ok (.ireturn, 1) := by decide +kernel
theorem dX0_numberOf_0 : decode cX0_numberOf 0 = .ok (.iconst 0, 1) := by decide +kernel
theorem dX0_numberOf_1 : decode cX0_numberOf 1 = .ok (.istore_n 2, 1) := by decide +kernel
theorem dX0_numberOf_2 : decode cX0_numberOf 2 = .ok (.iload_n 2, 1) := by decide +kernel
theorem dX0_numberOf_3 : decode cX0_numberOf 3 = .ok (.aload_n 0, 1) := by decide +kernel
theorem dX0_numberOf_4 : decode cX0_numberOf 4 = .ok (.getfield 22, 3) := by decide +kernel
theorem dX0_numberOf_7 : decode cX0_numberOf 7 = .ok (.if_icmp .ge 24, 3) := by decide +kernel
theorem dX0_numberOf_10 : decode cX0_numberOf 10 = .ok (.aload_n 0, 1) := by decide +kernel
theorem dX0_numberOf_11 : decode cX0_numberOf 11 = .ok (.iload_n 2, 1) := by decide +kernel
theorem dX0_numberOf_12 : decode cX0_numberOf 12 = .ok (.invokevirtual 63, 3) := by decide +kernel
theorem dX0_numberOf_15 : decode cX0_numberOf 15 = .ok (.iload_n 1, 1) := by decide +kernel
theorem dX0_numberOf_16 : decode cX0_numberOf 16 = .ok (.ishr, 1) := by decide +kernel
theorem dX0_numberOf_17 : decode cX0_numberOf 17 = .ok (.iconst 1, 1) := by decide +kernel
theorem dX0_numberOf_18 : decode cX0_numberOf 18 = .ok (.iand, 1) := by decide +kernel
theorem dX0_numberOf_19 : decode cX0_numberOf 19 = .ok (.iconst 1, 1) := by decide +kernel
theorem dX0_numberOf_20 : decode cX0_numberOf 20 = .ok (.if_icmp .ne 5, 3) := by decide +kernel
theorem dX0_numberOf_23 : decode cX0_numberOf 23 = .ok (.iload_n 2, 1) := by decide +kernel
theorem dX0_numberOf_24 : decode cX0_numberOf 24 = .ok (.ireturn, 1) := by decide +kernel
theorem dX0_numberOf_25 : decode cX0_numberOf 25 = .ok (.iinc 2 1, 3) := by decide +kernel
theorem dX0_numberOf_28 : decode cX0_numberOf 28 = .ok (.goto (-26), 3) := by decide +kernel
theorem dX0_numberOf_31 : decode cX0_numberOf 31 = .ok (.iconst (-1), 1) := by decide +kernel
theorem dX0_numberOf_32 : decode cX0_numberOf 32 = .ok (.ireturn, 1) := by decide +kernel
theorem dX1_init_0 : decode cX1_init 0 = .ok (.aload_n 0, 1) := by decide +kernel
theorem dX1_init_1 : decode cX1_init 1 = .ok (.invokespecial 3, 3) := by decide +kernel
theorem dX1_init_4 : decode cX1_init 4 = .ok (.aload_n 0, 1) := by decide +kernel
theorem dX1_init_5 : decode cX1_init 5 = .ok (.bipush 9, 2) := by decide +kernel
theorem dX1_init_7 : decode cX1_init 7 = .ok (.bipush 11, 2) := by decide +kernel
theorem dX1_init_9 : decode cX1_init 9 = .ok (.multianewarray 9 2, 4) := by decide +kernel
theorem dX1_init_13 : decode cX1_init 13 = .ok (.putfield 11, 3) := by decide +kernel
theorem dX1_init_16 : decode cX1_init 16 = .ok (.aload_n 0, 1) := by decide +kernel
theorem dX1_init_17 : decode cX1_init 17 = .ok (.bipush 9, 2) := by decide +kernel
theorem dX1_init_19 : decode cX1_init 19 = .ok (.bipush 11, 2) := by decide +kernel
theorem dX1_init_21 : decode cX1_init 21 = .ok (.multianewarray 9 2, 4) := by decide +kernel
theorem dX1_init_25 : decode cX1_init 25 = .ok (.putfield 16, 3) := by decide +kernel
theorem dX1_init_28 : decode cX1_init 28 = .ok (.aload_n 0, 1) := by decide +kernel
theorem dX1_init_29 : decode cX1_init 29 = .ok (.aload_n 1, 1) := by decide +kernel
theorem dX1_init_30 : decode cX1_init 30 = .ok (.putfield 19, 3) := by decide +kernel
theorem dX1_init_33 : decode cX1_init 33 = .ok (.aload_n 0, 1) := by decide +kernel
theorem dX1_init_34 : decode cX1_init 34 = .ok (.aload_n 2, 1) := by decide +kernel
theorem dX1_init_35 : decode cX1_init 35 = .ok (.putfield 23, 3) := by decide +kernel
theorem dX1_init_38 : decode cX1_init 38 = .ok (.return_, 1) := by decide +kernel
theorem dX1_part_0 : decode cX1_part 0 = .ok (.aload_n 0, 1) := by decide +kernel
theorem dX1_part_1 : decode cX1_part 1 = .ok (.getfield 23, 3) := by decide +kernel
theorem dX1_part_4 : decode cX1_part 4 = .ok (.invokevirtual 27, 3) := by decide +kernel
theorem dX1_part_7 : decode cX1_part 7 = .ok (.istore_n 2, 1) := by decide +kernel
theorem dX1_part_8 : decode cX1_part 8 = .ok (.iconst 0, 1) := by decide +kernel
theorem dX1_part_9 : decode cX1_part 9 = .ok (.istore_n 3, 1) := by decide +kernel
theorem dX1_part_10 : decode cX1_part 10 = .ok (.iload_n 3, 1) := by decide +kernel
theorem dX1_part_11 : decode cX1_part 11 = .ok (.iload_n 2, 1) := by decide +kernel
theorem dX1_part_12 : decode cX1_part 12 = .ok (.if_icmp .gt 33, 3) := by decide +kernel
theorem dX1_part_15 : decode cX1_part 15 = .ok (.iload_n 3, 1) := by decide +kernel
theorem dX1_part_16 : decode cX1_part 16 = .ok (.bipush 10, 2) := by decide +kernel
theorem dX1_part_18 : decode cX1_part 18 = .ok (.if_icmp .gt 27, 3) := by decide +kernel
theorem dX1_part_21 : decode cX1_part 21 = .ok (.aload_n 0, 1) := by decide +kernel
theorem dX1_part_22 : decode cX1_part 22 = .ok (.getfield 11, 3) := by decide +kernel
theorem dX1_part_25 : decode cX1_part 25 = .ok (.iconst 0, 1) := by decide +kernel
theorem dX1_part_26 : decode cX1_part 26 = .ok (.aaload, 1) := by decide +kernel
theorem dX1_part_27 : decode cX1_part 27 = .ok (.iload_n 3, 1) := by decide +kernel
theorem dX1_part_28 : decode cX1_part 28 = .ok (.iload_n 3, 1) := by decide +kernel
theorem dX1_part_29 : decode cX1_part 29 = .ok (.iload_n 2, 1) := by decide +kernel
theorem dX1_part_30 : decode cX1_part 30 = .ok (.if_icmp .ne 7, 3) := by decide +kernel
theorem dX1_part_33 : decode cX1_part 33 = .ok (.iconst 0, 1) := by decide +kernel
theorem dX1_part_34 : decode cX1_part 34 = .ok (.goto 4, 3) := by decide +kernel
theorem dX1_part_37 : decode cX1_part 37 = .ok (.iconst (-1), 1) := by decide +kernel
theorem dX1_part_38 : decode cX1_part 38 = .ok (.iastore, 1) := by decide +kernel
theorem dX1_part_39 : decode cX1_part 39 = .ok (.iinc 3 1, 3) := by decide +kernel
theorem dX1_part_42 : decode cX1_part 42 = .ok (.goto (-32), 3) := by decide +kernel
theorem dX1_part_45 : decode cX1_part 45 = .ok (.iconst 1, 1) := by decide +kernel
theorem dX1_part_46 : decode cX1_part 46 = .ok (.istore_n 3, 1) := by decide +kernel
theorem dX1_part_47 : decode cX1_part 47 = .ok (.iload_n 3, 1) := by decide +kernel
theorem dX1_part_48 : decode cX1_part 48 = .ok (.iload_n 1, 1) := by decide +kernel
theorem dX1_part_49 : decode cX1_part 49 = .ok (.if_icmp .gt 45, 3) := by decide +kernel
theorem dX1_part_52 : decode cX1_part 52 = .ok (.iload_n 3, 1) := by decide +kernel
theorem dX1_part_53 : decode cX1_part 53 = .ok (.bipush 8, 2) := by decide +kernel
theorem dX1_part_55 : decode cX1_part 55 = .ok (.if_icmp .gt 39, 3) := by decide +kernel
theorem dX1_part_58 : decode cX1_part 58 = .ok (.iconst 0, 1) := by decide +kernel
theorem dX1_part_59 : decode cX1_part 59 = .ok (.istore 4, 2) := by decide +kernel
theorem dX1_part_61 : decode cX1_part 61 = .ok (.iload 4, 2) := by decide +kernel
theorem dX1_part_63 : decode cX1_part 63 = .ok (.iload_n 2, 1) := by decide +kernel
theorem dX1_part_64 : decode cX1_part 64 = .ok (.if_icmp .gt 24, 3) := by decide +kernel
theorem dX1_part_67 : decode cX1_part 67 = .ok (.iload 4, 2) := by decide +kernel
theorem dX1_part_69 : decode cX1_part 69 = .ok (.bipush 10, 2) := by decide +kernel
theorem dX1_part_71 : decode cX1_part 71 = .ok (.if_icmp .gt 17, 3) := by decide +kernel
theorem dX1_part_74 : decode cX1_part 74 = .ok (.aload_n 0, 1) := by decide +kernel
theorem dX1_part_75 : decode cX1_part 75 = .ok (.iload_n 3, 1) := by decide +kernel
theorem dX1_part_76 : decode cX1_part 76 = .ok (.iload 4, 2) := by decide +kernel
theorem dX1_part_78 : decode cX1_part 78 = .ok (.iload_n 2, 1) := by decide +kernel
theorem dX1_part_79 : decode cX1_part 79 = .ok (.invokevirtual 33, 3) := by decide +kernel
theorem dX1_part_82 : decode cX1_part 82 = .ok (.iinc 4 1, 3) := by decide +kernel
theorem dX1_part_85 : decode cX1_part 85 = .ok (.goto (-24), 3) := by decide +kernel
theorem dX1_part_88 : decode cX1_part 88 = .ok (.iinc 3 1, 3) := by decide +kernel
theorem dX1_part_91 : decode cX1_part 91 = .ok (.goto (-44), 3) := by decide +kernel
theorem dX1_part_94 : decode cX1_part 94 = .ok (.return_, 1) := by decide +kernel
theorem dX1_chooseFirst_0 : decode cX1_chooseFirst 0 = .ok (.aload_n 0, 1) := by decide +kernel
theorem dX1_chooseFirst_1 : decode cX1_chooseFirst 1 = .ok (.getfield 11, 3) := by decide +kernel
theorem dX1_chooseFirst_4 : decode cX1_chooseFirst 4 = .ok (.iload_n 1, 1) := by decide +kernel
theorem dX1_chooseFirst_5 : decode cX1_chooseFirst 5 = .ok (.aaload, 1) := by decide +kernel
theorem dX1_chooseFirst_6 : decode cX1_chooseFirst 6 = .ok (.iload_n 2, 1) := by decide +kernel
theorem dX1_chooseFirst_7 : decode cX1_chooseFirst 7 = .ok (.iconst (-1), 1) := by decide +kernel
theorem dX1_chooseFirst_8 : decode cX1_chooseFirst 8 = .ok (.iastore, 1) := by decide +kernel
theorem dX1_chooseFirst_9 : decode cX1_chooseFirst 9 = .ok (.iload_n 2, 1) := by decide +kernel
theorem dX1_chooseFirst_10 : decode cX1_chooseFirst 10 = .ok (.iconst 1, 1) := by decide +kernel
theorem dX1_chooseFirst_11 : decode cX1_chooseFirst 11 = .ok (.iadd, 1) := by decide +kernel
theorem dX1_chooseFirst_12 : decode cX1_chooseFirst 12 = .ok (.istore 4, 2) := by decide +kernel
theorem dX1_chooseFirst_14 : decode cX1_chooseFirst 14 = .ok (.iload 4, 2) := by decide +kernel
theorem dX1_chooseFirst_16 : decode cX1_chooseFirst 16 = .ok (.iload_n 3, 1) := by decide +kernel
theorem dX1_chooseFirst_17 : decode cX1_chooseFirst 17 = .ok (.if_icmp .gt 110, 3) := by decide +kernel
theorem dX1_chooseFirst_20 : decode cX1_chooseFirst 20 = .ok (.aload_n 0, 1) := by decide +kernel
theorem dX1_chooseFirst_21 : decode cX1_chooseFirst 21 = .ok (.getfield 19, 3) := by decide +kernel
theorem dX1_chooseFirst_24 : decode cX1_chooseFirst 24 = .ok (.aload_n 0, 1) := by decide +kernel
theorem dX1_chooseFirst_25 : decode cX1_chooseFirst 25 = .ok (.getfield 23, 3) := by decide +kernel
theorem dX1_chooseFirst_28 : decode cX1_chooseFirst 28 = .ok (.iload_n 2, 1) := by decide +kernel
theorem dX1_chooseFirst_29 : decode cX1_chooseFirst 29 = .ok (.iload 4, 2) := by decide +kernel
theorem dX1_chooseFirst_31 : decode cX1_chooseFirst 31 = .ok (.invokevirtual 37, 3) := by decide +kernel
theorem dX1_chooseFirst_34 : decode cX1_chooseFirst 34 = .ok (.iconst 0, 1) := by decide +kernel
theorem dX1_chooseFirst_35 : decode cX1_chooseFirst 35 = .ok (.invokevirtual 43, 3) := by decide +kernel
theorem dX1_chooseFirst_38 : decode cX1_chooseFirst 38 = .ok (.istore 5, 2) := by decide +kernel
theorem dX1_chooseFirst_40 : decode cX1_chooseFirst 40 = .ok (.aload_n 0, 1) := by decide +kernel
theorem dX1_chooseFirst_41 : decode cX1_chooseFirst 41 = .ok (.getfield 11, 3) := by decide +kernel
theorem dX1_chooseFirst_44 : decode cX1_chooseFirst 44 = .ok (.iload_n 1, 1) := by decide +kernel
theorem dX1_chooseFirst_45 : decode cX1_chooseFirst 45 = .ok (.iconst 1, 1) := by decide +kernel
theorem dX1_chooseFirst_46 : decode cX1_chooseFirst 46 = .ok (.isub, 1) := by decide +kernel
theorem dX1_chooseFirst_47 : decode cX1_chooseFirst 47 = .ok (.aaload, 1) := by decide +kernel
theorem dX1_chooseFirst_48 : decode cX1_chooseFirst 48 = .ok (.iload 4, 2) := by decide +kernel
theorem dX1_chooseFirst_50 : decode cX1_chooseFirst 50 = .ok (.iaload, 1) := by decide +kernel
theorem dX1_chooseFirst_51 : decode cX1_chooseFirst 51 = .ok (.iload 5, 2) := by decide +kernel
theorem dX1_chooseFirst_53 : decode cX1_chooseFirst 53 = .ok (.iload 5, 2) := by decide +kernel
theorem dX1_chooseFirst_55 : decode cX1_chooseFirst 55 = .ok (.imul, 1) := by decide +kernel
theorem dX1_chooseFirst_56 : decode cX1_chooseFirst 56 = .ok (.iadd, 1) := by decide +kernel
theorem dX1_chooseFirst_57 : decode cX1_chooseFirst 57 = .ok (.istore 6, 2) := by decide +kernel
theorem dX1_chooseFirst_59 : decode cX1_chooseFirst 59 = .ok (.aload_n 0, 1) := by decide +kernel
theorem dX1_chooseFirst_60 : decode cX1_chooseFirst 60 = .ok (.getfield 11, 3) := by decide +kernel
theorem dX1_chooseFirst_63 : decode cX1_chooseFirst 63 = .ok (.iload_n 1, 1) := by decide +kernel
theorem dX1_chooseFirst_64 : decode cX1_chooseFirst 64 = .ok (.iconst 1, 1) := by decide +kernel
theorem dX1_chooseFirst_65 : decode cX1_chooseFirst 65 = .ok (.isub, 1) := by decide +kernel
theorem dX1_chooseFirst_66 : decode cX1_chooseFirst 66 = .ok (.aaload, 1) := by decide +kernel
theorem dX1_chooseFirst_67 : decode cX1_chooseFirst 67 = .ok (.iload 4, 2) := by decide +kernel
theorem dX1_chooseFirst_69 : decode cX1_chooseFirst 69 = .ok (.iaload, 1) := by decide +kernel
theorem dX1_chooseFirst_70 : decode cX1_chooseFirst 70 = .ok (.iconst (-1), 1) := by decide +kernel
theorem dX1_chooseFirst_71 : decode cX1_chooseFirst 71 = .ok (.if_icmp .eq 50, 3) := by decide +kernel
theorem dX1_chooseFirst_74 : decode cX1_chooseFirst 74 = .ok (.aload_n 0, 1) := by decide +kernel
theorem dX1_chooseFirst_75 : decode cX1_chooseFirst 75 = .ok (.getfield 11, 3) := by decide +kernel
theorem dX1_chooseFirst_78 : decode cX1_chooseFirst 78 = .ok (.iload_n 1, 1) := by decide +kernel
theorem dX1_chooseFirst_79 : decode cX1_chooseFirst 79 = .ok (.aaload, 1) := by decide +kernel
theorem dX1_chooseFirst_80 : decode cX1_chooseFirst 80 = .ok (.iload_n 2, 1) := by decide +kernel
theorem dX1_chooseFirst_81 : decode cX1_chooseFirst 81 = .ok (.iaload, 1) := by decide +kernel
theorem dX1_chooseFirst_82 : decode cX1_chooseFirst 82 = .ok (.iconst (-1), 1) := by decide +kernel
theorem dX1_chooseFirst_83 : decode cX1_chooseFirst 83 = .ok (.if_icmp .eq 16, 3) := by decide +kernel
theorem dX1_chooseFirst_86 : decode cX1_chooseFirst 86 = .ok (.iload 6, 2) := by decide +kernel
theorem dX1_chooseFirst_88 : decode cX1_chooseFirst 88 = .ok (.aload_n 0, 1) := by decide +kernel
theorem dX1_chooseFirst_89 : decode cX1_chooseFirst 89 = .ok (.getfield 11, 3) := by decide +kernel
theorem dX1_chooseFirst_92 : decode cX1_chooseFirst 92 = .ok (.iload_n 1, 1) := by decide +kernel
theorem dX1_chooseFirst_93 : decode cX1_chooseFirst 93 = .ok (.aaload, 1) := by decide +kernel
theorem dX1_chooseFirst_94 : decode cX1_chooseFirst 94 = .ok (.iload_n 2, 1) := by decide +kernel
theorem dX1_chooseFirst_95 : decode cX1_chooseFirst 95 = .ok (.iaload, 1) := by decide +kernel
theorem dX1_chooseFirst_96 : decode cX1_chooseFirst 96 = .ok (.if_icmp .ge 25, 3) := by decide +kernel
theorem dX1_chooseFirst_99 : decode cX1_chooseFirst 99 = .ok (.aload_n 0, 1) := by decide +kernel
theorem dX1_chooseFirst_100 : decode cX1_chooseFirst 100 = .ok (.getfield 11, 3) := by decide +kernel
theorem dX1_chooseFirst_103 : decode cX1_chooseFirst 103 = .ok (.iload_n 1, 1) := by decide +kernel
theorem dX1_chooseFirst_104 : decode cX1_chooseFirst 104 = .ok (.aaload, 1) := by decide +kernel
theorem dX1_chooseFirst_105 : decode cX1_chooseFirst 105 = .ok (.iload_n 2, 1) := by decide +kernel
theorem dX1_chooseFirst_106 : decode cX1_chooseFirst 106 = .ok (.iload 6, 2) := by decide +kernel
theorem dX1_chooseFirst_108 : decode cX1_chooseFirst 108 = .ok (.iastore, 1) := by decide +kernel
theorem dX1_chooseFirst_109 : decode cX1_chooseFirst 109 = .ok (.aload_n 0, 1) := by decide +kernel
theorem dX1_chooseFirst_110 : decode cX1_chooseFirst 110 = .ok (.getfield 16, 3) := by decide +kernel
theorem dX1_chooseFirst_113 : decode cX1_chooseFirst 113 = .ok (.iload_n 1, 1) := by decide +kernel
theorem dX1_chooseFirst_114 : decode cX1_chooseFirst 114 = .ok (.aaload, 1) := by decide +kernel
theorem dX1_chooseFirst_115 : decode cX1_chooseFirst 115 = .ok (.iload_n 2, 1) := by decide +kernel
theorem dX1_chooseFirst_116 : decode cX1_chooseFirst 116 = .ok (.iload 4, 2) := by decide +kernel
theorem dX1_chooseFirst_118 : decode cX1_chooseFirst 118 = .ok (.iload_n 2, 1) := by decide +kernel
theorem dX1_chooseFirst_119 : decode cX1_chooseFirst 119 = .ok (.isub, 1) := by decide +kernel
theorem dX1_chooseFirst_120 : decode cX1_chooseFirst 120 = .ok (.iastore, 1) := by decide +kernel
theorem dX1_chooseFirst_121 : decode cX1_chooseFirst 121 = .ok (.iinc 4 1, 3) := by decide +kernel
theorem dX1_chooseFirst_124 : decode cX1_chooseFirst 124 = .ok (.goto (-110), 3) := by decide +kernel
theorem dX1_chooseFirst_127 : decode cX1_chooseFirst 127 = .ok (.return_, 1) := by decide +kernel
theorem dX1_uneven_0 : decode cX1_uneven 0 = .ok (.iload_n 1, 1) := by decide +kernel
theorem dX1_uneven_1 : decode cX1_uneven 1 = .ok (.ifCond .lt 9, 3) := by decide +kernel
theorem dX1_uneven_4 : decode cX1_uneven 4 = .ok (.iload_n 1, 1) := by decide +kernel
theorem dX1_uneven_5 : decode cX1_uneven 5 = .ok (.bipush 8, 2) := by decide +kernel
theorem dX1_uneven_7 : decode cX1_uneven 7 = .ok (.if_icmp .le 7, 3) := by decide +kernel
theorem dX1_uneven_10 : decode cX1_uneven 10 = .ok (.iconst (-1), 1) := by decide +kernel
theorem dX1_uneven_11 : decode cX1_uneven 11 = .ok (.goto 11, 3) := by decide +kernel
theorem dX1_uneven_14 : decode cX1_uneven 14 = .ok (.aload_n 0, 1) := by decide +kernel
theorem dX1_uneven_15 : decode cX1_uneven 15 = .ok (.getfield 11, 3) := by decide +kernel
theorem dX1_uneven_18 : decode cX1_uneven 18 = .ok (.iload_n 1, 1) := by decide +kernel
theorem dX1_uneven_19 : decode cX1_uneven 19 = .ok (.aaload, 1) := by decide +kernel
theorem dX1_uneven_20 : decode cX1_uneven 20 = .ok (.iconst 0, 1) := by decide +kernel
theorem dX1_uneven_21 : decode cX1_uneven 21 = .ok (.iaload, 1) := by decide +kernel
theorem dX1_uneven_22 : decode cX1_uneven 22 = .ok (.ireturn, 1) := by decide +kernel
theorem dX1_scenesIn_0 : decode cX1_scenesIn 0 = .ok (.iconst 0, 1) := by decide +kernel
theorem dX1_scenesIn_1 : decode cX1_scenesIn 1 = .ok (.istore_n 3, 1) := by decide +kernel
theorem dX1_scenesIn_2 : decode cX1_scenesIn 2 = .ok (.iconst 0, 1) := by decide +kernel
theorem dX1_scenesIn_3 : decode cX1_scenesIn 3 = .ok (.istore 4, 2) := by decide +kernel
theorem dX1_scenesIn_5 : decode cX1_scenesIn 5 = .ok (.iload 4, 2) := by decide +kernel
theorem dX1_scenesIn_7 : decode cX1_scenesIn 7 = .ok (.iload_n 2, 1) := by decide +kernel
theorem dX1_scenesIn_8 : decode cX1_scenesIn 8 = .ok (.if_icmp .ge 29, 3) := by decide +kernel
theorem dX1_scenesIn_11 : decode cX1_scenesIn 11 = .ok (.iload_n 3, 1) := by decide +kernel
theorem dX1_scenesIn_12 : decode cX1_scenesIn 12 = .ok (.bipush 10, 2) := by decide +kernel
theorem dX1_scenesIn_14 : decode cX1_scenesIn 14 = .ok (.if_icmp .gt 23, 3) := by decide +kernel
theorem dX1_scenesIn_17 : decode cX1_scenesIn 17 = .ok (.iload_n 3, 1) := by decide +kernel
theorem dX1_scenesIn_18 : decode cX1_scenesIn 18 = .ok (.aload_n 0, 1) := by decide +kernel
theorem dX1_scenesIn_19 : decode cX1_scenesIn 19 = .ok (.getfield 16, 3) := by decide +kernel
theorem dX1_scenesIn_22 : decode cX1_scenesIn 22 = .ok (.iload_n 1, 1) := by decide +kernel
theorem dX1_scenesIn_23 : decode cX1_scenesIn 23 = .ok (.iload 4, 2) := by decide +kernel
theorem dX1_scenesIn_25 : decode cX1_scenesIn 25 = .ok (.isub, 1) := by decide +kernel
theorem dX1_scenesIn_26 : decode cX1_scenesIn 26 = .ok (.aaload, 1) := by decide +kernel
theorem dX1_scenesIn_27 : decode cX1_scenesIn 27 = .ok (.iload_n 3, 1) := by decide +kernel
theorem dX1_scenesIn_28 : decode cX1_scenesIn 28 = .ok (.iaload, 1) := by decide +kernel
theorem dX1_scenesIn_29 : decode cX1_scenesIn 29 = .ok (.iadd, 1) := by decide +kernel
theorem dX1_scenesIn_30 : decode cX1_scenesIn 30 = .ok (.istore_n 3, 1) := by decide +kernel
theorem dX1_scenesIn_31 : decode cX1_scenesIn 31 = .ok (.iinc 4 1, 3) := by decide +kernel
theorem dX1_scenesIn_34 : decode cX1_scenesIn 34 = .ok (.goto (-29), 3) := by decide +kernel
theorem dX1_scenesIn_37 : decode cX1_scenesIn 37 = .ok (.iload_n 3, 1) := by decide +kernel
theorem dX1_scenesIn_38 : decode cX1_scenesIn 38 = .ok (.bipush 10, 2) := by decide +kernel
theorem dX1_scenesIn_40 : decode cX1_scenesIn 40 = .ok (.if_icmp .le 7, 3) := by decide +kernel
theorem dX1_scenesIn_43 : decode cX1_scenesIn 43 = .ok (.iconst 0, 1) := by decide +kernel
theorem dX1_scenesIn_44 : decode cX1_scenesIn 44 = .ok (.goto 13, 3) := by decide +kernel
theorem dX1_scenesIn_47 : decode cX1_scenesIn 47 = .ok (.aload_n 0, 1) := by decide +kernel
theorem dX1_scenesIn_48 : decode cX1_scenesIn 48 = .ok (.getfield 16, 3) := by decide +kernel
theorem dX1_scenesIn_51 : decode cX1_scenesIn 51 = .ok (.iload_n 1, 1) := by decide +kernel
theorem dX1_scenesIn_52 : decode cX1_scenesIn 52 = .ok (.iload_n 2, 1) := by decide +kernel
theorem dX1_scenesIn_53 : decode cX1_scenesIn 53 = .ok (.isub, 1) := by decide +kernel
theorem dX1_scenesIn_54 : decode cX1_scenesIn 54 = .ok (.aaload, 1) := by decide +kernel
theorem dX1_scenesIn_55 : decode cX1_scenesIn 55 = .ok (.iload_n 3, 1) := by decide +kernel
theorem dX1_scenesIn_56 : decode cX1_scenesIn 56 = .ok (.iaload, 1) := by decide +kernel
theorem dX1_scenesIn_57 : decode cX1_scenesIn 57 = .ok (.ireturn, 1) := by decide +kernel
theorem dX2_init_0 : decode cX2_init 0 = .ok (.aload_n 0, 1) := by decide +kernel
theorem dX2_init_1 : decode cX2_init 1 = .ok (.invokespecial 3, 3) := by decide +kernel
theorem dX2_init_4 : decode cX2_init 4 = .ok (.aload_n 0, 1) := by decide +kernel
theorem dX2_init_5 : decode cX2_init 5 = .ok (.sipush 1024, 3) := by decide +kernel
theorem dX2_init_8 : decode cX2_init 8 = .ok (.newarray .int, 2) := by decide +kernel
theorem dX2_init_10 : decode cX2_init 10 = .ok (.putfield 9, 3) := by decide +kernel
theorem dX2_init_13 : decode cX2_init 13 = .ok (.aload_n 0, 1) := by decide +kernel
theorem dX2_init_14 : decode cX2_init 14 = .ok (.bipush 11, 2) := by decide +kernel
theorem dX2_init_16 : decode cX2_init 16 = .ok (.sipush 1024, 3) := by decide +kernel
theorem dX2_init_19 : decode cX2_init 19 = .ok (.multianewarray 15 2, 4) := by decide +kernel
theorem dX2_init_23 : decode cX2_init 23 = .ok (.putfield 17, 3) := by decide +kernel
theorem dX2_init_26 : decode cX2_init 26 = .ok (.aload_n 0, 1) := by decide +kernel
theorem dX2_init_27 : decode cX2_init 27 = .ok (.bipush 11, 2) := by decide +kernel
theorem dX2_init_29 : decode cX2_init 29 = .ok (.sipush 1024, 3) := by decide +kernel
theorem dX2_init_32 : decode cX2_init 32 = .ok (.multianewarray 15 2, 4) := by decide +kernel
theorem dX2_init_36 : decode cX2_init 36 = .ok (.putfield 20, 3) := by decide +kernel
theorem dX2_init_39 : decode cX2_init 39 = .ok (.aload_n 0, 1) := by decide +kernel
theorem dX2_init_40 : decode cX2_init 40 = .ok (.iconst (-1), 1) := by decide +kernel
theorem dX2_init_41 : decode cX2_init 41 = .ok (.putfield 23, 3) := by decide +kernel
theorem dX2_init_44 : decode cX2_init 44 = .ok (.aload_n 0, 1) := by decide +kernel
theorem dX2_init_45 : decode cX2_init 45 = .ok (.bipush 11, 2) := by decide +kernel
theorem dX2_init_47 : decode cX2_init 47 = .ok (.sipush 1024, 3) := by decide +kernel
theorem dX2_init_50 : decode cX2_init 50 = .ok (.multianewarray 15 2, 4) := by decide +kernel
theorem dX2_init_54 : decode cX2_init 54 = .ok (.putfield 27, 3) := by decide +kernel
theorem dX2_init_57 : decode cX2_init 57 = .ok (.aload_n 0, 1) := by decide +kernel
theorem dX2_init_58 : decode cX2_init 58 = .ok (.iconst (-1), 1) := by decide +kernel
theorem dX2_init_59 : decode cX2_init 59 = .ok (.putfield 30, 3) := by decide +kernel
theorem dX2_init_62 : decode cX2_init 62 = .ok (.aload_n 0, 1) := by decide +kernel
theorem dX2_init_63 : decode cX2_init 63 = .ok (.aload_n 1, 1) := by decide +kernel
theorem dX2_init_64 : decode cX2_init 64 = .ok (.putfield 33, 3) := by decide +kernel
theorem dX2_init_67 : decode cX2_init 67 = .ok (.aload_n 0, 1) := by decide +kernel
theorem dX2_init_68 : decode cX2_init 68 = .ok (.aload_n 2, 1) := by decide +kernel
theorem dX2_init_69 : decode cX2_init 69 = .ok (.putfield 37, 3) := by decide +kernel
theorem dX2_init_72 : decode cX2_init 72 = .ok (.aload_n 0, 1) := by decide +kernel
theorem dX2_init_73 : decode cX2_init 73 = .ok (.aload_n 3, 1) := by decide +kernel
theorem dX2_init_74 : decode cX2_init 74 = .ok (.putfield 41, 3) := by decide +kernel
theorem dX2_init_77 : decode cX2_init 77 = .ok (.return_, 1) := by decide +kernel
theorem dX2_forget_0 : decode cX2_forget 0 = .ok (.aload_n 0, 1) := by decide +kernel
theorem dX2_forget_1 : decode cX2_forget 1 = .ok (.iconst (-1), 1) := by decide +kernel
theorem dX2_forget_2 : decode cX2_forget 2 = .ok (.putfield 23, 3) := by decide +kernel
theorem dX2_forget_5 : decode cX2_forget 5 = .ok (.aload_n 0, 1) := by decide +kernel
theorem dX2_forget_6 : decode cX2_forget 6 = .ok (.iconst (-1), 1) := by decide +kernel
theorem dX2_forget_7 : decode cX2_forget 7 = .ok (.putfield 30, 3) := by decide +kernel
theorem dX2_forget_10 : decode cX2_forget 10 = .ok (.return_, 1) := by decide +kernel
theorem dX2_worthOfBest_0 : decode cX2_worthOfBest 0 = .ok (.iload_n 1, 1) := by decide +kernel
theorem dX2_worthOfBest_1 : decode cX2_worthOfBest 1 = .ok (.ifCond .lt 9, 3) := by decide +kernel
theorem dX2_worthOfBest_4 : decode cX2_worthOfBest 4 = .ok (.iload_n 1, 1) := by decide +kernel
theorem dX2_worthOfBest_5 : decode cX2_worthOfBest 5 = .ok (.bipush 10, 2) := by decide +kernel
theorem dX2_worthOfBest_7 : decode cX2_worthOfBest 7 = .ok (.if_icmp .le 7, 3) := by decide +kernel
theorem dX2_worthOfBest_10 : decode cX2_worthOfBest 10 = .ok (.iconst (-1), 1) := by decide +kernel
theorem dX2_worthOfBest_11 : decode cX2_worthOfBest 11 = .ok (.goto 11, 3) := by decide +kernel
theorem dX2_worthOfBest_14 : decode cX2_worthOfBest 14 = .ok (.aload_n 0, 1) := by decide +kernel
theorem dX2_worthOfBest_15 : decode cX2_worthOfBest 15 = .ok (.getfield 17, 3) := by decide +kernel
theorem dX2_worthOfBest_18 : decode cX2_worthOfBest 18 = .ok (.iload_n 1, 1) := by decide +kernel
theorem dX2_worthOfBest_19 : decode cX2_worthOfBest 19 = .ok (.aaload, 1) := by decide +kernel
theorem dX2_worthOfBest_20 : decode cX2_worthOfBest 20 = .ok (.iconst 0, 1) := by decide +kernel
theorem dX2_worthOfBest_21 : decode cX2_worthOfBest 21 = .ok (.iaload, 1) := by decide +kernel
theorem dX2_worthOfBest_22 : decode cX2_worthOfBest 22 = .ok (.ireturn, 1) := by decide +kernel
theorem dX2_partOfBest_0 : decode cX2_partOfBest 0 = .ok (.iload_n 2, 1) := by decide +kernel
theorem dX2_partOfBest_1 : decode cX2_partOfBest 1 = .ok (.ifCond .lt 17, 3) := by decide +kernel
theorem dX2_partOfBest_4 : decode cX2_partOfBest 4 = .ok (.iload_n 2, 1) := by decide +kernel
theorem dX2_partOfBest_5 : decode cX2_partOfBest 5 = .ok (.iload_n 1, 1) := by decide +kernel
theorem dX2_partOfBest_6 : decode cX2_partOfBest 6 = .ok (.if_icmp .ge 12, 3) := by decide +kernel
theorem dX2_partOfBest_9 : decode cX2_partOfBest 9 = .ok (.aload_n 0, 1) := by decide +kernel
theorem dX2_partOfBest_10 : decode cX2_partOfBest 10 = .ok (.iload_n 1, 1) := by decide +kernel
theorem dX2_partOfBest_11 : decode cX2_partOfBest 11 = .ok (.invokevirtual 45, 3) := by decide +kernel
theorem dX2_partOfBest_14 : decode cX2_partOfBest 14 = .ok (.iconst (-1), 1) := by decide +kernel
theorem dX2_partOfBest_15 : decode cX2_partOfBest 15 = .ok (.if_icmp .ne 5, 3) := by decide +kernel
theorem dX2_partOfBest_18 : decode cX2_partOfBest 18 = .ok (.iconst (-1), 1) := by decide +kernel
theorem dX2_partOfBest_19 : decode cX2_partOfBest 19 = .ok (.ireturn, 1) := by decide +kernel
theorem dX2_partOfBest_20 : decode cX2_partOfBest 20 = .ok (.iconst 0, 1) := by decide +kernel
theorem dX2_partOfBest_21 : decode cX2_partOfBest 21 = .ok (.istore_n 3, 1) := by decide +kernel
theorem dX2_partOfBest_22 : decode cX2_partOfBest 22 = .ok (.iconst 0, 1) := by decide +kernel
theorem dX2_partOfBest_23 : decode cX2_partOfBest 23 = .ok (.istore 4, 2) := by decide +kernel
theorem dX2_partOfBest_25 : decode cX2_partOfBest 25 = .ok (.iload 4, 2) := by decide +kernel
theorem dX2_partOfBest_27 : decode cX2_partOfBest 27 = .ok (.iload_n 2, 1) := by decide +kernel
theorem dX2_partOfBest_28 : decode cX2_partOfBest 28 = .ok (.if_icmp .ge 23, 3) := by decide +kernel
theorem dX2_partOfBest_31 : decode cX2_partOfBest 31 = .ok (.iload_n 3, 1) := by decide +kernel
theorem dX2_partOfBest_32 : decode cX2_partOfBest 32 = .ok (.aload_n 0, 1) := by decide +kernel
theorem dX2_partOfBest_33 : decode cX2_partOfBest 33 = .ok (.getfield 20, 3) := by decide +kernel
theorem dX2_partOfBest_36 : decode cX2_partOfBest 36 = .ok (.iload_n 1, 1) := by decide +kernel
theorem dX2_partOfBest_37 : decode cX2_partOfBest 37 = .ok (.iload 4, 2) := by decide +kernel
theorem dX2_partOfBest_39 : decode cX2_partOfBest 39 = .ok (.isub, 1) := by decide +kernel
theorem dX2_partOfBest_40 : decode cX2_partOfBest 40 = .ok (.aaload, 1) := by decide +kernel
theorem dX2_partOfBest_41 : decode cX2_partOfBest 41 = .ok (.iload_n 3, 1) := by decide +kernel
theorem dX2_partOfBest_42 : decode cX2_partOfBest 42 = .ok (.iaload, 1) := by decide +kernel
theorem dX2_partOfBest_43 : decode cX2_partOfBest 43 = .ok (.ior, 1) := by decide +kernel
theorem dX2_partOfBest_44 : decode cX2_partOfBest 44 = .ok (.istore_n 3, 1) := by decide +kernel
theorem dX2_partOfBest_45 : decode cX2_partOfBest 45 = .ok (.iinc 4 1, 3) := by decide +kernel
theorem dX2_partOfBest_48 : decode cX2_partOfBest 48 = .ok (.goto (-23), 3) := by decide +kernel
theorem dX2_partOfBest_51 : decode cX2_partOfBest 51 = .ok (.aload_n 0, 1) := by decide +kernel
theorem dX2_partOfBest_52 : decode cX2_partOfBest 52 = .ok (.getfield 20, 3) := by decide +kernel
theorem dX2_partOfBest_55 : decode cX2_partOfBest 55 = .ok (.iload_n 1, 1) := by decide +kernel
theorem dX2_partOfBest_56 : decode cX2_partOfBest 56 = .ok (.iload_n 2, 1) := by decide +kernel
theorem dX2_partOfBest_57 : decode cX2_partOfBest 57 = .ok (.isub, 1) := by decide +kernel
theorem dX2_partOfBest_58 : decode cX2_partOfBest 58 = .ok (.aaload, 1) := by decide +kernel
theorem dX2_partOfBest_59 : decode cX2_partOfBest 59 = .ok (.iload_n 3, 1) := by decide +kernel
theorem dX2_partOfBest_60 : decode cX2_partOfBest 60 = .ok (.iaload, 1) := by decide +kernel
theorem dX2_partOfBest_61 : decode cX2_partOfBest 61 = .ok (.ireturn, 1) := by decide +kernel
theorem dX2_kindest_0 : decode cX2_kindest 0 = .ok (.iconst (-1), 1) := by decide +kernel
theorem dX2_kindest_1 : decode cX2_kindest 1 = .ok (.istore_n 3, 1) := by decide +kernel
theorem dX2_kindest_2 : decode cX2_kindest 2 = .ok (.iconst 0, 1) := by decide +kernel
theorem dX2_kindest_3 : decode cX2_kindest 3 = .ok (.istore 4, 2) := by decide +kernel
theorem dX2_kindest_5 : decode cX2_kindest 5 = .ok (.iload 4, 2) := by decide +kernel
theorem dX2_kindest_7 : decode cX2_kindest 7 = .ok (.iload_n 2, 1) := by decide +kernel
theorem dX2_kindest_8 : decode cX2_kindest 8 = .ok (.if_icmp .gt 51, 3) := by decide +kernel
theorem dX2_kindest_11 : decode cX2_kindest 11 = .ok (.iload_n 1, 1) := by decide +kernel
theorem dX2_kindest_12 : decode cX2_kindest 12 = .ok (.bipush 10, 2) := by decide +kernel
theorem dX2_kindest_14 : decode cX2_kindest 14 = .ok (.if_icmp .gt 45, 3) := by decide +kernel
theorem dX2_kindest_17 : decode cX2_kindest 17 = .ok (.iload 4, 2) := by decide +kernel
theorem dX2_kindest_19 : decode cX2_kindest 19 = .ok (.iload_n 2, 1) := by decide +kernel
theorem dX2_kindest_20 : decode cX2_kindest 20 = .ok (.iconst (-1), 1) := by decide +kernel
theorem dX2_kindest_21 : decode cX2_kindest 21 = .ok (.ixor, 1) := by decide +kernel
theorem dX2_kindest_22 : decode cX2_kindest 22 = .ok (.iand, 1) := by decide +kernel
theorem dX2_kindest_23 : decode cX2_kindest 23 = .ok (.ifCond .ne 30, 3) := by decide +kernel
theorem dX2_kindest_26 : decode cX2_kindest 26 = .ok (.aload_n 0, 1) := by decide +kernel
theorem dX2_kindest_27 : decode cX2_kindest 27 = .ok (.getfield 27, 3) := by decide +kernel
theorem dX2_kindest_30 : decode cX2_kindest 30 = .ok (.iload_n 1, 1) := by decide +kernel
theorem dX2_kindest_31 : decode cX2_kindest 31 = .ok (.aaload, 1) := by decide +kernel
theorem dX2_kindest_32 : decode cX2_kindest 32 = .ok (.iload 4, 2) := by decide +kernel
theorem dX2_kindest_34 : decode cX2_kindest 34 = .ok (.iaload, 1) := by decide +kernel
theorem dX2_kindest_35 : decode cX2_kindest 35 = .ok (.iconst (-1), 1) := by decide +kernel
theorem dX2_kindest_36 : decode cX2_kindest 36 = .ok (.if_icmp .eq 17, 3) := by decide +kernel
theorem dX2_kindest_39 : decode cX2_kindest 39 = .ok (.aload_n 0, 1) := by decide +kernel
theorem dX2_kindest_40 : decode cX2_kindest 40 = .ok (.iload_n 1, 1) := by decide +kernel
theorem dX2_kindest_41 : decode cX2_kindest 41 = .ok (.iload 4, 2) := by decide +kernel
theorem dX2_kindest_43 : decode cX2_kindest 43 = .ok (.iload_n 3, 1) := by decide +kernel
theorem dX2_kindest_44 : decode cX2_kindest 44 = .ok (.invokevirtual 49, 3) := by decide +kernel
theorem dX2_kindest_47 : decode cX2_kindest 47 = .ok (.ifCond .eq 6, 3) := by decide +kernel
theorem dX2_kindest_50 : decode cX2_kindest 50 = .ok (.iload 4, 2) := by decide +kernel
theorem dX2_kindest_52 : decode cX2_kindest 52 = .ok (.istore_n 3, 1) := by decide +kernel
theorem dX2_kindest_53 : decode cX2_kindest 53 = .ok (.iinc 4 1, 3) := by decide +kernel
theorem dX2_kindest_56 : decode cX2_kindest 56 = .ok (.goto (-51), 3) := by decide +kernel
theorem dX2_kindest_59 : decode cX2_kindest 59 = .ok (.iload_n 3, 1) := by decide +kernel
theorem dX2_kindest_60 : decode cX2_kindest 60 = .ok (.ireturn, 1) := by decide +kernel
theorem dX2_isKinder_0 : decode cX2_isKinder 0 = .ok (.iload_n 3, 1) := by decide +kernel
theorem dX2_isKinder_1 : decode cX2_isKinder 1 = .ok (.iconst (-1), 1) := by decide +kernel
theorem dX2_isKinder_2 : decode cX2_isKinder 2 = .ok (.if_icmp .ne 5, 3) := by decide +kernel
theorem dX2_isKinder_5 : decode cX2_isKinder 5 = .ok (.iconst 1, 1) := by decide +kernel
theorem dX2_isKinder_6 : decode cX2_isKinder 6 = .ok (.ireturn, 1) := by decide +kernel
theorem dX2_isKinder_7 : decode cX2_isKinder 7 = .ok (.iload_n 2, 1) := by decide +kernel
theorem dX2_isKinder_8 : decode cX2_isKinder 8 = .ok (.invokestatic 53, 3) := by decide +kernel
theorem dX2_isKinder_11 : decode cX2_isKinder 11 = .ok (.iload_n 3, 1) := by decide +kernel
theorem dX2_isKinder_12 : decode cX2_isKinder 12 = .ok (.invokestatic 53, 3) := by decide +kernel
theorem dX2_isKinder_15 : decode cX2_isKinder 15 = .ok (.isub, 1) := by decide +kernel
theorem dX2_isKinder_16 : decode cX2_isKinder 16 = .ok (.istore 4, 2) := by decide +kernel
theorem dX2_isKinder_18 : decode cX2_isKinder 18 = .ok (.iload 4, 2) := by decide +kernel
theorem dX2_isKinder_20 : decode cX2_isKinder 20 = .ok (.ifCond .gt 27, 3) := by decide +kernel
theorem dX2_isKinder_23 : decode cX2_isKinder 23 = .ok (.iload 4, 2) := by decide +kernel
theorem dX2_isKinder_25 : decode cX2_isKinder 25 = .ok (.ifCond .ne 26, 3) := by decide +kernel
theorem dX2_isKinder_28 : decode cX2_isKinder 28 = .ok (.aload_n 0, 1) := by decide +kernel
theorem dX2_isKinder_29 : decode cX2_isKinder 29 = .ok (.getfield 27, 3) := by decide +kernel
theorem dX2_isKinder_32 : decode cX2_isKinder 32 = .ok (.iload_n 1, 1) := by decide +kernel
theorem dX2_isKinder_33 : decode cX2_isKinder 33 = .ok (.aaload, 1) := by decide +kernel
theorem dX2_isKinder_34 : decode cX2_isKinder 34 = .ok (.iload_n 2, 1) := by decide +kernel
theorem dX2_isKinder_35 : decode cX2_isKinder 35 = .ok (.iaload, 1) := by decide +kernel
theorem dX2_isKinder_36 : decode cX2_isKinder 36 = .ok (.aload_n 0, 1) := by decide +kernel
theorem dX2_isKinder_37 : decode cX2_isKinder 37 = .ok (.getfield 27, 3) := by decide +kernel
theorem dX2_isKinder_40 : decode cX2_isKinder 40 = .ok (.iload_n 1, 1) := by decide +kernel
theorem dX2_isKinder_41 : decode cX2_isKinder 41 = .ok (.aaload, 1) := by decide +kernel
theorem dX2_isKinder_42 : decode cX2_isKinder 42 = .ok (.iload_n 3, 1) := by decide +kernel
theorem dX2_isKinder_43 : decode cX2_isKinder 43 = .ok (.iaload, 1) := by decide +kernel
theorem dX2_isKinder_44 : decode cX2_isKinder 44 = .ok (.if_icmp .le 7, 3) := by decide +kernel
theorem dX2_isKinder_47 : decode cX2_isKinder 47 = .ok (.iconst 1, 1) := by decide +kernel
theorem dX2_isKinder_48 : decode cX2_isKinder 48 = .ok (.goto 4, 3) := by decide +kernel
theorem dX2_isKinder_51 : decode cX2_isKinder 51 = .ok (.iconst 0, 1) := by decide +kernel
theorem dX2_isKinder_52 : decode cX2_isKinder 52 = .ok (.ireturn, 1) := by decide +kernel
theorem dX2_worthGathered_0 : decode cX2_worthGathered 0 = .ok (.iload_n 1, 1) := by decide +kernel
theorem dX2_worthGathered_1 : decode cX2_worthGathered 1 = .ok (.ifCond .lt 20, 3) := by decide +kernel
theorem dX2_worthGathered_4 : decode cX2_worthGathered 4 = .ok (.iload_n 1, 1) := by decide +kernel
theorem dX2_worthGathered_5 : decode cX2_worthGathered 5 = .ok (.bipush 10, 2) := by decide +kernel
theorem dX2_worthGathered_7 : decode cX2_worthGathered 7 = .ok (.if_icmp .gt 14, 3) := by decide +kernel
theorem dX2_worthGathered_10 : decode cX2_worthGathered 10 = .ok (.iload_n 2, 1) := by decide +kernel
theorem dX2_worthGathered_11 : decode cX2_worthGathered 11 = .ok (.ifCond .lt 10, 3) := by decide +kernel
theorem dX2_worthGathered_14 : decode cX2_worthGathered 14 = .ok (.iload_n 2, 1) := by decide +kernel
theorem dX2_worthGathered_15 : decode cX2_worthGathered 15 = .ok (.sipush 1024, 3) := by decide +kernel
theorem dX2_worthGathered_18 : decode cX2_worthGathered 18 = .ok (.if_icmp .lt 7, 3) := by decide +kernel
theorem dX2_worthGathered_21 : decode cX2_worthGathered 21 = .ok (.iconst (-1), 1) := by decide +kernel
theorem dX2_worthGathered_22 : decode cX2_worthGathered 22 = .ok (.goto 11, 3) := by decide +kernel
theorem dX2_worthGathered_25 : decode cX2_worthGathered 25 = .ok (.aload_n 0, 1) := by decide +kernel
theorem dX2_worthGathered_26 : decode cX2_worthGathered 26 = .ok (.getfield 27, 3) := by decide +kernel
theorem dX2_worthGathered_29 : decode cX2_worthGathered 29 = .ok (.iload_n 1, 1) := by decide +kernel
theorem dX2_worthGathered_30 : decode cX2_worthGathered 30 = .ok (.aaload, 1) := by decide +kernel
theorem dX2_worthGathered_31 : decode cX2_worthGathered 31 = .ok (.iload_n 2, 1) := by decide +kernel
theorem dX2_worthGathered_32 : decode cX2_worthGathered 32 = .ok (.iaload, 1) := by decide +kernel
theorem dX2_worthGathered_33 : decode cX2_worthGathered 33 = .ok (.ireturn, 1) := by decide +kernel
theorem dX2_planFor_0 : decode cX2_planFor 0 = .ok (.aload_n 0, 1) := by decide +kernel
theorem dX2_planFor_1 : decode cX2_planFor 1 = .ok (.getfield 23, 3) := by decide +kernel
theorem dX2_planFor_4 : decode cX2_planFor 4 = .ok (.iload_n 1, 1) := by decide +kernel
theorem dX2_planFor_5 : decode cX2_planFor 5 = .ok (.if_icmp .ne 4, 3) := by decide +kernel
theorem dX2_planFor_8 : decode cX2_planFor 8 = .ok (.return_, 1) := by decide +kernel
theorem dX2_planFor_9 : decode cX2_planFor 9 = .ok (.aload_n 0, 1) := by decide +kernel
theorem dX2_planFor_10 : decode cX2_planFor 10 = .ok (.aload_n 0, 1) := by decide +kernel
theorem dX2_planFor_11 : decode cX2_planFor 11 = .ok (.getfield 41, 3) := by decide +kernel
theorem dX2_planFor_14 : decode cX2_planFor 14 = .ok (.aload_n 0, 1) := by decide +kernel
theorem dX2_planFor_15 : decode cX2_planFor 15 = .ok (.getfield 41, 3) := by decide +kernel
theorem dX2_planFor_18 : decode cX2_planFor 18 = .ok (.invokevirtual 58, 3) := by decide +kernel
theorem dX2_planFor_21 : decode cX2_planFor 21 = .ok (.invokevirtual 64, 3) := by decide +kernel
theorem dX2_planFor_24 : decode cX2_planFor 24 = .ok (.putfield 67, 3) := by decide +kernel
theorem dX2_planFor_27 : decode cX2_planFor 27 = .ok (.iload_n 1, 1) := by decide +kernel
theorem dX2_planFor_28 : decode cX2_planFor 28 = .ok (.invokestatic 53, 3) := by decide +kernel
theorem dX2_planFor_31 : decode cX2_planFor 31 = .ok (.istore_n 2, 1) := by decide +kernel
theorem dX2_planFor_32 : decode cX2_planFor 32 = .ok (.iload_n 1, 1) := by decide +kernel
theorem dX2_planFor_33 : decode cX2_planFor 33 = .ok (.istore_n 3, 1) := by decide +kernel
theorem dX2_planFor_34 : decode cX2_planFor 34 = .ok (.iconst 0, 1) := by decide +kernel
theorem dX2_planFor_35 : decode cX2_planFor 35 = .ok (.istore 4, 2) := by decide +kernel
theorem dX2_planFor_37 : decode cX2_planFor 37 = .ok (.iload 4, 2) := by decide +kernel
theorem dX2_planFor_39 : decode cX2_planFor 39 = .ok (.iconst 1, 1) := by decide +kernel
theorem dX2_planFor_40 : decode cX2_planFor 40 = .ok (.iload_n 2, 1) := by decide +kernel
theorem dX2_planFor_41 : decode cX2_planFor 41 = .ok (.ishl, 1) := by decide +kernel
theorem dX2_planFor_42 : decode cX2_planFor 42 = .ok (.if_icmp .ge 65, 3) := by decide +kernel
theorem dX2_planFor_45 : decode cX2_planFor 45 = .ok (.iconst 0, 1) := by decide +kernel
theorem dX2_planFor_46 : decode cX2_planFor 46 = .ok (.istore 5, 2) := by decide +kernel
theorem dX2_planFor_48 : decode cX2_planFor 48 = .ok (.iload 5, 2) := by decide +kernel
theorem dX2_planFor_50 : decode cX2_planFor 50 = .ok (.bipush 10, 2) := by decide +kernel
theorem dX2_planFor_52 : decode cX2_planFor 52 = .ok (.if_icmp .gt 33, 3) := by decide +kernel
theorem dX2_planFor_55 : decode cX2_planFor 55 = .ok (.aload_n 0, 1) := by decide +kernel
theorem dX2_planFor_56 : decode cX2_planFor 56 = .ok (.getfield 17, 3) := by decide +kernel
theorem dX2_planFor_59 : decode cX2_planFor 59 = .ok (.iload 5, 2) := by decide +kernel
theorem dX2_planFor_61 : decode cX2_planFor 61 = .ok (.aaload, 1) := by decide +kernel
theorem dX2_planFor_62 : decode cX2_planFor 62 = .ok (.iload_n 3, 1) := by decide +kernel
theorem dX2_planFor_63 : decode cX2_planFor 63 = .ok (.iload 5, 2) := by decide +kernel
theorem dX2_planFor_65 : decode cX2_planFor 65 = .ok (.ifCond .ne 12, 3) := by decide +kernel
theorem dX2_planFor_68 : decode cX2_planFor 68 = .ok (.iload_n 3, 1) := by decide +kernel
theorem dX2_planFor_69 : decode cX2_planFor 69 = .ok (.iload_n 1, 1) := by decide +kernel
theorem dX2_planFor_70 : decode cX2_planFor 70 = .ok (.if_icmp .ne 7, 3) := by decide +kernel
theorem dX2_planFor_73 : decode cX2_planFor 73 = .ok (.iconst 0, 1) := by decide +kernel
theorem dX2_planFor_74 : decode cX2_planFor 74 = .ok (.goto 4, 3) := by decide +kernel
theorem dX2_planFor_77 : decode cX2_planFor 77 = .ok (.iconst (-1), 1) := by decide +kernel
theorem dX2_planFor_78 : decode cX2_planFor 78 = .ok (.iastore, 1) := by decide +kernel
theorem dX2_planFor_79 : decode cX2_planFor 79 = .ok (.iinc 5 1, 3) := by decide +kernel
theorem dX2_planFor_82 : decode cX2_planFor 82 = .ok (.goto (-34), 3) := by decide +kernel
theorem dX2_planFor_85 : decode cX2_planFor 85 = .ok (.aload_n 0, 1) := by decide +kernel
theorem dX2_planFor_86 : decode cX2_planFor 86 = .ok (.iload_n 3, 1) := by decide +kernel
theorem dX2_planFor_87 : decode cX2_planFor 87 = .ok (.iload_n 1, 1) := by decide +kernel
theorem dX2_planFor_88 : decode cX2_planFor 88 = .ok (.iload_n 3, 1) := by decide +kernel
theorem dX2_planFor_89 : decode cX2_planFor 89 = .ok (.iconst (-1), 1) := by decide +kernel
theorem dX2_planFor_90 : decode cX2_planFor 90 = .ok (.ixor, 1) := by decide +kernel
theorem dX2_planFor_91 : decode cX2_planFor 91 = .ok (.iand, 1) := by decide +kernel
theorem dX2_planFor_92 : decode cX2_planFor 92 = .ok (.invokevirtual 69, 3) := by decide +kernel
theorem dX2_planFor_95 : decode cX2_planFor 95 = .ok (.iload_n 3, 1) := by decide +kernel
theorem dX2_planFor_96 : decode cX2_planFor 96 = .ok (.iconst 1, 1) := by decide +kernel
theorem dX2_planFor_97 : decode cX2_planFor 97 = .ok (.isub, 1) := by decide +kernel
theorem dX2_planFor_98 : decode cX2_planFor 98 = .ok (.iload_n 1, 1) := by decide +kernel
theorem dX2_planFor_99 : decode cX2_planFor 99 = .ok (.iand, 1) := by decide +kernel
theorem dX2_planFor_100 : decode cX2_planFor 100 = .ok (.istore_n 3, 1) := by decide +kernel
theorem dX2_planFor_101 : decode cX2_planFor 101 = .ok (.iinc 4 1, 3) := by decide +kernel
theorem dX2_planFor_104 : decode cX2_planFor 104 = .ok (.goto (-67), 3) := by decide +kernel
theorem dX2_planFor_107 : decode cX2_planFor 107 = .ok (.aload_n 0, 1) := by decide +kernel
theorem dX2_planFor_108 : decode cX2_planFor 108 = .ok (.iload_n 1, 1) := by decide +kernel
theorem dX2_planFor_109 : decode cX2_planFor 109 = .ok (.putfield 23, 3) := by decide +kernel
theorem dX2_planFor_112 : decode cX2_planFor 112 = .ok (.return_, 1) := by decide +kernel
theorem dX2_chooseFirst_0 : decode cX2_chooseFirst 0 = .ok (.aload_n 0, 1) := by decide +kernel
theorem dX2_chooseFirst_1 : decode cX2_chooseFirst 1 = .ok (.iload_n 1, 1) := by decide +kernel
theorem dX2_chooseFirst_2 : decode cX2_chooseFirst 2 = .ok (.iload_n 2, 1) := by decide +kernel
theorem dX2_chooseFirst_3 : decode cX2_chooseFirst 3 = .ok (.invokevirtual 73, 3) := by decide +kernel
theorem dX2_chooseFirst_6 : decode cX2_chooseFirst 6 = .ok (.iload_n 2, 1) := by decide +kernel
theorem dX2_chooseFirst_7 : decode cX2_chooseFirst 7 = .ok (.invokestatic 53, 3) := by decide +kernel
theorem dX2_chooseFirst_10 : decode cX2_chooseFirst 10 = .ok (.istore_n 3, 1) := by decide +kernel
theorem dX2_chooseFirst_11 : decode cX2_chooseFirst 11 = .ok (.iconst 0, 1) := by decide +kernel
theorem dX2_chooseFirst_12 : decode cX2_chooseFirst 12 = .ok (.istore 4, 2) := by decide +kernel
theorem dX2_chooseFirst_14 : decode cX2_chooseFirst 14 = .ok (.iconst 1, 1) := by decide +kernel
theorem dX2_chooseFirst_15 : decode cX2_chooseFirst 15 = .ok (.istore 5, 2) := by decide +kernel
theorem dX2_chooseFirst_17 : decode cX2_chooseFirst 17 = .ok (.iload 5, 2) := by decide +kernel
theorem dX2_chooseFirst_19 : decode cX2_chooseFirst 19 = .ok (.iconst 1, 1) := by decide +kernel
theorem dX2_chooseFirst_20 : decode cX2_chooseFirst 20 = .ok (.iload_n 3, 1) := by decide +kernel
theorem dX2_chooseFirst_21 : decode cX2_chooseFirst 21 = .ok (.ishl, 1) := by decide +kernel
theorem dX2_chooseFirst_22 : decode cX2_chooseFirst 22 = .ok (.if_icmp .ge 127, 3) := by decide +kernel
theorem dX2_chooseFirst_25 : decode cX2_chooseFirst 25 = .ok (.iload 4, 2) := by decide +kernel
theorem dX2_chooseFirst_27 : decode cX2_chooseFirst 27 = .ok (.iload_n 2, 1) := by decide +kernel
theorem dX2_chooseFirst_28 : decode cX2_chooseFirst 28 = .ok (.isub, 1) := by decide +kernel
theorem dX2_chooseFirst_29 : decode cX2_chooseFirst 29 = .ok (.iload_n 2, 1) := by decide +kernel
theorem dX2_chooseFirst_30 : decode cX2_chooseFirst 30 = .ok (.iand, 1) := by decide +kernel
theorem dX2_chooseFirst_31 : decode cX2_chooseFirst 31 = .ok (.istore 4, 2) := by decide +kernel
theorem dX2_chooseFirst_33 : decode cX2_chooseFirst 33 = .ok (.aload_n 0, 1) := by decide +kernel
theorem dX2_chooseFirst_34 : decode cX2_chooseFirst 34 = .ok (.iload_n 1, 1) := by decide +kernel
theorem dX2_chooseFirst_35 : decode cX2_chooseFirst 35 = .ok (.iload 4, 2) := by decide +kernel
theorem dX2_chooseFirst_37 : decode cX2_chooseFirst 37 = .ok (.invokevirtual 76, 3) := by decide +kernel
theorem dX2_chooseFirst_40 : decode cX2_chooseFirst 40 = .ok (.istore 6, 2) := by decide +kernel
theorem dX2_chooseFirst_42 : decode cX2_chooseFirst 42 = .ok (.iload 6, 2) := by decide +kernel
theorem dX2_chooseFirst_44 : decode cX2_chooseFirst 44 = .ok (.iconst (-1), 1) := by decide +kernel
theorem dX2_chooseFirst_45 : decode cX2_chooseFirst 45 = .ok (.if_icmp .ne 7, 3) := by decide +kernel
theorem dX2_chooseFirst_48 : decode cX2_chooseFirst 48 = .ok (.iconst 0, 1) := by decide +kernel
theorem dX2_chooseFirst_49 : decode cX2_chooseFirst 49 = .ok (.goto 12, 3) := by decide +kernel
theorem dX2_chooseFirst_52 : decode cX2_chooseFirst 52 = .ok (.iconst 1, 1) := by decide +kernel
theorem dX2_chooseFirst_53 : decode cX2_chooseFirst 53 = .ok (.iload_n 3, 1) := by decide +kernel
theorem dX2_chooseFirst_54 : decode cX2_chooseFirst 54 = .ok (.iadd, 1) := by decide +kernel
theorem dX2_chooseFirst_55 : decode cX2_chooseFirst 55 = .ok (.iload 4, 2) := by decide +kernel
theorem dX2_chooseFirst_57 : decode cX2_chooseFirst 57 = .ok (.invokestatic 53, 3) := by decide +kernel
theorem dX2_chooseFirst_60 : decode cX2_chooseFirst 60 = .ok (.isub, 1) := by decide +kernel
theorem dX2_chooseFirst_61 : decode cX2_chooseFirst 61 = .ok (.istore 7, 2) := by decide +kernel
theorem dX2_chooseFirst_63 : decode cX2_chooseFirst 63 = .ok (.iconst 1, 1) := by decide +kernel
theorem dX2_chooseFirst_64 : decode cX2_chooseFirst 64 = .ok (.istore 8, 2) := by decide +kernel
theorem dX2_chooseFirst_66 : decode cX2_chooseFirst 66 = .ok (.iload 8, 2) := by decide +kernel
theorem dX2_chooseFirst_68 : decode cX2_chooseFirst 68 = .ok (.iload 7, 2) := by decide +kernel
theorem dX2_chooseFirst_70 : decode cX2_chooseFirst 70 = .ok (.if_icmp .gt 73, 3) := by decide +kernel
theorem dX2_chooseFirst_73 : decode cX2_chooseFirst 73 = .ok (.aload_n 0, 1) := by decide +kernel
theorem dX2_chooseFirst_74 : decode cX2_chooseFirst 74 = .ok (.getfield 17, 3) := by decide +kernel
theorem dX2_chooseFirst_77 : decode cX2_chooseFirst 77 = .ok (.iload 8, 2) := by decide +kernel
theorem dX2_chooseFirst_79 : decode cX2_chooseFirst 79 = .ok (.iconst 1, 1) := by decide +kernel
theorem dX2_chooseFirst_80 : decode cX2_chooseFirst 80 = .ok (.isub, 1) := by decide +kernel
theorem dX2_chooseFirst_81 : decode cX2_chooseFirst 81 = .ok (.aaload, 1) := by decide +kernel
theorem dX2_chooseFirst_82 : decode cX2_chooseFirst 82 = .ok (.iload_n 1, 1) := by decide +kernel
theorem dX2_chooseFirst_83 : decode cX2_chooseFirst 83 = .ok (.iload 4, 2) := by decide +kernel
theorem dX2_chooseFirst_85 : decode cX2_chooseFirst 85 = .ok (.ior, 1) := by decide +kernel
theorem dX2_chooseFirst_86 : decode cX2_chooseFirst 86 = .ok (.iaload, 1) := by decide +kernel
theorem dX2_chooseFirst_87 : decode cX2_chooseFirst 87 = .ok (.istore 9, 2) := by decide +kernel
theorem dX2_chooseFirst_89 : decode cX2_chooseFirst 89 = .ok (.iload 9, 2) := by decide +kernel
theorem dX2_chooseFirst_91 : decode cX2_chooseFirst 91 = .ok (.iconst (-1), 1) := by decide +kernel
theorem dX2_chooseFirst_92 : decode cX2_chooseFirst 92 = .ok (.if_icmp .eq 45, 3) := by decide +kernel
theorem dX2_chooseFirst_95 : decode cX2_chooseFirst 95 = .ok (.iload 9, 2) := by decide +kernel
theorem dX2_chooseFirst_97 : decode cX2_chooseFirst 97 = .ok (.iload 6, 2) := by decide +kernel
theorem dX2_chooseFirst_99 : decode cX2_chooseFirst 99 = .ok (.iadd, 1) := by decide +kernel
theorem dX2_chooseFirst_100 : decode cX2_chooseFirst 100 = .ok (.aload_n 0, 1) := by decide +kernel
theorem dX2_chooseFirst_101 : decode cX2_chooseFirst 101 = .ok (.getfield 17, 3) := by decide +kernel
theorem dX2_chooseFirst_104 : decode cX2_chooseFirst 104 = .ok (.iload 8, 2) := by decide +kernel
theorem dX2_chooseFirst_106 : decode cX2_chooseFirst 106 = .ok (.aaload, 1) := by decide +kernel
theorem dX2_chooseFirst_107 : decode cX2_chooseFirst 107 = .ok (.iload_n 1, 1) := by decide +kernel
theorem dX2_chooseFirst_108 : decode cX2_chooseFirst 108 = .ok (.iaload, 1) := by decide +kernel
theorem dX2_chooseFirst_109 : decode cX2_chooseFirst 109 = .ok (.if_icmp .le 28, 3) := by decide +kernel
theorem dX2_chooseFirst_112 : decode cX2_chooseFirst 112 = .ok (.aload_n 0, 1) := by decide +kernel
theorem dX2_chooseFirst_113 : decode cX2_chooseFirst 113 = .ok (.getfield 17, 3) := by decide +kernel
theorem dX2_chooseFirst_116 : decode cX2_chooseFirst 116 = .ok (.iload 8, 2) := by decide +kernel
theorem dX2_chooseFirst_118 : decode cX2_chooseFirst 118 = .ok (.aaload, 1) := by decide +kernel
theorem dX2_chooseFirst_119 : decode cX2_chooseFirst 119 = .ok (.iload_n 1, 1) := by decide +kernel
theorem dX2_chooseFirst_120 : decode cX2_chooseFirst 120 = .ok (.iload 9, 2) := by decide +kernel
theorem dX2_chooseFirst_122 : decode cX2_chooseFirst 122 = .ok (.iload 6, 2) := by decide +kernel
theorem dX2_chooseFirst_124 : decode cX2_chooseFirst 124 = .ok (.iadd, 1) := by decide +kernel
theorem dX2_chooseFirst_125 : decode cX2_chooseFirst 125 = .ok (.iastore, 1) := by decide +kernel
theorem dX2_chooseFirst_126 : decode cX2_chooseFirst 126 = .ok (.aload_n 0, 1) := by decide +kernel
theorem dX2_chooseFirst_127 : decode cX2_chooseFirst 127 = .ok (.getfield 20, 3) := by decide +kernel
theorem dX2_chooseFirst_130 : decode cX2_chooseFirst 130 = .ok (.iload 8, 2) := by decide +kernel
theorem dX2_chooseFirst_132 : decode cX2_chooseFirst 132 = .ok (.aaload, 1) := by decide +kernel
theorem dX2_chooseFirst_133 : decode cX2_chooseFirst 133 = .ok (.iload_n 1, 1) := by decide +kernel
theorem dX2_chooseFirst_134 : decode cX2_chooseFirst 134 = .ok (.iload 4, 2) := by decide +kernel
theorem dX2_chooseFirst_136 : decode cX2_chooseFirst 136 = .ok (.iastore, 1) := by decide +kernel
theorem dX2_chooseFirst_137 : decode cX2_chooseFirst 137 = .ok (.iinc 8 1, 3) := by decide +kernel
theorem dX2_chooseFirst_140 : decode cX2_chooseFirst 140 = .ok (.goto (-74), 3) := by decide +kernel
theorem dX2_chooseFirst_143 : decode cX2_chooseFirst 143 = .ok (.iinc 5 1, 3) := by decide +kernel
theorem dX2_chooseFirst_146 : decode cX2_chooseFirst 146 = .ok (.goto (-129), 3) := by decide +kernel
theorem dX2_chooseFirst_149 : decode cX2_chooseFirst 149 = .ok (.return_, 1) := by decide +kernel
theorem dX2_gatherFor_0 : decode cX2_gatherFor 0 = .ok (.aload_n 0, 1) := by decide +kernel
theorem dX2_gatherFor_1 : decode cX2_gatherFor 1 = .ok (.getfield 30, 3) := by decide +kernel
theorem dX2_gatherFor_4 : decode cX2_gatherFor 4 = .ok (.iload_n 1, 1) := by decide +kernel
theorem dX2_gatherFor_5 : decode cX2_gatherFor 5 = .ok (.if_icmp .ne 4, 3) := by decide +kernel
theorem dX2_gatherFor_8 : decode cX2_gatherFor 8 = .ok (.return_, 1) := by decide +kernel
theorem dX2_gatherFor_9 : decode cX2_gatherFor 9 = .ok (.iconst 0, 1) := by decide +kernel
theorem dX2_gatherFor_10 : decode cX2_gatherFor 10 = .ok (.istore_n 2, 1) := by decide +kernel
theorem dX2_gatherFor_11 : decode cX2_gatherFor 11 = .ok (.iload_n 2, 1) := by decide +kernel
theorem dX2_gatherFor_12 : decode cX2_gatherFor 12 = .ok (.bipush 10, 2) := by decide +kernel
theorem dX2_gatherFor_14 : decode cX2_gatherFor 14 = .ok (.if_icmp .gt 43, 3) := by decide +kernel
theorem dX2_gatherFor_17 : decode cX2_gatherFor 17 = .ok (.iconst 0, 1) := by decide +kernel
theorem dX2_gatherFor_18 : decode cX2_gatherFor 18 = .ok (.istore_n 3, 1) := by decide +kernel
theorem dX2_gatherFor_19 : decode cX2_gatherFor 19 = .ok (.iload_n 3, 1) := by decide +kernel
theorem dX2_gatherFor_20 : decode cX2_gatherFor 20 = .ok (.iload_n 1, 1) := by decide +kernel
theorem dX2_gatherFor_21 : decode cX2_gatherFor 21 = .ok (.if_icmp .gt 30, 3) := by decide +kernel
theorem dX2_gatherFor_24 : decode cX2_gatherFor 24 = .ok (.aload_n 0, 1) := by decide +kernel
theorem dX2_gatherFor_25 : decode cX2_gatherFor 25 = .ok (.getfield 27, 3) := by decide +kernel
theorem dX2_gatherFor_28 : decode cX2_gatherFor 28 = .ok (.iload_n 2, 1) := by decide +kernel
theorem dX2_gatherFor_29 : decode cX2_gatherFor 29 = .ok (.aaload, 1) := by decide +kernel
theorem dX2_gatherFor_30 : decode cX2_gatherFor 30 = .ok (.iload_n 3, 1) := by decide +kernel
theorem dX2_gatherFor_31 : decode cX2_gatherFor 31 = .ok (.iload_n 2, 1) := by decide +kernel
theorem dX2_gatherFor_32 : decode cX2_gatherFor 32 = .ok (.ifCond .ne 11, 3) := by decide +kernel
theorem dX2_gatherFor_35 : decode cX2_gatherFor 35 = .ok (.iload_n 3, 1) := by decide +kernel
theorem dX2_gatherFor_36 : decode cX2_gatherFor 36 = .ok (.ifCond .ne 7, 3) := by decide +kernel
theorem dX2_gatherFor_39 : decode cX2_gatherFor 39 = .ok (.iconst 0, 1) := by decide +kernel
theorem dX2_gatherFor_40 : decode cX2_gatherFor 40 = .ok (.goto 4, 3) := by decide +kernel
theorem dX2_gatherFor_43 : decode cX2_gatherFor 43 = .ok (.iconst (-1), 1) := by decide +kernel
theorem dX2_gatherFor_44 : decode cX2_gatherFor 44 = .ok (.iastore, 1) := by decide +kernel
theorem dX2_gatherFor_45 : decode cX2_gatherFor 45 = .ok (.iinc 3 1, 3) := by decide +kernel
theorem dX2_gatherFor_48 : decode cX2_gatherFor 48 = .ok (.goto (-29), 3) := by decide +kernel
theorem dX2_gatherFor_51 : decode cX2_gatherFor 51 = .ok (.iinc 2 1, 3) := by decide +kernel
theorem dX2_gatherFor_54 : decode cX2_gatherFor 54 = .ok (.goto (-43), 3) := by decide +kernel
theorem dX2_gatherFor_57 : decode cX2_gatherFor 57 = .ok (.aload_n 0, 1) := by decide +kernel
theorem dX2_gatherFor_58 : decode cX2_gatherFor 58 = .ok (.aload_n 0, 1) := by decide +kernel
theorem dX2_gatherFor_59 : decode cX2_gatherFor 59 = .ok (.getfield 41, 3) := by decide +kernel
theorem dX2_gatherFor_62 : decode cX2_gatherFor 62 = .ok (.aload_n 0, 1) := by decide +kernel
theorem dX2_gatherFor_63 : decode cX2_gatherFor 63 = .ok (.getfield 41, 3) := by decide +kernel
theorem dX2_gatherFor_66 : decode cX2_gatherFor 66 = .ok (.invokevirtual 58, 3) := by decide +kernel
theorem dX2_gatherFor_69 : decode cX2_gatherFor 69 = .ok (.invokevirtual 64, 3) := by decide +kernel
theorem dX2_gatherFor_72 : decode cX2_gatherFor 72 = .ok (.putfield 67, 3) := by decide +kernel
theorem dX2_gatherFor_75 : decode cX2_gatherFor 75 = .ok (.iload_n 1, 1) := by decide +kernel
theorem dX2_gatherFor_76 : decode cX2_gatherFor 76 = .ok (.invokestatic 53, 3) := by decide +kernel
theorem dX2_gatherFor_79 : decode cX2_gatherFor 79 = .ok (.istore_n 2, 1) := by decide +kernel
theorem dX2_gatherFor_80 : decode cX2_gatherFor 80 = .ok (.iconst 0, 1) := by decide +kernel
theorem dX2_gatherFor_81 : decode cX2_gatherFor 81 = .ok (.istore_n 3, 1) := by decide +kernel
theorem dX2_gatherFor_82 : decode cX2_gatherFor 82 = .ok (.iconst 0, 1) := by decide +kernel
theorem dX2_gatherFor_83 : decode cX2_gatherFor 83 = .ok (.istore 4, 2) := by decide +kernel
theorem dX2_gatherFor_85 : decode cX2_gatherFor 85 = .ok (.iload 4, 2) := by decide +kernel
theorem dX2_gatherFor_87 : decode cX2_gatherFor 87 = .ok (.iconst 1, 1) := by decide +kernel
theorem dX2_gatherFor_88 : decode cX2_gatherFor 88 = .ok (.iload_n 2, 1) := by decide +kernel
theorem dX2_gatherFor_89 : decode cX2_gatherFor 89 = .ok (.ishl, 1) := by decide +kernel
theorem dX2_gatherFor_90 : decode cX2_gatherFor 90 = .ok (.if_icmp .ge 33, 3) := by decide +kernel
theorem dX2_gatherFor_93 : decode cX2_gatherFor 93 = .ok (.aload_n 0, 1) := by decide +kernel
theorem dX2_gatherFor_94 : decode cX2_gatherFor 94 = .ok (.iload_n 3, 1) := by decide +kernel
theorem dX2_gatherFor_95 : decode cX2_gatherFor 95 = .ok (.invokevirtual 80, 3) := by decide +kernel
theorem dX2_gatherFor_98 : decode cX2_gatherFor 98 = .ok (.ifCond .eq 13, 3) := by decide +kernel
theorem dX2_gatherFor_101 : decode cX2_gatherFor 101 = .ok (.aload_n 0, 1) := by decide +kernel
theorem dX2_gatherFor_102 : decode cX2_gatherFor 102 = .ok (.iload_n 3, 1) := by decide +kernel
theorem dX2_gatherFor_103 : decode cX2_gatherFor 103 = .ok (.iload_n 1, 1) := by decide +kernel
theorem dX2_gatherFor_104 : decode cX2_gatherFor 104 = .ok (.iload_n 3, 1) := by decide +kernel
theorem dX2_gatherFor_105 : decode cX2_gatherFor 105 = .ok (.iconst (-1), 1) := by decide +kernel
theorem dX2_gatherFor_106 : decode cX2_gatherFor 106 = .ok (.ixor, 1) := by decide +kernel
theorem dX2_gatherFor_107 : decode cX2_gatherFor 107 = .ok (.iand, 1) := by decide +kernel
theorem dX2_gatherFor_108 : decode cX2_gatherFor 108 = .ok (.invokevirtual 84, 3) := by decide +kernel
theorem dX2_gatherFor_111 : decode cX2_gatherFor 111 = .ok (.iload_n 3, 1) := by decide +kernel
theorem dX2_gatherFor_112 : decode cX2_gatherFor 112 = .ok (.iload_n 1, 1) := by decide +kernel
theorem dX2_gatherFor_113 : decode cX2_gatherFor 113 = .ok (.isub, 1) := by decide +kernel
theorem dX2_gatherFor_114 : decode cX2_gatherFor 114 = .ok (.iload_n 1, 1) := by decide +kernel
theorem dX2_gatherFor_115 : decode cX2_gatherFor 115 = .ok (.iand, 1) := by decide +kernel
theorem dX2_gatherFor_116 : decode cX2_gatherFor 116 = .ok (.istore_n 3, 1) := by decide +kernel
theorem dX2_gatherFor_117 : decode cX2_gatherFor 117 = .ok (.iinc 4 1, 3) := by decide +kernel
theorem dX2_gatherFor_120 : decode cX2_gatherFor 120 = .ok (.goto (-35), 3) := by decide +kernel
theorem dX2_gatherFor_123 : decode cX2_gatherFor 123 = .ok (.aload_n 0, 1) := by decide +kernel
theorem dX2_gatherFor_124 : decode cX2_gatherFor 124 = .ok (.iload_n 1, 1) := by decide +kernel
theorem dX2_gatherFor_125 : decode cX2_gatherFor 125 = .ok (.putfield 30, 3) := by decide +kernel
theorem dX2_gatherFor_128 : decode cX2_gatherFor 128 = .ok (.return_, 1) := by decide +kernel
theorem dX2_isGathered_0 : decode cX2_isGathered 0 = .ok (.iconst 0, 1) := by decide +kernel
theorem dX2_isGathered_1 : decode cX2_isGathered 1 = .ok (.istore_n 2, 1) := by decide +kernel
theorem dX2_isGathered_2 : decode cX2_isGathered 2 = .ok (.iload_n 2, 1) := by decide +kernel
theorem dX2_isGathered_3 : decode cX2_isGathered 3 = .ok (.bipush 10, 2) := by decide +kernel
theorem dX2_isGathered_5 : decode cX2_isGathered 5 = .ok (.if_icmp .gt 23, 3) := by decide +kernel
theorem dX2_isGathered_8 : decode cX2_isGathered 8 = .ok (.aload_n 0, 1) := by decide +kernel
theorem dX2_isGathered_9 : decode cX2_isGathered 9 = .ok (.getfield 27, 3) := by decide +kernel
theorem dX2_isGathered_12 : decode cX2_isGathered 12 = .ok (.iload_n 2, 1) := by decide +kernel
theorem dX2_isGathered_13 : decode cX2_isGathered 13 = .ok (.aaload, 1) := by decide +kernel
theorem dX2_isGathered_14 : decode cX2_isGathered 14 = .ok (.iload_n 1, 1) := by decide +kernel
theorem dX2_isGathered_15 : decode cX2_isGathered 15 = .ok (.iaload, 1) := by decide +kernel
theorem dX2_isGathered_16 : decode cX2_isGathered 16 = .ok (.iconst (-1), 1) := by decide +kernel
theorem dX2_isGathered_17 : decode cX2_isGathered 17 = .ok (.if_icmp .eq 5, 3) := by decide +kernel
theorem dX2_isGathered_20 : decode cX2_isGathered 20 = .ok (.iconst 1, 1) := by decide +kernel
theorem dX2_isGathered_21 : decode cX2_isGathered 21 = .ok (.ireturn, 1) := by decide +kernel
theorem dX2_isGathered_22 : decode cX2_isGathered 22 = .ok (.iinc 2 1, 3) := by decide +kernel
theorem dX2_isGathered_25 : decode cX2_isGathered 25 = .ok (.goto (-23), 3) := by decide +kernel
theorem dX2_isGathered_28 : decode cX2_isGathered 28 = .ok (.iconst 0, 1) := by decide +kernel
theorem dX2_isGathered_29 : decode cX2_isGathered 29 = .ok (.ireturn, 1) := by decide +kernel
theorem dX2_gatherBehind_0 : decode cX2_gatherBehind 0 = .ok (.aload_n 0, 1) := by decide +kernel
theorem dX2_gatherBehind_1 : decode cX2_gatherBehind 1 = .ok (.iload_n 1, 1) := by decide +kernel
theorem dX2_gatherBehind_2 : decode cX2_gatherBehind 2 = .ok (.iload_n 2, 1) := by decide +kernel
theorem dX2_gatherBehind_3 : decode cX2_gatherBehind 3 = .ok (.invokevirtual 73, 3) := by decide +kernel
theorem dX2_gatherBehind_6 : decode cX2_gatherBehind 6 = .ok (.iload_n 2, 1) := by decide +kernel
theorem dX2_gatherBehind_7 : decode cX2_gatherBehind 7 = .ok (.invokestatic 53, 3) := by decide +kernel
theorem dX2_gatherBehind_10 : decode cX2_gatherBehind 10 = .ok (.istore_n 3, 1) := by decide +kernel
theorem dX2_gatherBehind_11 : decode cX2_gatherBehind 11 = .ok (.iload_n 1, 1) := by decide +kernel
theorem dX2_gatherBehind_12 : decode cX2_gatherBehind 12 = .ok (.invokestatic 53, 3) := by decide +kernel
theorem dX2_gatherBehind_15 : decode cX2_gatherBehind 15 = .ok (.istore 4, 2) := by decide +kernel
theorem dX2_gatherBehind_17 : decode cX2_gatherBehind 17 = .ok (.iconst 0, 1) := by decide +kernel
theorem dX2_gatherBehind_18 : decode cX2_gatherBehind 18 = .ok (.istore 5, 2) := by decide +kernel
theorem dX2_gatherBehind_20 : decode cX2_gatherBehind 20 = .ok (.iconst 1, 1) := by decide +kernel
theorem dX2_gatherBehind_21 : decode cX2_gatherBehind 21 = .ok (.istore 6, 2) := by decide +kernel
theorem dX2_gatherBehind_23 : decode cX2_gatherBehind 23 = .ok (.iload 6, 2) := by decide +kernel
theorem dX2_gatherBehind_25 : decode cX2_gatherBehind 25 = .ok (.iconst 1, 1) := by decide +kernel
theorem dX2_gatherBehind_26 : decode cX2_gatherBehind 26 = .ok (.iload_n 3, 1) := by decide +kernel
theorem dX2_gatherBehind_27 : decode cX2_gatherBehind 27 = .ok (.ishl, 1) := by decide +kernel
theorem dX2_gatherBehind_28 : decode cX2_gatherBehind 28 = .ok (.if_icmp .ge 106, 3) := by decide +kernel
theorem dX2_gatherBehind_31 : decode cX2_gatherBehind 31 = .ok (.iload 5, 2) := by decide +kernel
theorem dX2_gatherBehind_33 : decode cX2_gatherBehind 33 = .ok (.iload_n 2, 1) := by decide +kernel
theorem dX2_gatherBehind_34 : decode cX2_gatherBehind 34 = .ok (.isub, 1) := by decide +kernel
theorem dX2_gatherBehind_35 : decode cX2_gatherBehind 35 = .ok (.iload_n 2, 1) := by decide +kernel
theorem dX2_gatherBehind_36 : decode cX2_gatherBehind 36 = .ok (.iand, 1) := by decide +kernel
theorem dX2_gatherBehind_37 : decode cX2_gatherBehind 37 = .ok (.istore 5, 2) := by decide +kernel
theorem dX2_gatherBehind_39 : decode cX2_gatherBehind 39 = .ok (.aload_n 0, 1) := by decide +kernel
theorem dX2_gatherBehind_40 : decode cX2_gatherBehind 40 = .ok (.iload_n 1, 1) := by decide +kernel
theorem dX2_gatherBehind_41 : decode cX2_gatherBehind 41 = .ok (.iload 5, 2) := by decide +kernel
theorem dX2_gatherBehind_43 : decode cX2_gatherBehind 43 = .ok (.invokevirtual 76, 3) := by decide +kernel
theorem dX2_gatherBehind_46 : decode cX2_gatherBehind 46 = .ok (.istore 7, 2) := by decide +kernel
theorem dX2_gatherBehind_48 : decode cX2_gatherBehind 48 = .ok (.iconst 0, 1) := by decide +kernel
theorem dX2_gatherBehind_49 : decode cX2_gatherBehind 49 = .ok (.istore 8, 2) := by decide +kernel
theorem dX2_gatherBehind_51 : decode cX2_gatherBehind 51 = .ok (.iload 8, 2) := by decide +kernel
theorem dX2_gatherBehind_53 : decode cX2_gatherBehind 53 = .ok (.iload 4, 2) := by decide +kernel
theorem dX2_gatherBehind_55 : decode cX2_gatherBehind 55 = .ok (.if_icmp .gt 73, 3) := by decide +kernel
theorem dX2_gatherBehind_58 : decode cX2_gatherBehind 58 = .ok (.iload 7, 2) := by decide +kernel
theorem dX2_gatherBehind_60 : decode cX2_gatherBehind 60 = .ok (.iconst (-1), 1) := by decide +kernel
theorem dX2_gatherBehind_61 : decode cX2_gatherBehind 61 = .ok (.if_icmp .eq 67, 3) := by decide +kernel
theorem dX2_gatherBehind_64 : decode cX2_gatherBehind 64 = .ok (.aload_n 0, 1) := by decide +kernel
theorem dX2_gatherBehind_65 : decode cX2_gatherBehind 65 = .ok (.getfield 27, 3) := by decide +kernel
theorem dX2_gatherBehind_68 : decode cX2_gatherBehind 68 = .ok (.iload 8, 2) := by decide +kernel
theorem dX2_gatherBehind_70 : decode cX2_gatherBehind 70 = .ok (.aaload, 1) := by decide +kernel
theorem dX2_gatherBehind_71 : decode cX2_gatherBehind 71 = .ok (.iload_n 1, 1) := by decide +kernel
theorem dX2_gatherBehind_72 : decode cX2_gatherBehind 72 = .ok (.iaload, 1) := by decide +kernel
theorem dX2_gatherBehind_73 : decode cX2_gatherBehind 73 = .ok (.iconst (-1), 1) := by decide +kernel
theorem dX2_gatherBehind_74 : decode cX2_gatherBehind 74 = .ok (.if_icmp .eq 48, 3) := by decide +kernel
theorem dX2_gatherBehind_77 : decode cX2_gatherBehind 77 = .ok (.iload_n 1, 1) := by decide +kernel
theorem dX2_gatherBehind_78 : decode cX2_gatherBehind 78 = .ok (.iload 5, 2) := by decide +kernel
theorem dX2_gatherBehind_80 : decode cX2_gatherBehind 80 = .ok (.ior, 1) := by decide +kernel
theorem dX2_gatherBehind_81 : decode cX2_gatherBehind 81 = .ok (.istore 9, 2) := by decide +kernel
theorem dX2_gatherBehind_83 : decode cX2_gatherBehind 83 = .ok (.aload_n 0, 1) := by decide +kernel
theorem dX2_gatherBehind_84 : decode cX2_gatherBehind 84 = .ok (.getfield 27, 3) := by decide +kernel
theorem dX2_gatherBehind_87 : decode cX2_gatherBehind 87 = .ok (.iload 8, 2) := by decide +kernel
theorem dX2_gatherBehind_89 : decode cX2_gatherBehind 89 = .ok (.iconst 1, 1) := by decide +kernel
theorem dX2_gatherBehind_90 : decode cX2_gatherBehind 90 = .ok (.iadd, 1) := by decide +kernel
theorem dX2_gatherBehind_91 : decode cX2_gatherBehind 91 = .ok (.aaload, 1) := by decide +kernel
theorem dX2_gatherBehind_92 : decode cX2_gatherBehind 92 = .ok (.iload 9, 2) := by decide +kernel
theorem dX2_gatherBehind_94 : decode cX2_gatherBehind 94 = .ok (.aload_n 0, 1) := by decide +kernel
theorem dX2_gatherBehind_95 : decode cX2_gatherBehind 95 = .ok (.getfield 27, 3) := by decide +kernel
theorem dX2_gatherBehind_98 : decode cX2_gatherBehind 98 = .ok (.iload 8, 2) := by decide +kernel
theorem dX2_gatherBehind_100 : decode cX2_gatherBehind 100 = .ok (.iconst 1, 1) := by decide +kernel
theorem dX2_gatherBehind_101 : decode cX2_gatherBehind 101 = .ok (.iadd, 1) := by decide +kernel
theorem dX2_gatherBehind_102 : decode cX2_gatherBehind 102 = .ok (.aaload, 1) := by decide +kernel
theorem dX2_gatherBehind_103 : decode cX2_gatherBehind 103 = .ok (.iload 9, 2) := by decide +kernel
theorem dX2_gatherBehind_105 : decode cX2_gatherBehind 105 = .ok (.iaload, 1) := by decide +kernel
theorem dX2_gatherBehind_106 : decode cX2_gatherBehind 106 = .ok (.aload_n 0, 1) := by decide +kernel
theorem dX2_gatherBehind_107 : decode cX2_gatherBehind 107 = .ok (.getfield 27, 3) := by decide +kernel
theorem dX2_gatherBehind_110 : decode cX2_gatherBehind 110 = .ok (.iload 8, 2) := by decide +kernel
theorem dX2_gatherBehind_112 : decode cX2_gatherBehind 112 = .ok (.aaload, 1) := by decide +kernel
theorem dX2_gatherBehind_113 : decode cX2_gatherBehind 113 = .ok (.iload_n 1, 1) := by decide +kernel
theorem dX2_gatherBehind_114 : decode cX2_gatherBehind 114 = .ok (.iaload, 1) := by decide +kernel
theorem dX2_gatherBehind_115 : decode cX2_gatherBehind 115 = .ok (.iload 7, 2) := by decide +kernel
theorem dX2_gatherBehind_117 : decode cX2_gatherBehind 117 = .ok (.iadd, 1) := by decide +kernel
theorem dX2_gatherBehind_118 : decode cX2_gatherBehind 118 = .ok (.invokestatic 87, 3) := by decide +kernel
theorem dX2_gatherBehind_121 : decode cX2_gatherBehind 121 = .ok (.iastore, 1) := by decide +kernel
theorem dX2_gatherBehind_122 : decode cX2_gatherBehind 122 = .ok (.iinc 8 1, 3) := by decide +kernel
theorem dX2_gatherBehind_125 : decode cX2_gatherBehind 125 = .ok (.goto (-74), 3) := by decide +kernel
theorem dX2_gatherBehind_128 : decode cX2_gatherBehind 128 = .ok (.iinc 6 1, 3) := by decide +kernel
theorem dX2_gatherBehind_131 : decode cX2_gatherBehind 131 = .ok (.goto (-108), 3) := by decide +kernel
theorem dX2_gatherBehind_134 : decode cX2_gatherBehind 134 = .ok (.return_, 1) := by decide +kernel
theorem dX2_findParts_0 : decode cX2_findParts 0 = .ok (.aload_n 0, 1) := by decide +kernel
theorem dX2_findParts_1 : decode cX2_findParts 1 = .ok (.getfield 67, 3) := by decide +kernel
theorem dX2_findParts_4 : decode cX2_findParts 4 = .ok (.iload_n 1, 1) := by decide +kernel
theorem dX2_findParts_5 : decode cX2_findParts 5 = .ok (.ior, 1) := by decide +kernel
theorem dX2_findParts_6 : decode cX2_findParts 6 = .ok (.istore_n 3, 1) := by decide +kernel
theorem dX2_findParts_7 : decode cX2_findParts 7 = .ok (.iconst 1, 1) := by decide +kernel
theorem dX2_findParts_8 : decode cX2_findParts 8 = .ok (.iload_n 2, 1) := by decide +kernel
theorem dX2_findParts_9 : decode cX2_findParts 9 = .ok (.invokestatic 53, 3) := by decide +kernel
theorem dX2_findParts_12 : decode cX2_findParts 12 = .ok (.ishl, 1) := by decide +kernel
theorem dX2_findParts_13 : decode cX2_findParts 13 = .ok (.istore 4, 2) := by decide +kernel
theorem dX2_findParts_15 : decode cX2_findParts 15 = .ok (.iconst 0, 1) := by decide +kernel
theorem dX2_findParts_16 : decode cX2_findParts 16 = .ok (.istore 5, 2) := by decide +kernel
theorem dX2_findParts_18 : decode cX2_findParts 18 = .ok (.iconst 0, 1) := by decide +kernel
theorem dX2_findParts_19 : decode cX2_findParts 19 = .ok (.istore 6, 2) := by decide +kernel
theorem dX2_findParts_21 : decode cX2_findParts 21 = .ok (.iload 6, 2) := by decide +kernel
theorem dX2_findParts_23 : decode cX2_findParts 23 = .ok (.iload 4, 2) := by decide +kernel
theorem dX2_findParts_25 : decode cX2_findParts 25 = .ok (.if_icmp .ge 34, 3) := by decide +kernel
theorem dX2_findParts_28 : decode cX2_findParts 28 = .ok (.aload_n 0, 1) := by decide +kernel
theorem dX2_findParts_29 : decode cX2_findParts 29 = .ok (.getfield 9, 3) := by decide +kernel
theorem dX2_findParts_32 : decode cX2_findParts 32 = .ok (.iload 5, 2) := by decide +kernel
theorem dX2_findParts_34 : decode cX2_findParts 34 = .ok (.iload 6, 2) := by decide +kernel
theorem dX2_findParts_36 : decode cX2_findParts 36 = .ok (.ifCond .ne 7, 3) := by decide +kernel
theorem dX2_findParts_39 : decode cX2_findParts 39 = .ok (.iconst 1, 1) := by decide +kernel
theorem dX2_findParts_40 : decode cX2_findParts 40 = .ok (.goto 4, 3) := by decide +kernel
theorem dX2_findParts_43 : decode cX2_findParts 43 = .ok (.iconst 0, 1) := by decide +kernel
theorem dX2_findParts_44 : decode cX2_findParts 44 = .ok (.iastore, 1) := by decide +kernel
theorem dX2_findParts_45 : decode cX2_findParts 45 = .ok (.iload 5, 2) := by decide +kernel
theorem dX2_findParts_47 : decode cX2_findParts 47 = .ok (.iload_n 2, 1) := by decide +kernel
theorem dX2_findParts_48 : decode cX2_findParts 48 = .ok (.isub, 1) := by decide +kernel
theorem dX2_findParts_49 : decode cX2_findParts 49 = .ok (.iload_n 2, 1) := by decide +kernel
theorem dX2_findParts_50 : decode cX2_findParts 50 = .ok (.iand, 1) := by decide +kernel
theorem dX2_findParts_51 : decode cX2_findParts 51 = .ok (.istore 5, 2) := by decide +kernel
theorem dX2_findParts_53 : decode cX2_findParts 53 = .ok (.iinc 6 1, 3) := by decide +kernel
theorem dX2_findParts_56 : decode cX2_findParts 56 = .ok (.goto (-35), 3) := by decide +kernel
theorem dX2_findParts_59 : decode cX2_findParts 59 = .ok (.iconst 0, 1) := by decide +kernel
theorem dX2_findParts_60 : decode cX2_findParts 60 = .ok (.istore 6, 2) := by decide +kernel
theorem dX2_findParts_62 : decode cX2_findParts 62 = .ok (.iload 6, 2) := by decide +kernel
theorem dX2_findParts_64 : decode cX2_findParts 64 = .ok (.iload 4, 2) := by decide +kernel
theorem dX2_findParts_66 : decode cX2_findParts 66 = .ok (.if_icmp .ge 92, 3) := by decide +kernel
theorem dX2_findParts_69 : decode cX2_findParts 69 = .ok (.iload 5, 2) := by decide +kernel
theorem dX2_findParts_71 : decode cX2_findParts 71 = .ok (.invokestatic 53, 3) := by decide +kernel
theorem dX2_findParts_74 : decode cX2_findParts 74 = .ok (.bipush 6, 2) := by decide +kernel
theorem dX2_findParts_76 : decode cX2_findParts 76 = .ok (.if_icmp .ge 29, 3) := by decide +kernel
theorem dX2_findParts_79 : decode cX2_findParts 79 = .ok (.aload_n 0, 1) := by decide +kernel
theorem dX2_findParts_80 : decode cX2_findParts 80 = .ok (.getfield 37, 3) := by decide +kernel
theorem dX2_findParts_83 : decode cX2_findParts 83 = .ok (.getfield 92, 3) := by decide +kernel
theorem dX2_findParts_86 : decode cX2_findParts 86 = .ok (.iload 5, 2) := by decide +kernel
theorem dX2_findParts_88 : decode cX2_findParts 88 = .ok (.iaload, 1) := by decide +kernel
theorem dX2_findParts_89 : decode cX2_findParts 89 = .ok (.aload_n 0, 1) := by decide +kernel
theorem dX2_findParts_90 : decode cX2_findParts 90 = .ok (.getfield 41, 3) := by decide +kernel
theorem dX2_findParts_93 : decode cX2_findParts 93 = .ok (.getfield 97, 3) := by decide +kernel
theorem dX2_findParts_96 : decode cX2_findParts 96 = .ok (.iconst 1, 1) := by decide +kernel
theorem dX2_findParts_97 : decode cX2_findParts 97 = .ok (.iaload, 1) := by decide +kernel
theorem dX2_findParts_98 : decode cX2_findParts 98 = .ok (.if_icmp .gt 7, 3) := by decide +kernel
theorem dX2_findParts_101 : decode cX2_findParts 101 = .ok (.iconst 1, 1) := by decide +kernel
theorem dX2_findParts_102 : decode cX2_findParts 102 = .ok (.goto 4, 3) := by decide +kernel
theorem dX2_findParts_105 : decode cX2_findParts 105 = .ok (.iconst 0, 1) := by decide +kernel
theorem dX2_findParts_106 : decode cX2_findParts 106 = .ok (.istore 7, 2) := by decide +kernel
theorem dX2_findParts_108 : decode cX2_findParts 108 = .ok (.iload 7, 2) := by decide +kernel
theorem dX2_findParts_110 : decode cX2_findParts 110 = .ok (.ifCond .eq 34, 3) := by decide +kernel
theorem dX2_findParts_113 : decode cX2_findParts 113 = .ok (.aload_n 0, 1) := by decide +kernel
theorem dX2_findParts_114 : decode cX2_findParts 114 = .ok (.getfield 9, 3) := by decide +kernel
theorem dX2_findParts_117 : decode cX2_findParts 117 = .ok (.iload 5, 2) := by decide +kernel
theorem dX2_findParts_119 : decode cX2_findParts 119 = .ok (.iaload, 1) := by decide +kernel
theorem dX2_findParts_120 : decode cX2_findParts 120 = .ok (.ifCond .eq 24, 3) := by decide +kernel
theorem dX2_findParts_123 : decode cX2_findParts 123 = .ok (.aload_n 0, 1) := by decide +kernel
theorem dX2_findParts_124 : decode cX2_findParts 124 = .ok (.iload_n 3, 1) := by decide +kernel
theorem dX2_findParts_125 : decode cX2_findParts 125 = .ok (.iload 5, 2) := by decide +kernel
theorem dX2_findParts_127 : decode cX2_findParts 127 = .ok (.aload_n 0, 1) := by decide +kernel
theorem dX2_findParts_128 : decode cX2_findParts 128 = .ok (.getfield 37, 3) := by decide +kernel
theorem dX2_findParts_131 : decode cX2_findParts 131 = .ok (.getfield 100, 3) := by decide +kernel
theorem dX2_findParts_134 : decode cX2_findParts 134 = .ok (.iload_n 3, 1) := by decide +kernel
theorem dX2_findParts_135 : decode cX2_findParts 135 = .ok (.iload 5, 2) := by decide +kernel
theorem dX2_findParts_137 : decode cX2_findParts 137 = .ok (.ior, 1) := by decide +kernel
theorem dX2_findParts_138 : decode cX2_findParts 138 = .ok (.iaload, 1) := by decide +kernel
theorem dX2_findParts_139 : decode cX2_findParts 139 = .ok (.iload_n 2, 1) := by decide +kernel
theorem dX2_findParts_140 : decode cX2_findParts 140 = .ok (.iand, 1) := by decide +kernel
theorem dX2_findParts_141 : decode cX2_findParts 141 = .ok (.invokevirtual 103, 3) := by decide +kernel
theorem dX2_findParts_144 : decode cX2_findParts 144 = .ok (.iload 5, 2) := by decide +kernel
theorem dX2_findParts_146 : decode cX2_findParts 146 = .ok (.iload_n 2, 1) := by decide +kernel
theorem dX2_findParts_147 : decode cX2_findParts 147 = .ok (.isub, 1) := by decide +kernel
theorem dX2_findParts_148 : decode cX2_findParts 148 = .ok (.iload_n 2, 1) := by decide +kernel
theorem dX2_findParts_149 : decode cX2_findParts 149 = .ok (.iand, 1) := by decide +kernel
theorem dX2_findParts_150 : decode cX2_findParts 150 = .ok (.istore 5, 2) := by decide +kernel
theorem dX2_findParts_152 : decode cX2_findParts 152 = .ok (.iinc 6 1, 3) := by decide +kernel
theorem dX2_findParts_155 : decode cX2_findParts 155 = .ok (.goto (-93), 3) := by decide +kernel
theorem dX2_findParts_158 : decode cX2_findParts 158 = .ok (.return_, 1) := by decide +kernel
theorem dX2_growPart_0 : decode cX2_growPart 0 = .ok (.iconst 0, 1) := by decide +kernel
theorem dX2_growPart_1 : decode cX2_growPart 1 = .ok (.istore 4, 2) := by decide +kernel
theorem dX2_growPart_3 : decode cX2_growPart 3 = .ok (.iload 4, 2) := by decide +kernel
theorem dX2_growPart_5 : decode cX2_growPart 5 = .ok (.aload_n 0, 1) := by decide +kernel
theorem dX2_growPart_6 : decode cX2_growPart 6 = .ok (.getfield 33, 3) := by decide +kernel
theorem dX2_growPart_9 : decode cX2_growPart 9 = .ok (.getfield 107, 3) := by decide +kernel
theorem dX2_growPart_12 : decode cX2_growPart 12 = .ok (.if_icmp .ge 94, 3) := by decide +kernel
theorem dX2_growPart_15 : decode cX2_growPart 15 = .ok (.iload_n 3, 1) := by decide +kernel
theorem dX2_growPart_16 : decode cX2_growPart 16 = .ok (.iload 4, 2) := by decide +kernel
theorem dX2_growPart_18 : decode cX2_growPart 18 = .ok (.ishr, 1) := by decide +kernel
theorem dX2_growPart_19 : decode cX2_growPart 19 = .ok (.ifCond .eq 87, 3) := by decide +kernel
theorem dX2_growPart_22 : decode cX2_growPart 22 = .ok (.iload_n 3, 1) := by decide +kernel
theorem dX2_growPart_23 : decode cX2_growPart 23 = .ok (.iload 4, 2) := by decide +kernel
theorem dX2_growPart_25 : decode cX2_growPart 25 = .ok (.ishr, 1) := by decide +kernel
theorem dX2_growPart_26 : decode cX2_growPart 26 = .ok (.iconst 1, 1) := by decide +kernel
theorem dX2_growPart_27 : decode cX2_growPart 27 = .ok (.iand, 1) := by decide +kernel
theorem dX2_growPart_28 : decode cX2_growPart 28 = .ok (.iconst 1, 1) := by decide +kernel
theorem dX2_growPart_29 : decode cX2_growPart 29 = .ok (.if_icmp .ne 71, 3) := by decide +kernel
theorem dX2_growPart_32 : decode cX2_growPart 32 = .ok (.iload_n 2, 1) := by decide +kernel
theorem dX2_growPart_33 : decode cX2_growPart 33 = .ok (.iconst 1, 1) := by decide +kernel
theorem dX2_growPart_34 : decode cX2_growPart 34 = .ok (.iload 4, 2) := by decide +kernel
theorem dX2_growPart_36 : decode cX2_growPart 36 = .ok (.ishl, 1) := by decide +kernel
theorem dX2_growPart_37 : decode cX2_growPart 37 = .ok (.ior, 1) := by decide +kernel
theorem dX2_growPart_38 : decode cX2_growPart 38 = .ok (.istore 5, 2) := by decide +kernel
theorem dX2_growPart_40 : decode cX2_growPart 40 = .ok (.aload_n 0, 1) := by decide +kernel
theorem dX2_growPart_41 : decode cX2_growPart 41 = .ok (.getfield 33, 3) := by decide +kernel
theorem dX2_growPart_44 : decode cX2_growPart 44 = .ok (.iload 4, 2) := by decide +kernel
theorem dX2_growPart_46 : decode cX2_growPart 46 = .ok (.iconst 4, 1) := by decide +kernel
theorem dX2_growPart_47 : decode cX2_growPart 47 = .ok (.invokevirtual 112, 3) := by decide +kernel
theorem dX2_growPart_50 : decode cX2_growPart 50 = .ok (.aload_n 0, 1) := by decide +kernel
theorem dX2_growPart_51 : decode cX2_growPart 51 = .ok (.getfield 37, 3) := by decide +kernel
theorem dX2_growPart_54 : decode cX2_growPart 54 = .ok (.getfield 115, 3) := by decide +kernel
theorem dX2_growPart_57 : decode cX2_growPart 57 = .ok (.iload_n 1, 1) := by decide +kernel
theorem dX2_growPart_58 : decode cX2_growPart 58 = .ok (.iload 5, 2) := by decide +kernel
theorem dX2_growPart_60 : decode cX2_growPart 60 = .ok (.ior, 1) := by decide +kernel
theorem dX2_growPart_61 : decode cX2_growPart 61 = .ok (.iaload, 1) := by decide +kernel
theorem dX2_growPart_62 : decode cX2_growPart 62 = .ok (.iand, 1) := by decide +kernel
theorem dX2_growPart_63 : decode cX2_growPart 63 = .ok (.ifCond .eq 7, 3) := by decide +kernel
theorem dX2_growPart_66 : decode cX2_growPart 66 = .ok (.iconst 1, 1) := by decide +kernel
theorem dX2_growPart_67 : decode cX2_growPart 67 = .ok (.goto 4, 3) := by decide +kernel
theorem dX2_growPart_70 : decode cX2_growPart 70 = .ok (.iconst 0, 1) := by decide +kernel
theorem dX2_growPart_71 : decode cX2_growPart 71 = .ok (.istore 6, 2) := by decide +kernel
theorem dX2_growPart_73 : decode cX2_growPart 73 = .ok (.aload_n 0, 1) := by decide +kernel
theorem dX2_growPart_74 : decode cX2_growPart 74 = .ok (.getfield 9, 3) := by decide +kernel
theorem dX2_growPart_77 : decode cX2_growPart 77 = .ok (.iload 5, 2) := by decide +kernel
theorem dX2_growPart_79 : decode cX2_growPart 79 = .ok (.aload_n 0, 1) := by decide +kernel
theorem dX2_growPart_80 : decode cX2_growPart 80 = .ok (.getfield 9, 3) := by decide +kernel
theorem dX2_growPart_83 : decode cX2_growPart 83 = .ok (.iload 5, 2) := by decide +kernel
theorem dX2_growPart_85 : decode cX2_growPart 85 = .ok (.iaload, 1) := by decide +kernel
theorem dX2_growPart_86 : decode cX2_growPart 86 = .ok (.iload 6, 2) := by decide +kernel
theorem dX2_growPart_88 : decode cX2_growPart 88 = .ok (.ifCond .eq 7, 3) := by decide +kernel
theorem dX2_growPart_91 : decode cX2_growPart 91 = .ok (.iconst 2, 1) := by decide +kernel
theorem dX2_growPart_92 : decode cX2_growPart 92 = .ok (.goto 4, 3) := by decide +kernel
theorem dX2_growPart_95 : decode cX2_growPart 95 = .ok (.iconst 1, 1) := by decide +kernel
theorem dX2_growPart_96 : decode cX2_growPart 96 = .ok (.invokestatic 87, 3) := by decide +kernel
theorem dX2_growPart_99 : decode cX2_growPart 99 = .ok (.iastore, 1) := by decide +kernel
theorem dX2_growPart_100 : decode cX2_growPart 100 = .ok (.iinc 4 1, 3) := by decide +kernel
theorem dX2_growPart_103 : decode cX2_growPart 103 = .ok (.goto (-100), 3) := by decide +kernel
theorem dX2_growPart_106 : decode cX2_growPart 106 = .ok (.return_, 1) := by decide +kernel
theorem dX2_worthOfPart_0 : decode cX2_worthOfPart 0 = .ok (.aload_n 0, 1) := by decide +kernel
theorem dX2_worthOfPart_1 : decode cX2_worthOfPart 1 = .ok (.getfield 37, 3) := by decide +kernel
theorem dX2_worthOfPart_4 : decode cX2_worthOfPart 4 = .ok (.getfield 92, 3) := by decide +kernel
theorem dX2_worthOfPart_7 : decode cX2_worthOfPart 7 = .ok (.iload_n 2, 1) := by decide +kernel
theorem dX2_worthOfPart_8 : decode cX2_worthOfPart 8 = .ok (.iaload, 1) := by decide +kernel
theorem dX2_worthOfPart_9 : decode cX2_worthOfPart 9 = .ok (.istore_n 3, 1) := by decide +kernel
theorem dX2_worthOfPart_10 : decode cX2_worthOfPart 10 = .ok (.aload_n 0, 1) := by decide +kernel
theorem dX2_worthOfPart_11 : decode cX2_worthOfPart 11 = .ok (.getfield 9, 3) := by decide +kernel
theorem dX2_worthOfPart_14 : decode cX2_worthOfPart 14 = .ok (.iload_n 2, 1) := by decide +kernel
theorem dX2_worthOfPart_15 : decode cX2_worthOfPart 15 = .ok (.iaload, 1) := by decide +kernel
theorem dX2_worthOfPart_16 : decode cX2_worthOfPart 16 = .ok (.ifCond .eq 29, 3) := by decide +kernel
theorem dX2_worthOfPart_19 : decode cX2_worthOfPart 19 = .ok (.iload_n 3, 1) := by decide +kernel
theorem dX2_worthOfPart_20 : decode cX2_worthOfPart 20 = .ok (.aload_n 0, 1) := by decide +kernel
theorem dX2_worthOfPart_21 : decode cX2_worthOfPart 21 = .ok (.getfield 41, 3) := by decide +kernel
theorem dX2_worthOfPart_24 : decode cX2_worthOfPart 24 = .ok (.getfield 97, 3) := by decide +kernel
theorem dX2_worthOfPart_27 : decode cX2_worthOfPart 27 = .ok (.iconst 0, 1) := by decide +kernel
theorem dX2_worthOfPart_28 : decode cX2_worthOfPart 28 = .ok (.iaload, 1) := by decide +kernel
theorem dX2_worthOfPart_29 : decode cX2_worthOfPart 29 = .ok (.if_icmp .lt 16, 3) := by decide +kernel
theorem dX2_worthOfPart_32 : decode cX2_worthOfPart 32 = .ok (.iload_n 3, 1) := by decide +kernel
theorem dX2_worthOfPart_33 : decode cX2_worthOfPart 33 = .ok (.aload_n 0, 1) := by decide +kernel
theorem dX2_worthOfPart_34 : decode cX2_worthOfPart 34 = .ok (.getfield 41, 3) := by decide +kernel
theorem dX2_worthOfPart_37 : decode cX2_worthOfPart 37 = .ok (.getfield 97, 3) := by decide +kernel
theorem dX2_worthOfPart_40 : decode cX2_worthOfPart 40 = .ok (.iconst 1, 1) := by decide +kernel
theorem dX2_worthOfPart_41 : decode cX2_worthOfPart 41 = .ok (.iaload, 1) := by decide +kernel
theorem dX2_worthOfPart_42 : decode cX2_worthOfPart 42 = .ok (.if_icmp .le 5, 3) := by decide +kernel
theorem dX2_worthOfPart_45 : decode cX2_worthOfPart 45 = .ok (.iconst (-1), 1) := by decide +kernel
theorem dX2_worthOfPart_46 : decode cX2_worthOfPart 46 = .ok (.ireturn, 1) := by decide +kernel
theorem dX2_worthOfPart_47 : decode cX2_worthOfPart 47 = .ok (.aload_n 0, 1) := by decide +kernel
theorem dX2_worthOfPart_48 : decode cX2_worthOfPart 48 = .ok (.getfield 37, 3) := by decide +kernel
theorem dX2_worthOfPart_51 : decode cX2_worthOfPart 51 = .ok (.getfield 115, 3) := by decide +kernel
theorem dX2_worthOfPart_54 : decode cX2_worthOfPart 54 = .ok (.aload_n 0, 1) := by decide +kernel
theorem dX2_worthOfPart_55 : decode cX2_worthOfPart 55 = .ok (.getfield 67, 3) := by decide +kernel
theorem dX2_worthOfPart_58 : decode cX2_worthOfPart 58 = .ok (.iload_n 1, 1) := by decide +kernel
theorem dX2_worthOfPart_59 : decode cX2_worthOfPart 59 = .ok (.ior, 1) := by decide +kernel
theorem dX2_worthOfPart_60 : decode cX2_worthOfPart 60 = .ok (.iload_n 2, 1) := by decide +kernel
theorem dX2_worthOfPart_61 : decode cX2_worthOfPart 61 = .ok (.ior, 1) := by decide +kernel
theorem dX2_worthOfPart_62 : decode cX2_worthOfPart 62 = .ok (.iaload, 1) := by decide +kernel
theorem dX2_worthOfPart_63 : decode cX2_worthOfPart 63 = .ok (.istore 4, 2) := by decide +kernel
theorem dX2_worthOfPart_65 : decode cX2_worthOfPart 65 = .ok (.aload_n 0, 1) := by decide +kernel
theorem dX2_worthOfPart_66 : decode cX2_worthOfPart 66 = .ok (.getfield 9, 3) := by decide +kernel
theorem dX2_worthOfPart_69 : decode cX2_worthOfPart 69 = .ok (.iload_n 2, 1) := by decide +kernel
theorem dX2_worthOfPart_70 : decode cX2_worthOfPart 70 = .ok (.iaload, 1) := by decide +kernel
theorem dX2_worthOfPart_71 : decode cX2_worthOfPart 71 = .ok (.iconst 2, 1) := by decide +kernel
theorem dX2_worthOfPart_72 : decode cX2_worthOfPart 72 = .ok (.if_icmp .ne 15, 3) := by decide +kernel
theorem dX2_worthOfPart_75 : decode cX2_worthOfPart 75 = .ok (.aload_n 0, 1) := by decide +kernel
theorem dX2_worthOfPart_76 : decode cX2_worthOfPart 76 = .ok (.getfield 41, 3) := by decide +kernel
theorem dX2_worthOfPart_79 : decode cX2_worthOfPart 79 = .ok (.getfield 97, 3) := by decide +kernel
theorem dX2_worthOfPart_82 : decode cX2_worthOfPart 82 = .ok (.iconst 4, 1) := by decide +kernel
theorem dX2_worthOfPart_83 : decode cX2_worthOfPart 83 = .ok (.iaload, 1) := by decide +kernel
theorem dX2_worthOfPart_84 : decode cX2_worthOfPart 84 = .ok (.goto 4, 3) := by decide +kernel
theorem dX2_worthOfPart_87 : decode cX2_worthOfPart 87 = .ok (.iconst 0, 1) := by decide +kernel
theorem dX2_worthOfPart_88 : decode cX2_worthOfPart 88 = .ok (.istore 5, 2) := by decide +kernel
theorem dX2_worthOfPart_90 : decode cX2_worthOfPart 90 = .ok (.aload_n 0, 1) := by decide +kernel
theorem dX2_worthOfPart_91 : decode cX2_worthOfPart 91 = .ok (.getfield 37, 3) := by decide +kernel
theorem dX2_worthOfPart_94 : decode cX2_worthOfPart 94 = .ok (.getfield 118, 3) := by decide +kernel
theorem dX2_worthOfPart_97 : decode cX2_worthOfPart 97 = .ok (.iload_n 2, 1) := by decide +kernel
theorem dX2_worthOfPart_98 : decode cX2_worthOfPart 98 = .ok (.iaload, 1) := by decide +kernel
theorem dX2_worthOfPart_99 : decode cX2_worthOfPart 99 = .ok (.aload_n 0, 1) := by decide +kernel
theorem dX2_worthOfPart_100 : decode cX2_worthOfPart 100 = .ok (.getfield 41, 3) := by decide +kernel
theorem dX2_worthOfPart_103 : decode cX2_worthOfPart 103 = .ok (.getfield 97, 3) := by decide +kernel
theorem dX2_worthOfPart_106 : decode cX2_worthOfPart 106 = .ok (.iconst 5, 1) := by decide +kernel
theorem dX2_worthOfPart_107 : decode cX2_worthOfPart 107 = .ok (.iaload, 1) := by decide +kernel
theorem dX2_worthOfPart_108 : decode cX2_worthOfPart 108 = .ok (.iload 4, 2) := by decide +kernel
theorem dX2_worthOfPart_110 : decode cX2_worthOfPart 110 = .ok (.invokestatic 53, 3) := by decide +kernel
theorem dX2_worthOfPart_113 : decode cX2_worthOfPart 113 = .ok (.imul, 1) := by decide +kernel
theorem dX2_worthOfPart_114 : decode cX2_worthOfPart 114 = .ok (.iadd, 1) := by decide +kernel
theorem dX2_worthOfPart_115 : decode cX2_worthOfPart 115 = .ok (.iload 5, 2) := by decide +kernel
theorem dX2_worthOfPart_117 : decode cX2_worthOfPart 117 = .ok (.iadd, 1) := by decide +kernel
theorem dX2_worthOfPart_118 : decode cX2_worthOfPart 118 = .ok (.ireturn, 1) := by decide +kernel
theorem dX3_init_0 : decode cX3_init 0 = .ok (.aload_n 0, 1) := by decide +kernel
theorem dX3_init_1 : decode cX3_init 1 = .ok (.invokespecial 3, 3) := by decide +kernel
theorem dX3_init_4 : decode cX3_init 4 = .ok (.aload_n 0, 1) := by decide +kernel
theorem dX3_init_5 : decode cX3_init 5 = .ok (.aload_n 1, 1) := by decide +kernel
theorem dX3_init_6 : decode cX3_init 6 = .ok (.putfield 9, 3) := by decide +kernel
theorem dX3_init_9 : decode cX3_init 9 = .ok (.aload_n 0, 1) := by decide +kernel
theorem dX3_init_10 : decode cX3_init 10 = .ok (.aload_n 2, 1) := by decide +kernel
theorem dX3_init_11 : decode cX3_init 11 = .ok (.putfield 15, 3) := by decide +kernel
theorem dX3_init_14 : decode cX3_init 14 = .ok (.return_, 1) := by decide +kernel
theorem dX3_linesOf_0 : decode cX3_linesOf 0 = .ok (.aload_n 0, 1) := by decide +kernel
theorem dX3_linesOf_1 : decode cX3_linesOf 1 = .ok (.getfield 15, 3) := by decide +kernel
theorem dX3_linesOf_4 : decode cX3_linesOf 4 = .ok (.getfield 19, 3) := by decide +kernel
theorem dX3_linesOf_7 : decode cX3_linesOf 7 = .ok (.iconst 3, 1) := by decide +kernel
theorem dX3_linesOf_8 : decode cX3_linesOf 8 = .ok (.iaload, 1) := by decide +kernel
theorem dX3_linesOf_9 : decode cX3_linesOf 9 = .ok (.aload_n 0, 1) := by decide +kernel
theorem dX3_linesOf_10 : decode cX3_linesOf 10 = .ok (.iload_n 1, 1) := by decide +kernel
theorem dX3_linesOf_11 : decode cX3_linesOf 11 = .ok (.invokevirtual 25, 3) := by decide +kernel
theorem dX3_linesOf_14 : decode cX3_linesOf 14 = .ok (.invokestatic 29, 3) := by decide +kernel
theorem dX3_linesOf_17 : decode cX3_linesOf 17 = .ok (.imul, 1) := by decide +kernel
theorem dX3_linesOf_18 : decode cX3_linesOf 18 = .ok (.istore_n 2, 1) := by decide +kernel
theorem dX3_linesOf_19 : decode cX3_linesOf 19 = .ok (.aload_n 0, 1) := by decide +kernel
theorem dX3_linesOf_20 : decode cX3_linesOf 20 = .ok (.getfield 9, 3) := by decide +kernel
theorem dX3_linesOf_23 : decode cX3_linesOf 23 = .ok (.aload_n 0, 1) := by decide +kernel
theorem dX3_linesOf_24 : decode cX3_linesOf 24 = .ok (.getfield 15, 3) := by decide +kernel
theorem dX3_linesOf_27 : decode cX3_linesOf 27 = .ok (.iload_n 1, 1) := by decide +kernel
theorem dX3_linesOf_28 : decode cX3_linesOf 28 = .ok (.invokevirtual 34, 3) := by decide +kernel
theorem dX3_linesOf_31 : decode cX3_linesOf 31 = .ok (.iconst 0, 1) := by decide +kernel
theorem dX3_linesOf_32 : decode cX3_linesOf 32 = .ok (.invokevirtual 39, 3) := by decide +kernel
theorem dX3_linesOf_35 : decode cX3_linesOf 35 = .ok (.iload_n 2, 1) := by decide +kernel
theorem dX3_linesOf_36 : decode cX3_linesOf 36 = .ok (.iadd, 1) := by decide +kernel
theorem dX3_linesOf_37 : decode cX3_linesOf 37 = .ok (.ireturn, 1) := by decide +kernel
theorem dX3_remindedIn_0 : decode cX3_remindedIn 0 = .ok (.iconst 0, 1) := by decide +kernel
theorem dX3_remindedIn_1 : decode cX3_remindedIn 1 = .ok (.istore_n 2, 1) := by decide +kernel
theorem dX3_remindedIn_2 : decode cX3_remindedIn 2 = .ok (.iconst 0, 1) := by decide +kernel
theorem dX3_remindedIn_3 : decode cX3_remindedIn 3 = .ok (.istore_n 3, 1) := by decide +kernel
theorem dX3_remindedIn_4 : decode cX3_remindedIn 4 = .ok (.iconst 0, 1) := by decide +kernel
theorem dX3_remindedIn_5 : decode cX3_remindedIn 5 = .ok (.istore 4, 2) := by decide +kernel
theorem dX3_remindedIn_7 : decode cX3_remindedIn 7 = .ok (.iload 4, 2) := by decide +kernel
theorem dX3_remindedIn_9 : decode cX3_remindedIn 9 = .ok (.iload_n 1, 1) := by decide +kernel
theorem dX3_remindedIn_10 : decode cX3_remindedIn 10 = .ok (.if_icmp .ge 54, 3) := by decide +kernel
theorem dX3_remindedIn_13 : decode cX3_remindedIn 13 = .ok (.aload_n 0, 1) := by decide +kernel
theorem dX3_remindedIn_14 : decode cX3_remindedIn 14 = .ok (.getfield 9, 3) := by decide +kernel
theorem dX3_remindedIn_17 : decode cX3_remindedIn 17 = .ok (.aload_n 0, 1) := by decide +kernel
theorem dX3_remindedIn_18 : decode cX3_remindedIn 18 = .ok (.getfield 15, 3) := by decide +kernel
theorem dX3_remindedIn_21 : decode cX3_remindedIn 21 = .ok (.iload 4, 2) := by decide +kernel
theorem dX3_remindedIn_23 : decode cX3_remindedIn 23 = .ok (.invokevirtual 34, 3) := by decide +kernel
theorem dX3_remindedIn_26 : decode cX3_remindedIn 26 = .ok (.iconst 2, 1) := by decide +kernel
theorem dX3_remindedIn_27 : decode cX3_remindedIn 27 = .ok (.invokevirtual 43, 3) := by decide +kernel
theorem dX3_remindedIn_30 : decode cX3_remindedIn 30 = .ok (.istore 5, 2) := by decide +kernel
theorem dX3_remindedIn_32 : decode cX3_remindedIn 32 = .ok (.iload_n 2, 1) := by decide +kernel
theorem dX3_remindedIn_33 : decode cX3_remindedIn 33 = .ok (.iload 5, 2) := by decide +kernel
theorem dX3_remindedIn_35 : decode cX3_remindedIn 35 = .ok (.ior, 1) := by decide +kernel
theorem dX3_remindedIn_36 : decode cX3_remindedIn 36 = .ok (.istore_n 2, 1) := by decide +kernel
theorem dX3_remindedIn_37 : decode cX3_remindedIn 37 = .ok (.iload_n 1, 1) := by decide +kernel
theorem dX3_remindedIn_38 : decode cX3_remindedIn 38 = .ok (.iload 4, 2) := by decide +kernel
theorem dX3_remindedIn_40 : decode cX3_remindedIn 40 = .ok (.isub, 1) := by decide +kernel
theorem dX3_remindedIn_41 : decode cX3_remindedIn 41 = .ok (.aload_n 0, 1) := by decide +kernel
theorem dX3_remindedIn_42 : decode cX3_remindedIn 42 = .ok (.getfield 15, 3) := by decide +kernel
theorem dX3_remindedIn_45 : decode cX3_remindedIn 45 = .ok (.getfield 19, 3) := by decide +kernel
theorem dX3_remindedIn_48 : decode cX3_remindedIn 48 = .ok (.iconst 2, 1) := by decide +kernel
theorem dX3_remindedIn_49 : decode cX3_remindedIn 49 = .ok (.iaload, 1) := by decide +kernel
theorem dX3_remindedIn_50 : decode cX3_remindedIn 50 = .ok (.if_icmp .gt 8, 3) := by decide +kernel
theorem dX3_remindedIn_53 : decode cX3_remindedIn 53 = .ok (.iload_n 3, 1) := by decide +kernel
theorem dX3_remindedIn_54 : decode cX3_remindedIn 54 = .ok (.iload 5, 2) := by decide +kernel
theorem dX3_remindedIn_56 : decode cX3_remindedIn 56 = .ok (.ior, 1) := by decide +kernel
theorem dX3_remindedIn_57 : decode cX3_remindedIn 57 = .ok (.istore_n 3, 1) := by decide +kernel
theorem dX3_remindedIn_58 : decode cX3_remindedIn 58 = .ok (.iinc 4 1, 3) := by decide +kernel
theorem dX3_remindedIn_61 : decode cX3_remindedIn 61 = .ok (.goto (-54), 3) := by decide +kernel
theorem dX3_remindedIn_64 : decode cX3_remindedIn 64 = .ok (.aload_n 0, 1) := by decide +kernel
theorem dX3_remindedIn_65 : decode cX3_remindedIn 65 = .ok (.getfield 9, 3) := by decide +kernel
theorem dX3_remindedIn_68 : decode cX3_remindedIn 68 = .ok (.aload_n 0, 1) := by decide +kernel
theorem dX3_remindedIn_69 : decode cX3_remindedIn 69 = .ok (.getfield 15, 3) := by decide +kernel
theorem dX3_remindedIn_72 : decode cX3_remindedIn 72 = .ok (.iload_n 1, 1) := by decide +kernel
theorem dX3_remindedIn_73 : decode cX3_remindedIn 73 = .ok (.invokevirtual 34, 3) := by decide +kernel
theorem dX3_remindedIn_76 : decode cX3_remindedIn 76 = .ok (.iconst 2, 1) := by decide +kernel
theorem dX3_remindedIn_77 : decode cX3_remindedIn 77 = .ok (.invokevirtual 43, 3) := by decide +kernel
theorem dX3_remindedIn_80 : decode cX3_remindedIn 80 = .ok (.iload_n 2, 1) := by decide +kernel
theorem dX3_remindedIn_81 : decode cX3_remindedIn 81 = .ok (.iand, 1) := by decide +kernel
theorem dX3_remindedIn_82 : decode cX3_remindedIn 82 = .ok (.iload_n 3, 1) := by decide +kernel
theorem dX3_remindedIn_83 : decode cX3_remindedIn 83 = .ok (.iconst (-1), 1) := by decide +kernel
theorem dX3_remindedIn_84 : decode cX3_remindedIn 84 = .ok (.ixor, 1) := by decide +kernel
theorem dX3_remindedIn_85 : decode cX3_remindedIn 85 = .ok (.iand, 1) := by decide +kernel
theorem dX3_remindedIn_86 : decode cX3_remindedIn 86 = .ok (.ireturn, 1) := by decide +kernel
theorem dX3_openBehindNumber_0 : decode cX3_openBehindNumber 0 = .ok (.aload_n 0, 1) := by decide +kernel
theorem dX3_openBehindNumber_1 : decode cX3_openBehindNumber 1 = .ok (.getfield 9, 3) := by decide +kernel
theorem dX3_openBehindNumber_4 : decode cX3_openBehindNumber 4 = .ok (.aload_n 0, 1) := by decide +kernel
theorem dX3_openBehindNumber_5 : decode cX3_openBehindNumber 5 = .ok (.getfield 15, 3) := by decide +kernel
theorem dX3_openBehindNumber_8 : decode cX3_openBehindNumber 8 = .ok (.aload_n 0, 1) := by decide +kernel
theorem dX3_openBehindNumber_9 : decode cX3_openBehindNumber 9 = .ok (.getfield 15, 3) := by decide +kernel
theorem dX3_openBehindNumber_12 : decode cX3_openBehindNumber 12 = .ok (.iload_n 1, 1) := by decide +kernel
theorem dX3_openBehindNumber_13 : decode cX3_openBehindNumber 13 = .ok (.invokevirtual 46, 3) := by decide +kernel
theorem dX3_openBehindNumber_16 : decode cX3_openBehindNumber 16 = .ok (.invokevirtual 49, 3) := by decide +kernel
theorem dX3_openBehindNumber_19 : decode cX3_openBehindNumber 19 = .ok (.invokevirtual 52, 3) := by decide +kernel
end
section
theorem dX3_openBehindNumber_22 : decode cX3_openBehindNumber 22 = .ok (.ireturn, 1) := by decide +kernel
theorem dX3_pullOf_0 : decode cX3_pullOf 0 = .ok (.aload_n 0, 1) := by decide +kernel
theorem dX3_pullOf_1 : decode cX3_pullOf 1 = .ok (.iload_n 1, 1) := by decide +kernel
theorem dX3_pullOf_2 : decode cX3_pullOf 2 = .ok (.invokevirtual 55, 3) := by decide +kernel
theorem dX3_pullOf_5 : decode cX3_pullOf 5 = .ok (.istore_n 2, 1) := by decide +kernel
theorem dX3_pullOf_6 : decode cX3_pullOf 6 = .ok (.aload_n 0, 1) := by decide +kernel
theorem dX3_pullOf_7 : decode cX3_pullOf 7 = .ok (.getfield 9, 3) := by decide +kernel
theorem dX3_pullOf_10 : decode cX3_pullOf 10 = .ok (.aload_n 0, 1) := by decide +kernel
theorem dX3_pullOf_11 : decode cX3_pullOf 11 = .ok (.getfield 15, 3) := by decide +kernel
theorem dX3_pullOf_14 : decode cX3_pullOf 14 = .ok (.iload_n 1, 1) := by decide +kernel
theorem dX3_pullOf_15 : decode cX3_pullOf 15 = .ok (.invokevirtual 34, 3) := by decide +kernel
theorem dX3_pullOf_18 : decode cX3_pullOf 18 = .ok (.iconst 1, 1) := by decide +kernel
theorem dX3_pullOf_19 : decode cX3_pullOf 19 = .ok (.invokevirtual 39, 3) := by decide +kernel
theorem dX3_pullOf_22 : decode cX3_pullOf 22 = .ok (.aload_n 0, 1) := by decide +kernel
theorem dX3_pullOf_23 : decode cX3_pullOf 23 = .ok (.getfield 15, 3) := by decide +kernel
theorem dX3_pullOf_26 : decode cX3_pullOf 26 = .ok (.getfield 19, 3) := by decide +kernel
theorem dX3_pullOf_29 : decode cX3_pullOf 29 = .ok (.iconst 5, 1) := by decide +kernel
theorem dX3_pullOf_30 : decode cX3_pullOf 30 = .ok (.iaload, 1) := by decide +kernel
theorem dX3_pullOf_31 : decode cX3_pullOf 31 = .ok (.iload_n 2, 1) := by decide +kernel
theorem dX3_pullOf_32 : decode cX3_pullOf 32 = .ok (.invokestatic 29, 3) := by decide +kernel
theorem dX3_pullOf_35 : decode cX3_pullOf 35 = .ok (.imul, 1) := by decide +kernel
theorem dX3_pullOf_36 : decode cX3_pullOf 36 = .ok (.iadd, 1) := by decide +kernel
theorem dX3_pullOf_37 : decode cX3_pullOf 37 = .ok (.istore_n 3, 1) := by decide +kernel
theorem dX3_pullOf_38 : decode cX3_pullOf 38 = .ok (.aload_n 0, 1) := by decide +kernel
theorem dX3_pullOf_39 : decode cX3_pullOf 39 = .ok (.getfield 15, 3) := by decide +kernel
theorem dX3_pullOf_42 : decode cX3_pullOf 42 = .ok (.iload_n 1, 1) := by decide +kernel
theorem dX3_pullOf_43 : decode cX3_pullOf 43 = .ok (.aload_n 0, 1) := by decide +kernel
theorem dX3_pullOf_44 : decode cX3_pullOf 44 = .ok (.getfield 15, 3) := by decide +kernel
theorem dX3_pullOf_47 : decode cX3_pullOf 47 = .ok (.iload_n 1, 1) := by decide +kernel
theorem dX3_pullOf_48 : decode cX3_pullOf 48 = .ok (.invokevirtual 46, 3) := by decide +kernel
theorem dX3_pullOf_51 : decode cX3_pullOf 51 = .ok (.aload_n 0, 1) := by decide +kernel
theorem dX3_pullOf_52 : decode cX3_pullOf 52 = .ok (.getfield 15, 3) := by decide +kernel
theorem dX3_pullOf_55 : decode cX3_pullOf 55 = .ok (.iload_n 1, 1) := by decide +kernel
theorem dX3_pullOf_56 : decode cX3_pullOf 56 = .ok (.invokevirtual 58, 3) := by decide +kernel
theorem dX3_pullOf_59 : decode cX3_pullOf 59 = .ok (.isub, 1) := by decide +kernel
theorem dX3_pullOf_60 : decode cX3_pullOf 60 = .ok (.iconst 1, 1) := by decide +kernel
theorem dX3_pullOf_61 : decode cX3_pullOf 61 = .ok (.isub, 1) := by decide +kernel
theorem dX3_pullOf_62 : decode cX3_pullOf 62 = .ok (.invokevirtual 61, 3) := by decide +kernel
theorem dX3_pullOf_65 : decode cX3_pullOf 65 = .ok (.istore 4, 2) := by decide +kernel
theorem dX3_pullOf_67 : decode cX3_pullOf 67 = .ok (.aload_n 0, 1) := by decide +kernel
theorem dX3_pullOf_68 : decode cX3_pullOf 68 = .ok (.getfield 9, 3) := by decide +kernel
theorem dX3_pullOf_71 : decode cX3_pullOf 71 = .ok (.iload 4, 2) := by decide +kernel
theorem dX3_pullOf_73 : decode cX3_pullOf 73 = .ok (.iconst 4, 1) := by decide +kernel
theorem dX3_pullOf_74 : decode cX3_pullOf 74 = .ok (.invokevirtual 64, 3) := by decide +kernel
theorem dX3_pullOf_77 : decode cX3_pullOf 77 = .ok (.iload_n 2, 1) := by decide +kernel
theorem dX3_pullOf_78 : decode cX3_pullOf 78 = .ok (.iand, 1) := by decide +kernel
theorem dX3_pullOf_79 : decode cX3_pullOf 79 = .ok (.ifCond .eq 15, 3) := by decide +kernel
theorem dX3_pullOf_82 : decode cX3_pullOf 82 = .ok (.iload_n 3, 1) := by decide +kernel
theorem dX3_pullOf_83 : decode cX3_pullOf 83 = .ok (.aload_n 0, 1) := by decide +kernel
theorem dX3_pullOf_84 : decode cX3_pullOf 84 = .ok (.getfield 15, 3) := by decide +kernel
theorem dX3_pullOf_87 : decode cX3_pullOf 87 = .ok (.getfield 19, 3) := by decide +kernel
theorem dX3_pullOf_90 : decode cX3_pullOf 90 = .ok (.iconst 4, 1) := by decide +kernel
theorem dX3_pullOf_91 : decode cX3_pullOf 91 = .ok (.iaload, 1) := by decide +kernel
theorem dX3_pullOf_92 : decode cX3_pullOf 92 = .ok (.iadd, 1) := by decide +kernel
theorem dX3_pullOf_93 : decode cX3_pullOf 93 = .ok (.istore_n 3, 1) := by decide +kernel
theorem dX3_pullOf_94 : decode cX3_pullOf 94 = .ok (.iload_n 1, 1) := by decide +kernel
theorem dX3_pullOf_95 : decode cX3_pullOf 95 = .ok (.iconst 4, 1) := by decide +kernel
theorem dX3_pullOf_96 : decode cX3_pullOf 96 = .ok (.if_icmp .ge 7, 3) := by decide +kernel
theorem dX3_pullOf_99 : decode cX3_pullOf 99 = .ok (.iconst 0, 1) := by decide +kernel
theorem dX3_pullOf_100 : decode cX3_pullOf 100 = .ok (.goto 20, 3) := by decide +kernel
theorem dX3_pullOf_103 : decode cX3_pullOf 103 = .ok (.aload_n 0, 1) := by decide +kernel
theorem dX3_pullOf_104 : decode cX3_pullOf 104 = .ok (.getfield 15, 3) := by decide +kernel
theorem dX3_pullOf_107 : decode cX3_pullOf 107 = .ok (.aload_n 0, 1) := by decide +kernel
theorem dX3_pullOf_108 : decode cX3_pullOf 108 = .ok (.getfield 15, 3) := by decide +kernel
theorem dX3_pullOf_111 : decode cX3_pullOf 111 = .ok (.iload_n 1, 1) := by decide +kernel
theorem dX3_pullOf_112 : decode cX3_pullOf 112 = .ok (.iconst 4, 1) := by decide +kernel
theorem dX3_pullOf_113 : decode cX3_pullOf 113 = .ok (.isub, 1) := by decide +kernel
theorem dX3_pullOf_114 : decode cX3_pullOf 114 = .ok (.invokevirtual 46, 3) := by decide +kernel
theorem dX3_pullOf_117 : decode cX3_pullOf 117 = .ok (.invokevirtual 49, 3) := by decide +kernel
theorem dX3_pullOf_120 : decode cX3_pullOf 120 = .ok (.istore 5, 2) := by decide +kernel
theorem dX3_pullOf_122 : decode cX3_pullOf 122 = .ok (.iload_n 3, 1) := by decide +kernel
theorem dX3_pullOf_123 : decode cX3_pullOf 123 = .ok (.aload_n 0, 1) := by decide +kernel
theorem dX3_pullOf_124 : decode cX3_pullOf 124 = .ok (.getfield 15, 3) := by decide +kernel
theorem dX3_pullOf_127 : decode cX3_pullOf 127 = .ok (.getfield 19, 3) := by decide +kernel
theorem dX3_pullOf_130 : decode cX3_pullOf 130 = .ok (.bipush 6, 2) := by decide +kernel
theorem dX3_pullOf_132 : decode cX3_pullOf 132 = .ok (.iaload, 1) := by decide +kernel
theorem dX3_pullOf_133 : decode cX3_pullOf 133 = .ok (.iload_n 2, 1) := by decide +kernel
theorem dX3_pullOf_134 : decode cX3_pullOf 134 = .ok (.aload_n 0, 1) := by decide +kernel
theorem dX3_pullOf_135 : decode cX3_pullOf 135 = .ok (.getfield 9, 3) := by decide +kernel
theorem dX3_pullOf_138 : decode cX3_pullOf 138 = .ok (.iload 5, 2) := by decide +kernel
theorem dX3_pullOf_140 : decode cX3_pullOf 140 = .ok (.iconst 4, 1) := by decide +kernel
theorem dX3_pullOf_141 : decode cX3_pullOf 141 = .ok (.invokevirtual 43, 3) := by decide +kernel
theorem dX3_pullOf_144 : decode cX3_pullOf 144 = .ok (.iand, 1) := by decide +kernel
theorem dX3_pullOf_145 : decode cX3_pullOf 145 = .ok (.invokestatic 29, 3) := by decide +kernel
theorem dX3_pullOf_148 : decode cX3_pullOf 148 = .ok (.imul, 1) := by decide +kernel
theorem dX3_pullOf_149 : decode cX3_pullOf 149 = .ok (.isub, 1) := by decide +kernel
theorem dX3_pullOf_150 : decode cX3_pullOf 150 = .ok (.ireturn, 1) := by decide +kernel
theorem dX3_readersBehind_0 : decode cX3_readersBehind 0 = .ok (.ldc2_w 67, 3) := by decide +kernel
theorem dX3_readersBehind_3 : decode cX3_readersBehind 3 = .ok (.lstore_n 2, 1) := by decide +kernel
theorem dX3_readersBehind_4 : decode cX3_readersBehind 4 = .ok (.iconst 0, 1) := by decide +kernel
theorem dX3_readersBehind_5 : decode cX3_readersBehind 5 = .ok (.istore 4, 2) := by decide +kernel
theorem dX3_readersBehind_7 : decode cX3_readersBehind 7 = .ok (.iload 4, 2) := by decide +kernel
theorem dX3_readersBehind_9 : decode cX3_readersBehind 9 = .ok (.iload_n 1, 1) := by decide +kernel
theorem dX3_readersBehind_10 : decode cX3_readersBehind 10 = .ok (.if_icmp .gt 49, 3) := by decide +kernel
theorem dX3_readersBehind_13 : decode cX3_readersBehind 13 = .ok (.lload_n 2, 1) := by decide +kernel
theorem dX3_readersBehind_14 : decode cX3_readersBehind 14 = .ok (.bipush 100, 2) := by decide +kernel
theorem dX3_readersBehind_16 : decode cX3_readersBehind 16 = .ok (.aload_n 0, 1) := by decide +kernel
theorem dX3_readersBehind_17 : decode cX3_readersBehind 17 = .ok (.getfield 15, 3) := by decide +kernel
theorem dX3_readersBehind_20 : decode cX3_readersBehind 20 = .ok (.getfield 19, 3) := by decide +kernel
theorem dX3_readersBehind_23 : decode cX3_readersBehind 23 = .ok (.bipush 7, 2) := by decide +kernel
theorem dX3_readersBehind_25 : decode cX3_readersBehind 25 = .ok (.iaload, 1) := by decide +kernel
theorem dX3_readersBehind_26 : decode cX3_readersBehind 26 = .ok (.isub, 1) := by decide +kernel
theorem dX3_readersBehind_27 : decode cX3_readersBehind 27 = .ok (.aload_n 0, 1) := by decide +kernel
theorem dX3_readersBehind_28 : decode cX3_readersBehind 28 = .ok (.iload 4, 2) := by decide +kernel
theorem dX3_readersBehind_30 : decode cX3_readersBehind 30 = .ok (.invokevirtual 69, 3) := by decide +kernel
theorem dX3_readersBehind_33 : decode cX3_readersBehind 33 = .ok (.iadd, 1) := by decide +kernel
theorem dX3_readersBehind_34 : decode cX3_readersBehind 34 = .ok (.i2l, 1) := by decide +kernel
theorem dX3_readersBehind_35 : decode cX3_readersBehind 35 = .ok (.lmul, 1) := by decide +kernel
theorem dX3_readersBehind_36 : decode cX3_readersBehind 36 = .ok (.ldc2_w 72, 3) := by decide +kernel
theorem dX3_readersBehind_39 : decode cX3_readersBehind 39 = .ok (.ldiv, 1) := by decide +kernel
theorem dX3_readersBehind_40 : decode cX3_readersBehind 40 = .ok (.lstore_n 2, 1) := by decide +kernel
theorem dX3_readersBehind_41 : decode cX3_readersBehind 41 = .ok (.lconst 0, 1) := by decide +kernel
theorem dX3_readersBehind_42 : decode cX3_readersBehind 42 = .ok (.ldc2_w 74, 3) := by decide +kernel
theorem dX3_readersBehind_45 : decode cX3_readersBehind 45 = .ok (.lload_n 2, 1) := by decide +kernel
theorem dX3_readersBehind_46 : decode cX3_readersBehind 46 = .ok (.invokestatic 76, 3) := by decide +kernel
theorem dX3_readersBehind_49 : decode cX3_readersBehind 49 = .ok (.invokestatic 82, 3) := by decide +kernel
theorem dX3_readersBehind_52 : decode cX3_readersBehind 52 = .ok (.lstore_n 2, 1) := by decide +kernel
theorem dX3_readersBehind_53 : decode cX3_readersBehind 53 = .ok (.iinc 4 1, 3) := by decide +kernel
theorem dX3_readersBehind_56 : decode cX3_readersBehind 56 = .ok (.goto (-49), 3) := by decide +kernel
theorem dX3_readersBehind_59 : decode cX3_readersBehind 59 = .ok (.lload_n 2, 1) := by decide +kernel
theorem dX3_readersBehind_60 : decode cX3_readersBehind 60 = .ok (.l2i, 1) := by decide +kernel
theorem dX3_readersBehind_61 : decode cX3_readersBehind 61 = .ok (.ireturn, 1) := by decide +kernel
theorem dX4_init_0 : decode cX4_init 0 = .ok (.aload_n 0, 1) := by decide +kernel
theorem dX4_init_1 : decode cX4_init 1 = .ok (.invokespecial 3, 3) := by decide +kernel
theorem dX4_init_4 : decode cX4_init 4 = .ok (.aload_n 0, 1) := by decide +kernel
theorem dX4_init_5 : decode cX4_init 5 = .ok (.iconst (-1), 1) := by decide +kernel
theorem dX4_init_6 : decode cX4_init 6 = .ok (.putfield 9, 3) := by decide +kernel
theorem dX4_init_9 : decode cX4_init 9 = .ok (.aload_n 0, 1) := by decide +kernel
theorem dX4_init_10 : decode cX4_init 10 = .ok (.aload_n 1, 1) := by decide +kernel
theorem dX4_init_11 : decode cX4_init 11 = .ok (.putfield 15, 3) := by decide +kernel
theorem dX4_init_14 : decode cX4_init 14 = .ok (.return_, 1) := by decide +kernel
theorem dX4_read_0 : decode cX4_read 0 = .ok (.aload_n 0, 1) := by decide +kernel
theorem dX4_read_1 : decode cX4_read 1 = .ok (.aload_n 1, 1) := by decide +kernel
theorem dX4_read_2 : decode cX4_read 2 = .ok (.putfield 19, 3) := by decide +kernel
theorem dX4_read_5 : decode cX4_read 5 = .ok (.aload_n 0, 1) := by decide +kernel
theorem dX4_read_6 : decode cX4_read 6 = .ok (.getfield 19, 3) := by decide +kernel
theorem dX4_read_9 : decode cX4_read 9 = .ok (.iconst 0, 1) := by decide +kernel
theorem dX4_read_10 : decode cX4_read 10 = .ok (.putfield 23, 3) := by decide +kernel
theorem dX4_read_13 : decode cX4_read 13 = .ok (.aload_n 0, 1) := by decide +kernel
theorem dX4_read_14 : decode cX4_read 14 = .ok (.iconst 0, 1) := by decide +kernel
theorem dX4_read_15 : decode cX4_read 15 = .ok (.putfield 28, 3) := by decide +kernel
theorem dX4_read_18 : decode cX4_read 18 = .ok (.aload_n 0, 1) := by decide +kernel
theorem dX4_read_19 : decode cX4_read 19 = .ok (.iconst 0, 1) := by decide +kernel
theorem dX4_read_20 : decode cX4_read 20 = .ok (.putfield 31, 3) := by decide +kernel
theorem dX4_read_23 : decode cX4_read 23 = .ok (.aload_n 0, 1) := by decide +kernel
theorem dX4_read_24 : decode cX4_read 24 = .ok (.iconst (-1), 1) := by decide +kernel
theorem dX4_read_25 : decode cX4_read 25 = .ok (.putfield 9, 3) := by decide +kernel
theorem dX4_read_28 : decode cX4_read 28 = .ok (.aload_n 0, 1) := by decide +kernel
theorem dX4_read_29 : decode cX4_read 29 = .ok (.iconst 0, 1) := by decide +kernel
theorem dX4_read_30 : decode cX4_read 30 = .ok (.putfield 34, 3) := by decide +kernel
theorem dX4_read_33 : decode cX4_read 33 = .ok (.aload_n 0, 1) := by decide +kernel
theorem dX4_read_34 : decode cX4_read 34 = .ok (.iconst 0, 1) := by decide +kernel
theorem dX4_read_35 : decode cX4_read 35 = .ok (.putfield 37, 3) := by decide +kernel
theorem dX4_read_38 : decode cX4_read 38 = .ok (.aload_n 0, 1) := by decide +kernel
theorem dX4_read_39 : decode cX4_read 39 = .ok (.iconst 0, 1) := by decide +kernel
theorem dX4_read_40 : decode cX4_read 40 = .ok (.putfield 40, 3) := by decide +kernel
theorem dX4_read_43 : decode cX4_read 43 = .ok (.iconst 0, 1) := by decide +kernel
theorem dX4_read_44 : decode cX4_read 44 = .ok (.istore_n 2, 1) := by decide +kernel
theorem dX4_read_45 : decode cX4_read 45 = .ok (.iload_n 2, 1) := by decide +kernel
theorem dX4_read_46 : decode cX4_read 46 = .ok (.bipush 10, 2) := by decide +kernel
theorem dX4_read_48 : decode cX4_read 48 = .ok (.if_icmp .gt 40, 3) := by decide +kernel
theorem dX4_read_51 : decode cX4_read 51 = .ok (.aload_n 0, 1) := by decide +kernel
theorem dX4_read_52 : decode cX4_read 52 = .ok (.getfield 31, 3) := by decide +kernel
theorem dX4_read_55 : decode cX4_read 55 = .ok (.ifCond .ne 33, 3) := by decide +kernel
theorem dX4_read_58 : decode cX4_read 58 = .ok (.aload_n 0, 1) := by decide +kernel
theorem dX4_read_59 : decode cX4_read 59 = .ok (.invokevirtual 43, 3) := by decide +kernel
theorem dX4_read_62 : decode cX4_read 62 = .ok (.aload_n 0, 1) := by decide +kernel
theorem dX4_read_63 : decode cX4_read 63 = .ok (.getfield 28, 3) := by decide +kernel
theorem dX4_read_66 : decode cX4_read 66 = .ok (.aload_n 0, 1) := by decide +kernel
theorem dX4_read_67 : decode cX4_read 67 = .ok (.getfield 15, 3) := by decide +kernel
theorem dX4_read_70 : decode cX4_read 70 = .ok (.getfield 46, 3) := by decide +kernel
theorem dX4_read_73 : decode cX4_read 73 = .ok (.if_icmp .lt 5, 3) := by decide +kernel
theorem dX4_read_76 : decode cX4_read 76 = .ok (.iconst 0, 1) := by decide +kernel
theorem dX4_read_77 : decode cX4_read 77 = .ok (.ireturn, 1) := by decide +kernel
theorem dX4_read_78 : decode cX4_read 78 = .ok (.aload_n 0, 1) := by decide +kernel
theorem dX4_read_79 : decode cX4_read 79 = .ok (.invokevirtual 51, 3) := by decide +kernel
theorem dX4_read_82 : decode cX4_read 82 = .ok (.iinc 2 1, 3) := by decide +kernel
theorem dX4_read_85 : decode cX4_read 85 = .ok (.goto (-40), 3) := by decide +kernel
theorem dX4_read_88 : decode cX4_read 88 = .ok (.aload_n 0, 1) := by decide +kernel
theorem dX4_read_89 : decode cX4_read 89 = .ok (.getfield 31, 3) := by decide +kernel
theorem dX4_read_92 : decode cX4_read 92 = .ok (.ireturn, 1) := by decide +kernel
theorem dX4_fail_0 : decode cX4_fail 0 = .ok (.aload_n 0, 1) := by decide +kernel
theorem dX4_fail_1 : decode cX4_fail 1 = .ok (.iload_n 1, 1) := by decide +kernel
theorem dX4_fail_2 : decode cX4_fail 2 = .ok (.putfield 31, 3) := by decide +kernel
theorem dX4_fail_5 : decode cX4_fail 5 = .ok (.aload_n 0, 1) := by decide +kernel
theorem dX4_fail_6 : decode cX4_fail 6 = .ok (.iload_n 2, 1) := by decide +kernel
theorem dX4_fail_7 : decode cX4_fail 7 = .ok (.putfield 9, 3) := by decide +kernel
theorem dX4_fail_10 : decode cX4_fail 10 = .ok (.return_, 1) := by decide +kernel
theorem dX4_skipBlanks_0 : decode cX4_skipBlanks 0 = .ok (.aload_n 0, 1) := by decide +kernel
theorem dX4_skipBlanks_1 : decode cX4_skipBlanks 1 = .ok (.getfield 28, 3) := by decide +kernel
theorem dX4_skipBlanks_4 : decode cX4_skipBlanks 4 = .ok (.aload_n 0, 1) := by decide +kernel
theorem dX4_skipBlanks_5 : decode cX4_skipBlanks 5 = .ok (.getfield 15, 3) := by decide +kernel
theorem dX4_skipBlanks_8 : decode cX4_skipBlanks 8 = .ok (.getfield 46, 3) := by decide +kernel
theorem dX4_skipBlanks_11 : decode cX4_skipBlanks 11 = .ok (.if_icmp .ge 32, 3) := by decide +kernel
theorem dX4_skipBlanks_14 : decode cX4_skipBlanks 14 = .ok (.aload_n 0, 1) := by decide +kernel
theorem dX4_skipBlanks_15 : decode cX4_skipBlanks 15 = .ok (.getfield 15, 3) := by decide +kernel
theorem dX4_skipBlanks_18 : decode cX4_skipBlanks 18 = .ok (.aload_n 0, 1) := by decide +kernel
theorem dX4_skipBlanks_19 : decode cX4_skipBlanks 19 = .ok (.getfield 28, 3) := by decide +kernel
theorem dX4_skipBlanks_22 : decode cX4_skipBlanks 22 = .ok (.invokevirtual 54, 3) := by decide +kernel
theorem dX4_skipBlanks_25 : decode cX4_skipBlanks 25 = .ok (.bipush 32, 2) := by decide +kernel
theorem dX4_skipBlanks_27 : decode cX4_skipBlanks 27 = .ok (.if_icmp .ne 16, 3) := by decide +kernel
theorem dX4_skipBlanks_30 : decode cX4_skipBlanks 30 = .ok (.aload_n 0, 1) := by decide +kernel
theorem dX4_skipBlanks_31 : decode cX4_skipBlanks 31 = .ok (.dup, 1) := by decide +kernel
theorem dX4_skipBlanks_32 : decode cX4_skipBlanks 32 = .ok (.getfield 28, 3) := by decide +kernel
theorem dX4_skipBlanks_35 : decode cX4_skipBlanks 35 = .ok (.iconst 1, 1) := by decide +kernel
theorem dX4_skipBlanks_36 : decode cX4_skipBlanks 36 = .ok (.iadd, 1) := by decide +kernel
theorem dX4_skipBlanks_37 : decode cX4_skipBlanks 37 = .ok (.putfield 28, 3) := by decide +kernel
theorem dX4_skipBlanks_40 : decode cX4_skipBlanks 40 = .ok (.goto (-40), 3) := by decide +kernel
theorem dX4_skipBlanks_43 : decode cX4_skipBlanks 43 = .ok (.return_, 1) := by decide +kernel
theorem dX4_readClause_0 : decode cX4_readClause 0 = .ok (.aload_n 0, 1) := by decide +kernel
theorem dX4_readClause_1 : decode cX4_readClause 1 = .ok (.getfield 28, 3) := by decide +kernel
theorem dX4_readClause_4 : decode cX4_readClause 4 = .ok (.istore_n 1, 1) := by decide +kernel
theorem dX4_readClause_5 : decode cX4_readClause 5 = .ok (.aload_n 0, 1) := by decide +kernel
theorem dX4_readClause_6 : decode cX4_readClause 6 = .ok (.invokevirtual 57, 3) := by decide +kernel
theorem dX4_readClause_9 : decode cX4_readClause 9 = .ok (.ifCond .eq 10, 3) := by decide +kernel
theorem dX4_readClause_12 : decode cX4_readClause 12 = .ok (.aload_n 0, 1) := by decide +kernel
theorem dX4_readClause_13 : decode cX4_readClause 13 = .ok (.iconst 1, 1) := by decide +kernel
theorem dX4_readClause_14 : decode cX4_readClause 14 = .ok (.iload_n 1, 1) := by decide +kernel
theorem dX4_readClause_15 : decode cX4_readClause 15 = .ok (.invokevirtual 61, 3) := by decide +kernel
theorem dX4_readClause_18 : decode cX4_readClause 18 = .ok (.return_, 1) := by decide +kernel
theorem dX4_readClause_19 : decode cX4_readClause 19 = .ok (.aload_n 0, 1) := by decide +kernel
theorem dX4_readClause_20 : decode cX4_readClause 20 = .ok (.getfield 19, 3) := by decide +kernel
theorem dX4_readClause_23 : decode cX4_readClause 23 = .ok (.getfield 23, 3) := by decide +kernel
theorem dX4_readClause_26 : decode cX4_readClause 26 = .ok (.bipush 10, 2) := by decide +kernel
theorem dX4_readClause_28 : decode cX4_readClause 28 = .ok (.if_icmp .lt 10, 3) := by decide +kernel
theorem dX4_readClause_31 : decode cX4_readClause 31 = .ok (.aload_n 0, 1) := by decide +kernel
theorem dX4_readClause_32 : decode cX4_readClause 32 = .ok (.iconst 5, 1) := by decide +kernel
theorem dX4_readClause_33 : decode cX4_readClause 33 = .ok (.iload_n 1, 1) := by decide +kernel
theorem dX4_readClause_34 : decode cX4_readClause 34 = .ok (.invokevirtual 61, 3) := by decide +kernel
theorem dX4_readClause_37 : decode cX4_readClause 37 = .ok (.return_, 1) := by decide +kernel
theorem dX4_readClause_38 : decode cX4_readClause 38 = .ok (.aload_n 0, 1) := by decide +kernel
theorem dX4_readClause_39 : decode cX4_readClause 39 = .ok (.getfield 19, 3) := by decide +kernel
theorem dX4_readClause_42 : decode cX4_readClause 42 = .ok (.aload_n 0, 1) := by decide +kernel
theorem dX4_readClause_43 : decode cX4_readClause 43 = .ok (.getfield 19, 3) := by decide +kernel
theorem dX4_readClause_46 : decode cX4_readClause 46 = .ok (.getfield 23, 3) := by decide +kernel
theorem dX4_readClause_49 : decode cX4_readClause 49 = .ok (.invokevirtual 65, 3) := by decide +kernel
theorem dX4_readClause_52 : decode cX4_readClause 52 = .ok (.aload_n 0, 1) := by decide +kernel
theorem dX4_readClause_53 : decode cX4_readClause 53 = .ok (.iconst 0, 1) := by decide +kernel
theorem dX4_readClause_54 : decode cX4_readClause 54 = .ok (.invokevirtual 69, 3) := by decide +kernel
theorem dX4_readClause_57 : decode cX4_readClause 57 = .ok (.iconst 0, 1) := by decide +kernel
theorem dX4_readClause_58 : decode cX4_readClause 58 = .ok (.istore_n 2, 1) := by decide +kernel
theorem dX4_readClause_59 : decode cX4_readClause 59 = .ok (.iconst 0, 1) := by decide +kernel
theorem dX4_readClause_60 : decode cX4_readClause 60 = .ok (.istore_n 3, 1) := by decide +kernel
theorem dX4_readClause_61 : decode cX4_readClause 61 = .ok (.iload_n 3, 1) := by decide +kernel
theorem dX4_readClause_62 : decode cX4_readClause 62 = .ok (.bipush 9, 2) := by decide +kernel
theorem dX4_readClause_64 : decode cX4_readClause 64 = .ok (.if_icmp .ge 60, 3) := by decide +kernel
theorem dX4_readClause_67 : decode cX4_readClause 67 = .ok (.aload_n 0, 1) := by decide +kernel
theorem dX4_readClause_68 : decode cX4_readClause 68 = .ok (.getfield 31, 3) := by decide +kernel
theorem dX4_readClause_71 : decode cX4_readClause 71 = .ok (.ifCond .ne 53, 3) := by decide +kernel
theorem dX4_readClause_74 : decode cX4_readClause 74 = .ok (.aload_n 0, 1) := by decide +kernel
theorem dX4_readClause_75 : decode cX4_readClause 75 = .ok (.invokevirtual 43, 3) := by decide +kernel
theorem dX4_readClause_78 : decode cX4_readClause 78 = .ok (.aload_n 0, 1) := by decide +kernel
theorem dX4_readClause_79 : decode cX4_readClause 79 = .ok (.getfield 15, 3) := by decide +kernel
theorem dX4_readClause_82 : decode cX4_readClause 82 = .ok (.aload_n 0, 1) := by decide +kernel
theorem dX4_readClause_83 : decode cX4_readClause 83 = .ok (.getfield 28, 3) := by decide +kernel
theorem dX4_readClause_86 : decode cX4_readClause 86 = .ok (.invokevirtual 54, 3) := by decide +kernel
theorem dX4_readClause_89 : decode cX4_readClause 89 = .ok (.bipush 59, 2) := by decide +kernel
theorem dX4_readClause_91 : decode cX4_readClause 91 = .ok (.if_icmp .ne 21, 3) := by decide +kernel
theorem dX4_readClause_94 : decode cX4_readClause 94 = .ok (.aload_n 0, 1) := by decide +kernel
theorem dX4_readClause_95 : decode cX4_readClause 95 = .ok (.dup, 1) := by decide +kernel
theorem dX4_readClause_96 : decode cX4_readClause 96 = .ok (.getfield 28, 3) := by decide +kernel
theorem dX4_readClause_99 : decode cX4_readClause 99 = .ok (.iconst 1, 1) := by decide +kernel
theorem dX4_readClause_100 : decode cX4_readClause 100 = .ok (.iadd, 1) := by decide +kernel
theorem dX4_readClause_101 : decode cX4_readClause 101 = .ok (.putfield 28, 3) := by decide +kernel
theorem dX4_readClause_104 : decode cX4_readClause 104 = .ok (.aload_n 0, 1) := by decide +kernel
theorem dX4_readClause_105 : decode cX4_readClause 105 = .ok (.getfield 19, 3) := by decide +kernel
theorem dX4_readClause_108 : decode cX4_readClause 108 = .ok (.invokevirtual 72, 3) := by decide +kernel
theorem dX4_readClause_111 : decode cX4_readClause 111 = .ok (.return_, 1) := by decide +kernel
theorem dX4_readClause_112 : decode cX4_readClause 112 = .ok (.aload_n 0, 1) := by decide +kernel
theorem dX4_readClause_113 : decode cX4_readClause 113 = .ok (.iload_n 2, 1) := by decide +kernel
theorem dX4_readClause_114 : decode cX4_readClause 114 = .ok (.invokevirtual 75, 3) := by decide +kernel
theorem dX4_readClause_117 : decode cX4_readClause 117 = .ok (.istore_n 2, 1) := by decide +kernel
theorem dX4_readClause_118 : decode cX4_readClause 118 = .ok (.iinc 3 1, 3) := by decide +kernel
theorem dX4_readClause_121 : decode cX4_readClause 121 = .ok (.goto (-60), 3) := by decide +kernel
theorem dX4_readClause_124 : decode cX4_readClause 124 = .ok (.return_, 1) := by decide +kernel
theorem dX4_readPart_0 : decode cX4_readPart 0 = .ok (.aload_n 0, 1) := by decide +kernel
theorem dX4_readPart_1 : decode cX4_readPart 1 = .ok (.getfield 28, 3) := by decide +kernel
theorem dX4_readPart_4 : decode cX4_readPart 4 = .ok (.istore_n 2, 1) := by decide +kernel
theorem dX4_readPart_5 : decode cX4_readPart 5 = .ok (.aload_n 0, 1) := by decide +kernel
theorem dX4_readPart_6 : decode cX4_readPart 6 = .ok (.invokevirtual 57, 3) := by decide +kernel
theorem dX4_readPart_9 : decode cX4_readPart 9 = .ok (.istore_n 3, 1) := by decide +kernel
theorem dX4_readPart_10 : decode cX4_readPart 10 = .ok (.iload_n 3, 1) := by decide +kernel
theorem dX4_readPart_11 : decode cX4_readPart 11 = .ok (.iload_n 1, 1) := by decide +kernel
theorem dX4_readPart_12 : decode cX4_readPart 12 = .ok (.if_icmp .gt 11, 3) := by decide +kernel
theorem dX4_readPart_15 : decode cX4_readPart 15 = .ok (.aload_n 0, 1) := by decide +kernel
theorem dX4_readPart_16 : decode cX4_readPart 16 = .ok (.iconst 1, 1) := by decide +kernel
theorem dX4_readPart_17 : decode cX4_readPart 17 = .ok (.iload_n 2, 1) := by decide +kernel
theorem dX4_readPart_18 : decode cX4_readPart 18 = .ok (.invokevirtual 61, 3) := by decide +kernel
theorem dX4_readPart_21 : decode cX4_readPart 21 = .ok (.iload_n 1, 1) := by decide +kernel
theorem dX4_readPart_22 : decode cX4_readPart 22 = .ok (.ireturn, 1) := by decide +kernel
theorem dX4_readPart_23 : decode cX4_readPart 23 = .ok (.aload_n 0, 1) := by decide +kernel
theorem dX4_readPart_24 : decode cX4_readPart 24 = .ok (.iload_n 3, 1) := by decide +kernel
theorem dX4_readPart_25 : decode cX4_readPart 25 = .ok (.invokevirtual 69, 3) := by decide +kernel
theorem dX4_readPart_28 : decode cX4_readPart 28 = .ok (.iconst 0, 1) := by decide +kernel
theorem dX4_readPart_29 : decode cX4_readPart 29 = .ok (.istore 4, 2) := by decide +kernel
theorem dX4_readPart_31 : decode cX4_readPart 31 = .ok (.iload 4, 2) := by decide +kernel
theorem dX4_readPart_33 : decode cX4_readPart 33 = .ok (.bipush 10, 2) := by decide +kernel
theorem dX4_readPart_35 : decode cX4_readPart 35 = .ok (.if_icmp .ge 29, 3) := by decide +kernel
theorem dX4_readPart_38 : decode cX4_readPart 38 = .ok (.aload_n 0, 1) := by decide +kernel
theorem dX4_readPart_39 : decode cX4_readPart 39 = .ok (.getfield 31, 3) := by decide +kernel
theorem dX4_readPart_42 : decode cX4_readPart 42 = .ok (.ifCond .ne 22, 3) := by decide +kernel
theorem dX4_readPart_45 : decode cX4_readPart 45 = .ok (.aload_n 0, 1) := by decide +kernel
theorem dX4_readPart_46 : decode cX4_readPart 46 = .ok (.iload_n 3, 1) := by decide +kernel
theorem dX4_readPart_47 : decode cX4_readPart 47 = .ok (.invokevirtual 78, 3) := by decide +kernel
theorem dX4_readPart_50 : decode cX4_readPart 50 = .ok (.ifCond .eq 14, 3) := by decide +kernel
theorem dX4_readPart_53 : decode cX4_readPart 53 = .ok (.aload_n 0, 1) := by decide +kernel
theorem dX4_readPart_54 : decode cX4_readPart 54 = .ok (.iload_n 3, 1) := by decide +kernel
theorem dX4_readPart_55 : decode cX4_readPart 55 = .ok (.invokevirtual 69, 3) := by decide +kernel
theorem dX4_readPart_58 : decode cX4_readPart 58 = .ok (.iinc 4 1, 3) := by decide +kernel
theorem dX4_readPart_61 : decode cX4_readPart 61 = .ok (.goto (-30), 3) := by decide +kernel
theorem dX4_readPart_64 : decode cX4_readPart 64 = .ok (.iload_n 3, 1) := by decide +kernel
theorem dX4_readPart_65 : decode cX4_readPart 65 = .ok (.ireturn, 1) := by decide +kernel
theorem dX4_takeComma_0 : decode cX4_takeComma 0 = .ok (.aload_n 0, 1) := by decide +kernel
theorem dX4_takeComma_1 : decode cX4_takeComma 1 = .ok (.invokevirtual 43, 3) := by decide +kernel
theorem dX4_takeComma_4 : decode cX4_takeComma 4 = .ok (.iload_n 1, 1) := by decide +kernel
theorem dX4_takeComma_5 : decode cX4_takeComma 5 = .ok (.invokestatic 82, 3) := by decide +kernel
theorem dX4_takeComma_8 : decode cX4_takeComma 8 = .ok (.ifCond .eq 19, 3) := by decide +kernel
theorem dX4_takeComma_11 : decode cX4_takeComma 11 = .ok (.aload_n 0, 1) := by decide +kernel
theorem dX4_takeComma_12 : decode cX4_takeComma 12 = .ok (.getfield 15, 3) := by decide +kernel
theorem dX4_takeComma_15 : decode cX4_takeComma 15 = .ok (.aload_n 0, 1) := by decide +kernel
theorem dX4_takeComma_16 : decode cX4_takeComma 16 = .ok (.getfield 28, 3) := by decide +kernel
theorem dX4_takeComma_19 : decode cX4_takeComma 19 = .ok (.invokevirtual 54, 3) := by decide +kernel
theorem dX4_takeComma_22 : decode cX4_takeComma 22 = .ok (.bipush 44, 2) := by decide +kernel
theorem dX4_takeComma_24 : decode cX4_takeComma 24 = .ok (.if_icmp .eq 5, 3) := by decide +kernel
theorem dX4_takeComma_27 : decode cX4_takeComma 27 = .ok (.iconst 0, 1) := by decide +kernel
theorem dX4_takeComma_28 : decode cX4_takeComma 28 = .ok (.ireturn, 1) := by decide +kernel
theorem dX4_takeComma_29 : decode cX4_takeComma 29 = .ok (.aload_n 0, 1) := by decide +kernel
theorem dX4_takeComma_30 : decode cX4_takeComma 30 = .ok (.dup, 1) := by decide +kernel
theorem dX4_takeComma_31 : decode cX4_takeComma 31 = .ok (.getfield 28, 3) := by decide +kernel
theorem dX4_takeComma_34 : decode cX4_takeComma 34 = .ok (.iconst 1, 1) := by decide +kernel
theorem dX4_takeComma_35 : decode cX4_takeComma 35 = .ok (.iadd, 1) := by decide +kernel
theorem dX4_takeComma_36 : decode cX4_takeComma 36 = .ok (.putfield 28, 3) := by decide +kernel
theorem dX4_takeComma_39 : decode cX4_takeComma 39 = .ok (.iconst 1, 1) := by decide +kernel
theorem dX4_takeComma_40 : decode cX4_takeComma 40 = .ok (.ireturn, 1) := by decide +kernel
theorem dX4_takeWord_0 : decode cX4_takeWord 0 = .ok (.aload_n 0, 1) := by decide +kernel
theorem dX4_takeWord_1 : decode cX4_takeWord 1 = .ok (.getfield 28, 3) := by decide +kernel
theorem dX4_takeWord_4 : decode cX4_takeWord 4 = .ok (.istore_n 1, 1) := by decide +kernel
theorem dX4_takeWord_5 : decode cX4_takeWord 5 = .ok (.iload_n 1, 1) := by decide +kernel
theorem dX4_takeWord_6 : decode cX4_takeWord 6 = .ok (.aload_n 0, 1) := by decide +kernel
theorem dX4_takeWord_7 : decode cX4_takeWord 7 = .ok (.getfield 15, 3) := by decide +kernel
theorem dX4_takeWord_10 : decode cX4_takeWord 10 = .ok (.getfield 46, 3) := by decide +kernel
theorem dX4_takeWord_13 : decode cX4_takeWord 13 = .ok (.if_icmp .ge 35, 3) := by decide +kernel
theorem dX4_takeWord_16 : decode cX4_takeWord 16 = .ok (.aload_n 0, 1) := by decide +kernel
theorem dX4_takeWord_17 : decode cX4_takeWord 17 = .ok (.getfield 15, 3) := by decide +kernel
theorem dX4_takeWord_20 : decode cX4_takeWord 20 = .ok (.iload_n 1, 1) := by decide +kernel
theorem dX4_takeWord_21 : decode cX4_takeWord 21 = .ok (.invokevirtual 54, 3) := by decide +kernel
theorem dX4_takeWord_24 : decode cX4_takeWord 24 = .ok (.bipush 97, 2) := by decide +kernel
theorem dX4_takeWord_26 : decode cX4_takeWord 26 = .ok (.if_icmp .lt 22, 3) := by decide +kernel
theorem dX4_takeWord_29 : decode cX4_takeWord 29 = .ok (.aload_n 0, 1) := by decide +kernel
theorem dX4_takeWord_30 : decode cX4_takeWord 30 = .ok (.getfield 15, 3) := by decide +kernel
theorem dX4_takeWord_33 : decode cX4_takeWord 33 = .ok (.iload_n 1, 1) := by decide +kernel
theorem dX4_takeWord_34 : decode cX4_takeWord 34 = .ok (.invokevirtual 54, 3) := by decide +kernel
theorem dX4_takeWord_37 : decode cX4_takeWord 37 = .ok (.bipush 122, 2) := by decide +kernel
theorem dX4_takeWord_39 : decode cX4_takeWord 39 = .ok (.if_icmp .gt 9, 3) := by decide +kernel
theorem dX4_takeWord_42 : decode cX4_takeWord 42 = .ok (.iinc 1 1, 3) := by decide +kernel
theorem dX4_takeWord_45 : decode cX4_takeWord 45 = .ok (.goto (-40), 3) := by decide +kernel
theorem dX4_takeWord_48 : decode cX4_takeWord 48 = .ok (.iconst 0, 1) := by decide +kernel
theorem dX4_takeWord_49 : decode cX4_takeWord 49 = .ok (.istore_n 2, 1) := by decide +kernel
theorem dX4_takeWord_50 : decode cX4_takeWord 50 = .ok (.iload_n 2, 1) := by decide +kernel
theorem dX4_takeWord_51 : decode cX4_takeWord 51 = .ok (.bipush 9, 2) := by decide +kernel
theorem dX4_takeWord_53 : decode cX4_takeWord 53 = .ok (.if_icmp .ge 25, 3) := by decide +kernel
theorem dX4_takeWord_56 : decode cX4_takeWord 56 = .ok (.aload_n 0, 1) := by decide +kernel
theorem dX4_takeWord_57 : decode cX4_takeWord 57 = .ok (.iload_n 2, 1) := by decide +kernel
theorem dX4_takeWord_58 : decode cX4_takeWord 58 = .ok (.iload_n 1, 1) := by decide +kernel
theorem dX4_takeWord_59 : decode cX4_takeWord 59 = .ok (.invokevirtual 85, 3) := by decide +kernel
theorem dX4_takeWord_62 : decode cX4_takeWord 62 = .ok (.ifCond .eq 10, 3) := by decide +kernel
theorem dX4_takeWord_65 : decode cX4_takeWord 65 = .ok (.aload_n 0, 1) := by decide +kernel
theorem dX4_takeWord_66 : decode cX4_takeWord 66 = .ok (.iload_n 1, 1) := by decide +kernel
theorem dX4_takeWord_67 : decode cX4_takeWord 67 = .ok (.putfield 28, 3) := by decide +kernel
theorem dX4_takeWord_70 : decode cX4_takeWord 70 = .ok (.iload_n 2, 1) := by decide +kernel
theorem dX4_takeWord_71 : decode cX4_takeWord 71 = .ok (.ireturn, 1) := by decide +kernel
theorem dX4_takeWord_72 : decode cX4_takeWord 72 = .ok (.iinc 2 1, 3) := by decide +kernel
theorem dX4_takeWord_75 : decode cX4_takeWord 75 = .ok (.goto (-25), 3) := by decide +kernel
theorem dX4_takeWord_78 : decode cX4_takeWord 78 = .ok (.iconst (-1), 1) := by decide +kernel
theorem dX4_takeWord_79 : decode cX4_takeWord 79 = .ok (.ireturn, 1) := by decide +kernel
theorem dX4_isWord_0 : decode cX4_isWord 0 = .ok (.iconst 0, 1) := by decide +kernel
theorem dX4_isWord_1 : decode cX4_isWord 1 = .ok (.istore_n 3, 1) := by decide +kernel
theorem dX4_isWord_2 : decode cX4_isWord 2 = .ok (.iload_n 3, 1) := by decide +kernel
theorem dX4_isWord_3 : decode cX4_isWord 3 = .ok (.iconst 5, 1) := by decide +kernel
theorem dX4_isWord_4 : decode cX4_isWord 4 = .ok (.if_icmp .ge 56, 3) := by decide +kernel
theorem dX4_isWord_7 : decode cX4_isWord 7 = .ok (.aload_n 0, 1) := by decide +kernel
theorem dX4_isWord_8 : decode cX4_isWord 8 = .ok (.getfield 28, 3) := by decide +kernel
theorem dX4_isWord_11 : decode cX4_isWord 11 = .ok (.iload_n 3, 1) := by decide +kernel
theorem dX4_isWord_12 : decode cX4_isWord 12 = .ok (.iadd, 1) := by decide +kernel
theorem dX4_isWord_13 : decode cX4_isWord 13 = .ok (.iload_n 2, 1) := by decide +kernel
theorem dX4_isWord_14 : decode cX4_isWord 14 = .ok (.if_icmp .ge 19, 3) := by decide +kernel
theorem dX4_isWord_17 : decode cX4_isWord 17 = .ok (.aload_n 0, 1) := by decide +kernel
theorem dX4_isWord_18 : decode cX4_isWord 18 = .ok (.getfield 15, 3) := by decide +kernel
theorem dX4_isWord_21 : decode cX4_isWord 21 = .ok (.aload_n 0, 1) := by decide +kernel
theorem dX4_isWord_22 : decode cX4_isWord 22 = .ok (.getfield 28, 3) := by decide +kernel
theorem dX4_isWord_25 : decode cX4_isWord 25 = .ok (.iload_n 3, 1) := by decide +kernel
theorem dX4_isWord_26 : decode cX4_isWord 26 = .ok (.iadd, 1) := by decide +kernel
theorem dX4_isWord_27 : decode cX4_isWord 27 = .ok (.invokevirtual 54, 3) := by decide +kernel
theorem dX4_isWord_30 : decode cX4_isWord 30 = .ok (.goto 5, 3) := by decide +kernel
theorem dX4_isWord_33 : decode cX4_isWord 33 = .ok (.bipush 32, 2) := by decide +kernel
theorem dX4_isWord_35 : decode cX4_isWord 35 = .ok (.istore 4, 2) := by decide +kernel
theorem dX4_isWord_37 : decode cX4_isWord 37 = .ok (.iload 4, 2) := by decide +kernel
theorem dX4_isWord_39 : decode cX4_isWord 39 = .ok (.ldc 89, 2) := by decide +kernel
theorem dX4_isWord_41 : decode cX4_isWord 41 = .ok (.iload_n 1, 1) := by decide +kernel
theorem dX4_isWord_42 : decode cX4_isWord 42 = .ok (.iconst 5, 1) := by decide +kernel
theorem dX4_isWord_43 : decode cX4_isWord 43 = .ok (.imul, 1) := by decide +kernel
theorem dX4_isWord_44 : decode cX4_isWord 44 = .ok (.iload_n 3, 1) := by decide +kernel
theorem dX4_isWord_45 : decode cX4_isWord 45 = .ok (.iadd, 1) := by decide +kernel
theorem dX4_isWord_46 : decode cX4_isWord 46 = .ok (.invokevirtual 91, 3) := by decide +kernel
theorem dX4_isWord_49 : decode cX4_isWord 49 = .ok (.if_icmp .eq 5, 3) := by decide +kernel
theorem dX4_isWord_52 : decode cX4_isWord 52 = .ok (.iconst 0, 1) := by decide +kernel
theorem dX4_isWord_53 : decode cX4_isWord 53 = .ok (.ireturn, 1) := by decide +kernel
theorem dX4_isWord_54 : decode cX4_isWord 54 = .ok (.iinc 3 1, 3) := by decide +kernel
theorem dX4_isWord_57 : decode cX4_isWord 57 = .ok (.goto (-55), 3) := by decide +kernel
theorem dX4_isWord_60 : decode cX4_isWord 60 = .ok (.iload_n 2, 1) := by decide +kernel
theorem dX4_isWord_61 : decode cX4_isWord 61 = .ok (.aload_n 0, 1) := by decide +kernel
theorem dX4_isWord_62 : decode cX4_isWord 62 = .ok (.getfield 28, 3) := by decide +kernel
theorem dX4_isWord_65 : decode cX4_isWord 65 = .ok (.isub, 1) := by decide +kernel
theorem dX4_isWord_66 : decode cX4_isWord 66 = .ok (.iconst 5, 1) := by decide +kernel
theorem dX4_isWord_67 : decode cX4_isWord 67 = .ok (.if_icmp .gt 7, 3) := by decide +kernel
theorem dX4_isWord_70 : decode cX4_isWord 70 = .ok (.iconst 1, 1) := by decide +kernel
theorem dX4_isWord_71 : decode cX4_isWord 71 = .ok (.goto 4, 3) := by decide +kernel
theorem dX4_isWord_74 : decode cX4_isWord 74 = .ok (.iconst 0, 1) := by decide +kernel
theorem dX4_isWord_75 : decode cX4_isWord 75 = .ok (.ireturn, 1) := by decide +kernel
theorem dX4_readNumber_0 : decode cX4_readNumber 0 = .ok (.aload_n 0, 1) := by decide +kernel
theorem dX4_readNumber_1 : decode cX4_readNumber 1 = .ok (.invokevirtual 43, 3) := by decide +kernel
theorem dX4_readNumber_4 : decode cX4_readNumber 4 = .ok (.aload_n 0, 1) := by decide +kernel
theorem dX4_readNumber_5 : decode cX4_readNumber 5 = .ok (.getfield 28, 3) := by decide +kernel
theorem dX4_readNumber_8 : decode cX4_readNumber 8 = .ok (.istore_n 2, 1) := by decide +kernel
theorem dX4_readNumber_9 : decode cX4_readNumber 9 = .ok (.iconst 0, 1) := by decide +kernel
theorem dX4_readNumber_10 : decode cX4_readNumber 10 = .ok (.istore_n 3, 1) := by decide +kernel
theorem dX4_readNumber_11 : decode cX4_readNumber 11 = .ok (.aload_n 0, 1) := by decide +kernel
theorem dX4_readNumber_12 : decode cX4_readNumber 12 = .ok (.getfield 28, 3) := by decide +kernel
theorem dX4_readNumber_15 : decode cX4_readNumber 15 = .ok (.aload_n 0, 1) := by decide +kernel
theorem dX4_readNumber_16 : decode cX4_readNumber 16 = .ok (.getfield 15, 3) := by decide +kernel
theorem dX4_readNumber_19 : decode cX4_readNumber 19 = .ok (.getfield 46, 3) := by decide +kernel
theorem dX4_readNumber_22 : decode cX4_readNumber 22 = .ok (.if_icmp .ge 71, 3) := by decide +kernel
theorem dX4_readNumber_25 : decode cX4_readNumber 25 = .ok (.aload_n 0, 1) := by decide +kernel
theorem dX4_readNumber_26 : decode cX4_readNumber 26 = .ok (.getfield 15, 3) := by decide +kernel
theorem dX4_readNumber_29 : decode cX4_readNumber 29 = .ok (.aload_n 0, 1) := by decide +kernel
theorem dX4_readNumber_30 : decode cX4_readNumber 30 = .ok (.getfield 28, 3) := by decide +kernel
theorem dX4_readNumber_33 : decode cX4_readNumber 33 = .ok (.invokevirtual 54, 3) := by decide +kernel
theorem dX4_readNumber_36 : decode cX4_readNumber 36 = .ok (.bipush 48, 2) := by decide +kernel
theorem dX4_readNumber_38 : decode cX4_readNumber 38 = .ok (.if_icmp .lt 55, 3) := by decide +kernel
theorem dX4_readNumber_41 : decode cX4_readNumber 41 = .ok (.aload_n 0, 1) := by decide +kernel
theorem dX4_readNumber_42 : decode cX4_readNumber 42 = .ok (.getfield 15, 3) := by decide +kernel
theorem dX4_readNumber_45 : decode cX4_readNumber 45 = .ok (.aload_n 0, 1) := by decide +kernel
theorem dX4_readNumber_46 : decode cX4_readNumber 46 = .ok (.getfield 28, 3) := by decide +kernel
theorem dX4_readNumber_49 : decode cX4_readNumber 49 = .ok (.invokevirtual 54, 3) := by decide +kernel
theorem dX4_readNumber_52 : decode cX4_readNumber 52 = .ok (.bipush 57, 2) := by decide +kernel
theorem dX4_readNumber_54 : decode cX4_readNumber 54 = .ok (.if_icmp .gt 39, 3) := by decide +kernel
theorem dX4_readNumber_57 : decode cX4_readNumber 57 = .ok (.iload_n 3, 1) := by decide +kernel
theorem dX4_readNumber_58 : decode cX4_readNumber 58 = .ok (.bipush 100, 2) := by decide +kernel
theorem dX4_readNumber_60 : decode cX4_readNumber 60 = .ok (.irem, 1) := by decide +kernel
theorem dX4_readNumber_61 : decode cX4_readNumber 61 = .ok (.bipush 10, 2) := by decide +kernel
theorem dX4_readNumber_63 : decode cX4_readNumber 63 = .ok (.imul, 1) := by decide +kernel
theorem dX4_readNumber_64 : decode cX4_readNumber 64 = .ok (.aload_n 0, 1) := by decide +kernel
theorem dX4_readNumber_65 : decode cX4_readNumber 65 = .ok (.getfield 15, 3) := by decide +kernel
theorem dX4_readNumber_68 : decode cX4_readNumber 68 = .ok (.aload_n 0, 1) := by decide +kernel
theorem dX4_readNumber_69 : decode cX4_readNumber 69 = .ok (.getfield 28, 3) := by decide +kernel
theorem dX4_readNumber_72 : decode cX4_readNumber 72 = .ok (.invokevirtual 54, 3) := by decide +kernel
theorem dX4_readNumber_75 : decode cX4_readNumber 75 = .ok (.iadd, 1) := by decide +kernel
theorem dX4_readNumber_76 : decode cX4_readNumber 76 = .ok (.bipush 48, 2) := by decide +kernel
theorem dX4_readNumber_78 : decode cX4_readNumber 78 = .ok (.isub, 1) := by decide +kernel
theorem dX4_readNumber_79 : decode cX4_readNumber 79 = .ok (.istore_n 3, 1) := by decide +kernel
theorem dX4_readNumber_80 : decode cX4_readNumber 80 = .ok (.aload_n 0, 1) := by decide +kernel
theorem dX4_readNumber_81 : decode cX4_readNumber 81 = .ok (.dup, 1) := by decide +kernel
theorem dX4_readNumber_82 : decode cX4_readNumber 82 = .ok (.getfield 28, 3) := by decide +kernel
theorem dX4_readNumber_85 : decode cX4_readNumber 85 = .ok (.iconst 1, 1) := by decide +kernel
theorem dX4_readNumber_86 : decode cX4_readNumber 86 = .ok (.iadd, 1) := by decide +kernel
theorem dX4_readNumber_87 : decode cX4_readNumber 87 = .ok (.putfield 28, 3) := by decide +kernel
theorem dX4_readNumber_90 : decode cX4_readNumber 90 = .ok (.goto (-79), 3) := by decide +kernel
theorem dX4_readNumber_93 : decode cX4_readNumber 93 = .ok (.aload_n 0, 1) := by decide +kernel
theorem dX4_readNumber_94 : decode cX4_readNumber 94 = .ok (.iload_n 1, 1) := by decide +kernel
theorem dX4_readNumber_95 : decode cX4_readNumber 95 = .ok (.iload_n 3, 1) := by decide +kernel
theorem dX4_readNumber_96 : decode cX4_readNumber 96 = .ok (.aload_n 0, 1) := by decide +kernel
theorem dX4_readNumber_97 : decode cX4_readNumber 97 = .ok (.getfield 28, 3) := by decide +kernel
theorem dX4_readNumber_100 : decode cX4_readNumber 100 = .ok (.iload_n 2, 1) := by decide +kernel
theorem dX4_readNumber_101 : decode cX4_readNumber 101 = .ok (.isub, 1) := by decide +kernel
theorem dX4_readNumber_102 : decode cX4_readNumber 102 = .ok (.invokevirtual 97, 3) := by decide +kernel
theorem dX4_readNumber_105 : decode cX4_readNumber 105 = .ok (.istore 4, 2) := by decide +kernel
theorem dX4_readNumber_107 : decode cX4_readNumber 107 = .ok (.iload 4, 2) := by decide +kernel
theorem dX4_readNumber_109 : decode cX4_readNumber 109 = .ok (.ifCond .eq 11, 3) := by decide +kernel
theorem dX4_readNumber_112 : decode cX4_readNumber 112 = .ok (.aload_n 0, 1) := by decide +kernel
theorem dX4_readNumber_113 : decode cX4_readNumber 113 = .ok (.iload 4, 2) := by decide +kernel
theorem dX4_readNumber_115 : decode cX4_readNumber 115 = .ok (.iload_n 2, 1) := by decide +kernel
theorem dX4_readNumber_116 : decode cX4_readNumber 116 = .ok (.invokevirtual 61, 3) := by decide +kernel
theorem dX4_readNumber_119 : decode cX4_readNumber 119 = .ok (.return_, 1) := by decide +kernel
theorem dX4_readNumber_120 : decode cX4_readNumber 120 = .ok (.aload_n 0, 1) := by decide +kernel
theorem dX4_readNumber_121 : decode cX4_readNumber 121 = .ok (.iload_n 1, 1) := by decide +kernel
theorem dX4_readNumber_122 : decode cX4_readNumber 122 = .ok (.iload_n 3, 1) := by decide +kernel
theorem dX4_readNumber_123 : decode cX4_readNumber 123 = .ok (.invokevirtual 101, 3) := by decide +kernel
theorem dX4_readNumber_126 : decode cX4_readNumber 126 = .ok (.return_, 1) := by decide +kernel
theorem dX4_faultOf_0 : decode cX4_faultOf 0 = .ok (.iload_n 3, 1) := by decide +kernel
theorem dX4_faultOf_1 : decode cX4_faultOf 1 = .ok (.ifCond .ne 5, 3) := by decide +kernel
theorem dX4_faultOf_4 : decode cX4_faultOf 4 = .ok (.iconst 1, 1) := by decide +kernel
theorem dX4_faultOf_5 : decode cX4_faultOf 5 = .ok (.ireturn, 1) := by decide +kernel
theorem dX4_faultOf_6 : decode cX4_faultOf 6 = .ok (.iload_n 3, 1) := by decide +kernel
theorem dX4_faultOf_7 : decode cX4_faultOf 7 = .ok (.iconst 2, 1) := by decide +kernel
theorem dX4_faultOf_8 : decode cX4_faultOf 8 = .ok (.if_icmp .gt 20, 3) := by decide +kernel
theorem dX4_faultOf_11 : decode cX4_faultOf 11 = .ok (.iload_n 2, 1) := by decide +kernel
theorem dX4_faultOf_12 : decode cX4_faultOf 12 = .ok (.getstatic 104, 3) := by decide +kernel
theorem dX4_faultOf_15 : decode cX4_faultOf 15 = .ok (.iload_n 1, 1) := by decide +kernel
theorem dX4_faultOf_16 : decode cX4_faultOf 16 = .ok (.iaload, 1) := by decide +kernel
theorem dX4_faultOf_17 : decode cX4_faultOf 17 = .ok (.if_icmp .gt 11, 3) := by decide +kernel
theorem dX4_faultOf_20 : decode cX4_faultOf 20 = .ok (.iload_n 1, 1) := by decide +kernel
theorem dX4_faultOf_21 : decode cX4_faultOf 21 = .ok (.ifCond .ne 9, 3) := by decide +kernel
theorem dX4_faultOf_24 : decode cX4_faultOf 24 = .ok (.iload_n 2, 1) := by decide +kernel
theorem dX4_faultOf_25 : decode cX4_faultOf 25 = .ok (.ifCond .ne 5, 3) := by decide +kernel
theorem dX4_faultOf_28 : decode cX4_faultOf 28 = .ok (.iconst 2, 1) := by decide +kernel
theorem dX4_faultOf_29 : decode cX4_faultOf 29 = .ok (.ireturn, 1) := by decide +kernel
theorem dX4_faultOf_30 : decode cX4_faultOf 30 = .ok (.iload_n 1, 1) := by decide +kernel
theorem dX4_faultOf_31 : decode cX4_faultOf 31 = .ok (.invokestatic 82, 3) := by decide +kernel
theorem dX4_faultOf_34 : decode cX4_faultOf 34 = .ok (.ifCond .eq 28, 3) := by decide +kernel
theorem dX4_faultOf_37 : decode cX4_faultOf 37 = .ok (.aload_n 0, 1) := by decide +kernel
theorem dX4_faultOf_38 : decode cX4_faultOf 38 = .ok (.getfield 19, 3) := by decide +kernel
theorem dX4_faultOf_41 : decode cX4_faultOf 41 = .ok (.aload_n 0, 1) := by decide +kernel
theorem dX4_faultOf_42 : decode cX4_faultOf 42 = .ok (.getfield 19, 3) := by decide +kernel
theorem dX4_faultOf_45 : decode cX4_faultOf 45 = .ok (.getfield 23, 3) := by decide +kernel
theorem dX4_faultOf_48 : decode cX4_faultOf 48 = .ok (.iload_n 1, 1) := by decide +kernel
theorem dX4_faultOf_49 : decode cX4_faultOf 49 = .ok (.invokevirtual 108, 3) := by decide +kernel
theorem dX4_faultOf_52 : decode cX4_faultOf 52 = .ok (.iload_n 2, 1) := by decide +kernel
theorem dX4_faultOf_53 : decode cX4_faultOf 53 = .ok (.ishr, 1) := by decide +kernel
theorem dX4_faultOf_54 : decode cX4_faultOf 54 = .ok (.iconst 1, 1) := by decide +kernel
theorem dX4_faultOf_55 : decode cX4_faultOf 55 = .ok (.iand, 1) := by decide +kernel
theorem dX4_faultOf_56 : decode cX4_faultOf 56 = .ok (.iconst 1, 1) := by decide +kernel
theorem dX4_faultOf_57 : decode cX4_faultOf 57 = .ok (.if_icmp .ne 5, 3) := by decide +kernel
theorem dX4_faultOf_60 : decode cX4_faultOf 60 = .ok (.iconst 3, 1) := by decide +kernel
theorem dX4_faultOf_61 : decode cX4_faultOf 61 = .ok (.ireturn, 1) := by decide +kernel
theorem dX4_faultOf_62 : decode cX4_faultOf 62 = .ok (.iload_n 1, 1) := by decide +kernel
theorem dX4_faultOf_63 : decode cX4_faultOf 63 = .ok (.iconst 3, 1) := by decide +kernel
theorem dX4_faultOf_64 : decode cX4_faultOf 64 = .ok (.if_icmp .ne 16, 3) := by decide +kernel
theorem dX4_faultOf_67 : decode cX4_faultOf 67 = .ok (.iload_n 2, 1) := by decide +kernel
theorem dX4_faultOf_68 : decode cX4_faultOf 68 = .ok (.aload_n 0, 1) := by decide +kernel
theorem dX4_faultOf_69 : decode cX4_faultOf 69 = .ok (.getfield 19, 3) := by decide +kernel
theorem dX4_faultOf_72 : decode cX4_faultOf 72 = .ok (.getfield 23, 3) := by decide +kernel
theorem dX4_faultOf_75 : decode cX4_faultOf 75 = .ok (.if_icmp .lt 5, 3) := by decide +kernel
theorem dX4_faultOf_78 : decode cX4_faultOf 78 = .ok (.iconst 4, 1) := by decide +kernel
theorem dX4_faultOf_79 : decode cX4_faultOf 79 = .ok (.ireturn, 1) := by decide +kernel
theorem dX4_faultOf_80 : decode cX4_faultOf 80 = .ok (.iload_n 1, 1) := by decide +kernel
theorem dX4_faultOf_81 : decode cX4_faultOf 81 = .ok (.iconst 4, 1) := by decide +kernel
theorem dX4_faultOf_82 : decode cX4_faultOf 82 = .ok (.if_icmp .ne 15, 3) := by decide +kernel
theorem dX4_faultOf_85 : decode cX4_faultOf 85 = .ok (.aload_n 0, 1) := by decide +kernel
theorem dX4_faultOf_86 : decode cX4_faultOf 86 = .ok (.getfield 34, 3) := by decide +kernel
theorem dX4_faultOf_89 : decode cX4_faultOf 89 = .ok (.iload_n 2, 1) := by decide +kernel
theorem dX4_faultOf_90 : decode cX4_faultOf 90 = .ok (.ishr, 1) := by decide +kernel
theorem dX4_faultOf_91 : decode cX4_faultOf 91 = .ok (.iconst 1, 1) := by decide +kernel
theorem dX4_faultOf_92 : decode cX4_faultOf 92 = .ok (.iand, 1) := by decide +kernel
theorem dX4_faultOf_93 : decode cX4_faultOf 93 = .ok (.iconst 1, 1) := by decide +kernel
theorem dX4_faultOf_94 : decode cX4_faultOf 94 = .ok (.if_icmp .eq 20, 3) := by decide +kernel
theorem dX4_faultOf_97 : decode cX4_faultOf 97 = .ok (.iload_n 1, 1) := by decide +kernel
theorem dX4_faultOf_98 : decode cX4_faultOf 98 = .ok (.iconst 5, 1) := by decide +kernel
theorem dX4_faultOf_99 : decode cX4_faultOf 99 = .ok (.if_icmp .ne 18, 3) := by decide +kernel
theorem dX4_faultOf_102 : decode cX4_faultOf 102 = .ok (.aload_n 0, 1) := by decide +kernel
theorem dX4_faultOf_103 : decode cX4_faultOf 103 = .ok (.getfield 37, 3) := by decide +kernel
theorem dX4_faultOf_106 : decode cX4_faultOf 106 = .ok (.iload_n 2, 1) := by decide +kernel
theorem dX4_faultOf_107 : decode cX4_faultOf 107 = .ok (.ishr, 1) := by decide +kernel
theorem dX4_faultOf_108 : decode cX4_faultOf 108 = .ok (.iconst 1, 1) := by decide +kernel
theorem dX4_faultOf_109 : decode cX4_faultOf 109 = .ok (.iand, 1) := by decide +kernel
theorem dX4_faultOf_110 : decode cX4_faultOf 110 = .ok (.iconst 1, 1) := by decide +kernel
theorem dX4_faultOf_111 : decode cX4_faultOf 111 = .ok (.if_icmp .ne 6, 3) := by decide +kernel
theorem dX4_faultOf_114 : decode cX4_faultOf 114 = .ok (.bipush 6, 2) := by decide +kernel
theorem dX4_faultOf_116 : decode cX4_faultOf 116 = .ok (.ireturn, 1) := by decide +kernel
theorem dX4_faultOf_117 : decode cX4_faultOf 117 = .ok (.iload_n 1, 1) := by decide +kernel
theorem dX4_faultOf_118 : decode cX4_faultOf 118 = .ok (.bipush 8, 2) := by decide +kernel
theorem dX4_faultOf_120 : decode cX4_faultOf 120 = .ok (.if_icmp .ne 20, 3) := by decide +kernel
theorem dX4_faultOf_123 : decode cX4_faultOf 123 = .ok (.aload_n 0, 1) := by decide +kernel
theorem dX4_faultOf_124 : decode cX4_faultOf 124 = .ok (.getfield 40, 3) := by decide +kernel
theorem dX4_faultOf_127 : decode cX4_faultOf 127 = .ok (.iload_n 2, 1) := by decide +kernel
theorem dX4_faultOf_128 : decode cX4_faultOf 128 = .ok (.ishr, 1) := by decide +kernel
theorem dX4_faultOf_129 : decode cX4_faultOf 129 = .ok (.iconst 1, 1) := by decide +kernel
theorem dX4_faultOf_130 : decode cX4_faultOf 130 = .ok (.iand, 1) := by decide +kernel
theorem dX4_faultOf_131 : decode cX4_faultOf 131 = .ok (.iconst 1, 1) := by decide +kernel
theorem dX4_faultOf_132 : decode cX4_faultOf 132 = .ok (.if_icmp .ne 8, 3) := by decide +kernel
theorem dX4_faultOf_135 : decode cX4_faultOf 135 = .ok (.bipush 7, 2) := by decide +kernel
theorem dX4_faultOf_137 : decode cX4_faultOf 137 = .ok (.goto 4, 3) := by decide +kernel
theorem dX4_faultOf_140 : decode cX4_faultOf 140 = .ok (.iconst 0, 1) := by decide +kernel
theorem dX4_faultOf_141 : decode cX4_faultOf 141 = .ok (.ireturn, 1) := by decide +kernel
theorem dX4_take_0 : decode cX4_take 0 = .ok (.iload_n 1, 1) := by decide +kernel
theorem dX4_take_1 : decode cX4_take 1 = .ok (.invokestatic 82, 3) := by decide +kernel
theorem dX4_take_4 : decode cX4_take 4 = .ok (.ifCond .eq 12, 3) := by decide +kernel
theorem dX4_take_7 : decode cX4_take 7 = .ok (.aload_n 0, 1) := by decide +kernel
theorem dX4_take_8 : decode cX4_take 8 = .ok (.iload_n 1, 1) := by decide +kernel
theorem dX4_take_9 : decode cX4_take 9 = .ok (.iload_n 2, 1) := by decide +kernel
theorem dX4_take_10 : decode cX4_take 10 = .ok (.invokevirtual 112, 3) := by decide +kernel
theorem dX4_take_13 : decode cX4_take 13 = .ok (.goto 19, 3) := by decide +kernel
theorem dX4_take_16 : decode cX4_take 16 = .ok (.aload_n 0, 1) := by decide +kernel
theorem dX4_take_17 : decode cX4_take 17 = .ok (.getfield 19, 3) := by decide +kernel
theorem dX4_take_20 : decode cX4_take 20 = .ok (.aload_n 0, 1) := by decide +kernel
theorem dX4_take_21 : decode cX4_take 21 = .ok (.getfield 19, 3) := by decide +kernel
theorem dX4_take_24 : decode cX4_take 24 = .ok (.getfield 23, 3) := by decide +kernel
theorem dX4_take_27 : decode cX4_take 27 = .ok (.iload_n 1, 1) := by decide +kernel
theorem dX4_take_28 : decode cX4_take 28 = .ok (.iload_n 2, 1) := by decide +kernel
theorem dX4_take_29 : decode cX4_take 29 = .ok (.invokevirtual 115, 3) := by decide +kernel
theorem dX4_take_32 : decode cX4_take 32 = .ok (.iload_n 1, 1) := by decide +kernel
theorem dX4_take_33 : decode cX4_take 33 = .ok (.iconst 4, 1) := by decide +kernel
theorem dX4_take_34 : decode cX4_take 34 = .ok (.if_icmp .ne 18, 3) := by decide +kernel
theorem dX4_take_37 : decode cX4_take 37 = .ok (.aload_n 0, 1) := by decide +kernel
theorem dX4_take_38 : decode cX4_take 38 = .ok (.dup, 1) := by decide +kernel
theorem dX4_take_39 : decode cX4_take 39 = .ok (.getfield 34, 3) := by decide +kernel
theorem dX4_take_42 : decode cX4_take 42 = .ok (.iconst 1, 1) := by decide +kernel
theorem dX4_take_43 : decode cX4_take 43 = .ok (.iload_n 2, 1) := by decide +kernel
theorem dX4_take_44 : decode cX4_take 44 = .ok (.ishl, 1) := by decide +kernel
theorem dX4_take_45 : decode cX4_take 45 = .ok (.ior, 1) := by decide +kernel
theorem dX4_take_46 : decode cX4_take 46 = .ok (.putfield 34, 3) := by decide +kernel
theorem dX4_take_49 : decode cX4_take 49 = .ok (.goto 47, 3) := by decide +kernel
theorem dX4_take_52 : decode cX4_take 52 = .ok (.iload_n 1, 1) := by decide +kernel
theorem dX4_take_53 : decode cX4_take 53 = .ok (.iconst 5, 1) := by decide +kernel
theorem dX4_take_54 : decode cX4_take 54 = .ok (.if_icmp .ne 18, 3) := by decide +kernel
theorem dX4_take_57 : decode cX4_take 57 = .ok (.aload_n 0, 1) := by decide +kernel
theorem dX4_take_58 : decode cX4_take 58 = .ok (.dup, 1) := by decide +kernel
theorem dX4_take_59 : decode cX4_take 59 = .ok (.getfield 37, 3) := by decide +kernel
theorem dX4_take_62 : decode cX4_take 62 = .ok (.iconst 1, 1) := by decide +kernel
theorem dX4_take_63 : decode cX4_take 63 = .ok (.iload_n 2, 1) := by decide +kernel
theorem dX4_take_64 : decode cX4_take 64 = .ok (.ishl, 1) := by decide +kernel
theorem dX4_take_65 : decode cX4_take 65 = .ok (.ior, 1) := by decide +kernel
theorem dX4_take_66 : decode cX4_take 66 = .ok (.putfield 37, 3) := by decide +kernel
theorem dX4_take_69 : decode cX4_take 69 = .ok (.goto 27, 3) := by decide +kernel
theorem dX4_take_72 : decode cX4_take 72 = .ok (.iload_n 1, 1) := by decide +kernel
theorem dX4_take_73 : decode cX4_take 73 = .ok (.bipush 8, 2) := by decide +kernel
theorem dX4_take_75 : decode cX4_take 75 = .ok (.if_icmp .ne 21, 3) := by decide +kernel
theorem dX4_take_78 : decode cX4_take 78 = .ok (.aload_n 0, 1) := by decide +kernel
theorem dX4_take_79 : decode cX4_take 79 = .ok (.dup, 1) := by decide +kernel
theorem dX4_take_80 : decode cX4_take 80 = .ok (.getfield 40, 3) := by decide +kernel
theorem dX4_take_83 : decode cX4_take 83 = .ok (.iconst 1, 1) := by decide +kernel
theorem dX4_take_84 : decode cX4_take 84 = .ok (.iload_n 2, 1) := by decide +kernel
theorem dX4_take_85 : decode cX4_take 85 = .ok (.ishl, 1) := by decide +kernel
theorem dX4_take_86 : decode cX4_take 86 = .ok (.ior, 1) := by decide +kernel
theorem dX4_take_87 : decode cX4_take 87 = .ok (.putfield 40, 3) := by decide +kernel
theorem dX4_take_90 : decode cX4_take 90 = .ok (.aload_n 0, 1) := by decide +kernel
theorem dX4_take_91 : decode cX4_take 91 = .ok (.iconst 2, 1) := by decide +kernel
theorem dX4_take_92 : decode cX4_take 92 = .ok (.iload_n 2, 1) := by decide +kernel
theorem dX4_take_93 : decode cX4_take 93 = .ok (.invokevirtual 112, 3) := by decide +kernel
theorem dX4_take_96 : decode cX4_take 96 = .ok (.return_, 1) := by decide +kernel
theorem dX4_include_0 : decode cX4_include 0 = .ok (.aload_n 0, 1) := by decide +kernel
theorem dX4_include_1 : decode cX4_include 1 = .ok (.getfield 19, 3) := by decide +kernel
theorem dX4_include_4 : decode cX4_include 4 = .ok (.aload_n 0, 1) := by decide +kernel
theorem dX4_include_5 : decode cX4_include 5 = .ok (.getfield 19, 3) := by decide +kernel
theorem dX4_include_8 : decode cX4_include 8 = .ok (.getfield 23, 3) := by decide +kernel
theorem dX4_include_11 : decode cX4_include 11 = .ok (.iload_n 1, 1) := by decide +kernel
theorem dX4_include_12 : decode cX4_include 12 = .ok (.aload_n 0, 1) := by decide +kernel
theorem dX4_include_13 : decode cX4_include 13 = .ok (.getfield 19, 3) := by decide +kernel
theorem dX4_include_16 : decode cX4_include 16 = .ok (.aload_n 0, 1) := by decide +kernel
theorem dX4_include_17 : decode cX4_include 17 = .ok (.getfield 19, 3) := by decide +kernel
theorem dX4_include_20 : decode cX4_include 20 = .ok (.getfield 23, 3) := by decide +kernel
theorem dX4_include_23 : decode cX4_include 23 = .ok (.iload_n 1, 1) := by decide +kernel
theorem dX4_include_24 : decode cX4_include 24 = .ok (.invokevirtual 108, 3) := by decide +kernel
theorem dX4_include_27 : decode cX4_include 27 = .ok (.iconst 1, 1) := by decide +kernel
theorem dX4_include_28 : decode cX4_include 28 = .ok (.iload_n 2, 1) := by decide +kernel
theorem dX4_include_29 : decode cX4_include 29 = .ok (.ishl, 1) := by decide +kernel
theorem dX4_include_30 : decode cX4_include 30 = .ok (.ior, 1) := by decide +kernel
theorem dX4_include_31 : decode cX4_include 31 = .ok (.invokevirtual 115, 3) := by decide +kernel
theorem dX4_include_34 : decode cX4_include 34 = .ok (.return_, 1) := by decide +kernel
theorem dX5_init_0 : decode cX5_init 0 = .ok (.aload_n 0, 1) := by decide +kernel
theorem dX5_init_1 : decode cX5_init 1 = .ok (.invokespecial 3, 3) := by decide +kernel
theorem dX5_init_4 : decode cX5_init 4 = .ok (.aload_n 0, 1) := by decide +kernel
theorem dX5_init_5 : decode cX5_init 5 = .ok (.bipush 8, 2) := by decide +kernel
theorem dX5_init_7 : decode cX5_init 7 = .ok (.newarray .int, 2) := by decide +kernel
theorem dX5_init_9 : decode cX5_init 9 = .ok (.putfield 9, 3) := by decide +kernel
theorem dX5_init_12 : decode cX5_init 12 = .ok (.aload_n 0, 1) := by decide +kernel
theorem dX5_init_13 : decode cX5_init 13 = .ok (.iconst 0, 1) := by decide +kernel
theorem dX5_init_14 : decode cX5_init 14 = .ok (.putfield 15, 3) := by decide +kernel
theorem dX5_init_17 : decode cX5_init 17 = .ok (.aload_n 0, 1) := by decide +kernel
theorem dX5_init_18 : decode cX5_init 18 = .ok (.aload_n 1, 1) := by decide +kernel
theorem dX5_init_19 : decode cX5_init 19 = .ok (.putfield 19, 3) := by decide +kernel
theorem dX5_init_22 : decode cX5_init 22 = .ok (.return_, 1) := by decide +kernel
theorem dX5_isNever_0 : decode cX5_isNever 0 = .ok (.iload_n 1, 1) := by decide +kernel
theorem dX5_isNever_1 : decode cX5_isNever 1 = .ok (.ifCond .lt 27, 3) := by decide +kernel
theorem dX5_isNever_4 : decode cX5_isNever 4 = .ok (.iload_n 1, 1) := by decide +kernel
theorem dX5_isNever_5 : decode cX5_isNever 5 = .ok (.bipush 8, 2) := by decide +kernel
theorem dX5_isNever_7 : decode cX5_isNever 7 = .ok (.if_icmp .ge 21, 3) := by decide +kernel
theorem dX5_isNever_10 : decode cX5_isNever 10 = .ok (.aload_n 0, 1) := by decide +kernel
theorem dX5_isNever_11 : decode cX5_isNever 11 = .ok (.getfield 9, 3) := by decide +kernel
theorem dX5_isNever_14 : decode cX5_isNever 14 = .ok (.iload_n 1, 1) := by decide +kernel
theorem dX5_isNever_15 : decode cX5_isNever 15 = .ok (.iaload, 1) := by decide +kernel
theorem dX5_isNever_16 : decode cX5_isNever 16 = .ok (.iload_n 2, 1) := by decide +kernel
theorem dX5_isNever_17 : decode cX5_isNever 17 = .ok (.ishr, 1) := by decide +kernel
theorem dX5_isNever_18 : decode cX5_isNever 18 = .ok (.iconst 1, 1) := by decide +kernel
theorem dX5_isNever_19 : decode cX5_isNever 19 = .ok (.iand, 1) := by decide +kernel
theorem dX5_isNever_20 : decode cX5_isNever 20 = .ok (.iconst 1, 1) := by decide +kernel
theorem dX5_isNever_21 : decode cX5_isNever 21 = .ok (.if_icmp .ne 7, 3) := by decide +kernel
theorem dX5_isNever_24 : decode cX5_isNever 24 = .ok (.iconst 1, 1) := by decide +kernel
theorem dX5_isNever_25 : decode cX5_isNever 25 = .ok (.goto 4, 3) := by decide +kernel
theorem dX5_isNever_28 : decode cX5_isNever 28 = .ok (.iconst 0, 1) := by decide +kernel
theorem dX5_isNever_29 : decode cX5_isNever 29 = .ok (.ireturn, 1) := by decide +kernel
theorem dX5_turnNever_0 : decode cX5_turnNever 0 = .ok (.iload_n 1, 1) := by decide +kernel
theorem dX5_turnNever_1 : decode cX5_turnNever 1 = .ok (.ifCond .lt 19, 3) := by decide +kernel
theorem dX5_turnNever_4 : decode cX5_turnNever 4 = .ok (.iload_n 1, 1) := by decide +kernel
theorem dX5_turnNever_5 : decode cX5_turnNever 5 = .ok (.bipush 8, 2) := by decide +kernel
theorem dX5_turnNever_7 : decode cX5_turnNever 7 = .ok (.if_icmp .ge 13, 3) := by decide +kernel
theorem dX5_turnNever_10 : decode cX5_turnNever 10 = .ok (.iload_n 2, 1) := by decide +kernel
theorem dX5_turnNever_11 : decode cX5_turnNever 11 = .ok (.ifCond .lt 9, 3) := by decide +kernel
theorem dX5_turnNever_14 : decode cX5_turnNever 14 = .ok (.iload_n 2, 1) := by decide +kernel
theorem dX5_turnNever_15 : decode cX5_turnNever 15 = .ok (.bipush 8, 2) := by decide +kernel
theorem dX5_turnNever_17 : decode cX5_turnNever 17 = .ok (.if_icmp .lt 4, 3) := by decide +kernel
theorem dX5_turnNever_20 : decode cX5_turnNever 20 = .ok (.return_, 1) := by decide +kernel
theorem dX5_turnNever_21 : decode cX5_turnNever 21 = .ok (.aload_n 0, 1) := by decide +kernel
theorem dX5_turnNever_22 : decode cX5_turnNever 22 = .ok (.dup, 1) := by decide +kernel
theorem dX5_turnNever_23 : decode cX5_turnNever 23 = .ok (.getfield 15, 3) := by decide +kernel
theorem dX5_turnNever_26 : decode cX5_turnNever 26 = .ok (.aload_n 0, 1) := by decide +kernel
theorem dX5_turnNever_27 : decode cX5_turnNever 27 = .ok (.iload_n 1, 1) := by decide +kernel
theorem dX5_turnNever_28 : decode cX5_turnNever 28 = .ok (.iload_n 2, 1) := by decide +kernel
theorem dX5_turnNever_29 : decode cX5_turnNever 29 = .ok (.invokevirtual 23, 3) := by decide +kernel
theorem dX5_turnNever_32 : decode cX5_turnNever 32 = .ok (.ifCond .eq 7, 3) := by decide +kernel
theorem dX5_turnNever_35 : decode cX5_turnNever 35 = .ok (.iconst (-1), 1) := by decide +kernel
theorem dX5_turnNever_36 : decode cX5_turnNever 36 = .ok (.goto 4, 3) := by decide +kernel
theorem dX5_turnNever_39 : decode cX5_turnNever 39 = .ok (.iconst 1, 1) := by decide +kernel
theorem dX5_turnNever_40 : decode cX5_turnNever 40 = .ok (.iadd, 1) := by decide +kernel
theorem dX5_turnNever_41 : decode cX5_turnNever 41 = .ok (.putfield 15, 3) := by decide +kernel
theorem dX5_turnNever_44 : decode cX5_turnNever 44 = .ok (.aload_n 0, 1) := by decide +kernel
theorem dX5_turnNever_45 : decode cX5_turnNever 45 = .ok (.getfield 9, 3) := by decide +kernel
theorem dX5_turnNever_48 : decode cX5_turnNever 48 = .ok (.iload_n 1, 1) := by decide +kernel
theorem dX5_turnNever_49 : decode cX5_turnNever 49 = .ok (.dup2, 1) := by decide +kernel
theorem dX5_turnNever_50 : decode cX5_turnNever 50 = .ok (.iaload, 1) := by decide +kernel
theorem dX5_turnNever_51 : decode cX5_turnNever 51 = .ok (.iconst 1, 1) := by decide +kernel
theorem dX5_turnNever_52 : decode cX5_turnNever 52 = .ok (.iload_n 2, 1) := by decide +kernel
theorem dX5_turnNever_53 : decode cX5_turnNever 53 = .ok (.ishl, 1) := by decide +kernel
theorem dX5_turnNever_54 : decode cX5_turnNever 54 = .ok (.ixor, 1) := by decide +kernel
theorem dX5_turnNever_55 : decode cX5_turnNever 55 = .ok (.iastore, 1) := by decide +kernel
theorem dX5_turnNever_56 : decode cX5_turnNever 56 = .ok (.aload_n 0, 1) := by decide +kernel
theorem dX5_turnNever_57 : decode cX5_turnNever 57 = .ok (.getfield 9, 3) := by decide +kernel
theorem dX5_turnNever_60 : decode cX5_turnNever 60 = .ok (.iload_n 2, 1) := by decide +kernel
theorem dX5_turnNever_61 : decode cX5_turnNever 61 = .ok (.dup2, 1) := by decide +kernel
theorem dX5_turnNever_62 : decode cX5_turnNever 62 = .ok (.iaload, 1) := by decide +kernel
theorem dX5_turnNever_63 : decode cX5_turnNever 63 = .ok (.iconst 1, 1) := by decide +kernel
theorem dX5_turnNever_64 : decode cX5_turnNever 64 = .ok (.iload_n 1, 1) := by decide +kernel
theorem dX5_turnNever_65 : decode cX5_turnNever 65 = .ok (.ishl, 1) := by decide +kernel
theorem dX5_turnNever_66 : decode cX5_turnNever 66 = .ok (.ixor, 1) := by decide +kernel
theorem dX5_turnNever_67 : decode cX5_turnNever 67 = .ok (.iastore, 1) := by decide +kernel
theorem dX5_turnNever_68 : decode cX5_turnNever 68 = .ok (.return_, 1) := by decide +kernel
theorem dX5_nextBehind_0 : decode cX5_nextBehind 0 = .ok (.aload_n 0, 1) := by decide +kernel
theorem dX5_nextBehind_1 : decode cX5_nextBehind 1 = .ok (.iload_n 1, 1) := by decide +kernel
theorem dX5_nextBehind_2 : decode cX5_nextBehind 2 = .ok (.aload_n 0, 1) := by decide +kernel
theorem dX5_nextBehind_3 : decode cX5_nextBehind 3 = .ok (.getfield 19, 3) := by decide +kernel
theorem dX5_nextBehind_6 : decode cX5_nextBehind 6 = .ok (.iload_n 1, 1) := by decide +kernel
theorem dX5_nextBehind_7 : decode cX5_nextBehind 7 = .ok (.iconst 4, 1) := by decide +kernel
theorem dX5_nextBehind_8 : decode cX5_nextBehind 8 = .ok (.invokevirtual 29, 3) := by decide +kernel
theorem dX5_nextBehind_11 : decode cX5_nextBehind 11 = .ok (.aload_n 0, 1) := by decide +kernel
theorem dX5_nextBehind_12 : decode cX5_nextBehind 12 = .ok (.getfield 19, 3) := by decide +kernel
theorem dX5_nextBehind_15 : decode cX5_nextBehind 15 = .ok (.iload_n 1, 1) := by decide +kernel
theorem dX5_nextBehind_16 : decode cX5_nextBehind 16 = .ok (.bipush 6, 2) := by decide +kernel
theorem dX5_nextBehind_18 : decode cX5_nextBehind 18 = .ok (.invokevirtual 29, 3) := by decide +kernel
theorem dX5_nextBehind_21 : decode cX5_nextBehind 21 = .ok (.aload_n 0, 1) := by decide +kernel
theorem dX5_nextBehind_22 : decode cX5_nextBehind 22 = .ok (.getfield 19, 3) := by decide +kernel
theorem dX5_nextBehind_25 : decode cX5_nextBehind 25 = .ok (.iload_n 1, 1) := by decide +kernel
theorem dX5_nextBehind_26 : decode cX5_nextBehind 26 = .ok (.invokevirtual 33, 3) := by decide +kernel
theorem dX5_nextBehind_29 : decode cX5_nextBehind 29 = .ok (.invokevirtual 37, 3) := by decide +kernel
theorem dX5_nextBehind_32 : decode cX5_nextBehind 32 = .ok (.ireturn, 1) := by decide +kernel
theorem dX5_nextBehind__0 : decode cX5_nextBehind_ 0 = .ok (.iconst 0, 1) := by decide +kernel
theorem dX5_nextBehind__1 : decode cX5_nextBehind_ 1 = .ok (.istore 5, 2) := by decide +kernel
theorem dX5_nextBehind__3 : decode cX5_nextBehind_ 3 = .ok (.iconst 0, 1) := by decide +kernel
theorem dX5_nextBehind__4 : decode cX5_nextBehind_ 4 = .ok (.istore 6, 2) := by decide +kernel
theorem dX5_nextBehind__6 : decode cX5_nextBehind_ 6 = .ok (.iload 6, 2) := by decide +kernel
theorem dX5_nextBehind__8 : decode cX5_nextBehind_ 8 = .ok (.aload_n 0, 1) := by decide +kernel
theorem dX5_nextBehind__9 : decode cX5_nextBehind_ 9 = .ok (.getfield 19, 3) := by decide +kernel
theorem dX5_nextBehind__12 : decode cX5_nextBehind_ 12 = .ok (.getfield 41, 3) := by decide +kernel
theorem dX5_nextBehind__15 : decode cX5_nextBehind_ 15 = .ok (.if_icmp .ge 101, 3) := by decide +kernel
theorem dX5_nextBehind__18 : decode cX5_nextBehind_ 18 = .ok (.aload_n 0, 1) := by decide +kernel
theorem dX5_nextBehind__19 : decode cX5_nextBehind_ 19 = .ok (.getfield 19, 3) := by decide +kernel
theorem dX5_nextBehind__22 : decode cX5_nextBehind_ 22 = .ok (.getfield 44, 3) := by decide +kernel
theorem dX5_nextBehind__25 : decode cX5_nextBehind_ 25 = .ok (.iload 6, 2) := by decide +kernel
theorem dX5_nextBehind__27 : decode cX5_nextBehind_ 27 = .ok (.aaload, 1) := by decide +kernel
theorem dX5_nextBehind__28 : decode cX5_nextBehind_ 28 = .ok (.astore 7, 2) := by decide +kernel
theorem dX5_nextBehind__30 : decode cX5_nextBehind_ 30 = .ok (.iload_n 1, 1) := by decide +kernel
theorem dX5_nextBehind__31 : decode cX5_nextBehind_ 31 = .ok (.iload 6, 2) := by decide +kernel
theorem dX5_nextBehind__33 : decode cX5_nextBehind_ 33 = .ok (.ishr, 1) := by decide +kernel
theorem dX5_nextBehind__34 : decode cX5_nextBehind_ 34 = .ok (.iconst 1, 1) := by decide +kernel
theorem dX5_nextBehind__35 : decode cX5_nextBehind_ 35 = .ok (.iand, 1) := by decide +kernel
theorem dX5_nextBehind__36 : decode cX5_nextBehind_ 36 = .ok (.ifCond .ne 74, 3) := by decide +kernel
theorem dX5_nextBehind__39 : decode cX5_nextBehind_ 39 = .ok (.aload 7, 2) := by decide +kernel
theorem dX5_nextBehind__41 : decode cX5_nextBehind_ 41 = .ok (.iconst 3, 1) := by decide +kernel
theorem dX5_nextBehind__42 : decode cX5_nextBehind_ 42 = .ok (.iaload, 1) := by decide +kernel
theorem dX5_nextBehind__43 : decode cX5_nextBehind_ 43 = .ok (.iload_n 1, 1) := by decide +kernel
theorem dX5_nextBehind__44 : decode cX5_nextBehind_ 44 = .ok (.iconst (-1), 1) := by decide +kernel
theorem dX5_nextBehind__45 : decode cX5_nextBehind_ 45 = .ok (.ixor, 1) := by decide +kernel
theorem dX5_nextBehind__46 : decode cX5_nextBehind_ 46 = .ok (.iand, 1) := by decide +kernel
theorem dX5_nextBehind__47 : decode cX5_nextBehind_ 47 = .ok (.ifCond .ne 63, 3) := by decide +kernel
theorem dX5_nextBehind__50 : decode cX5_nextBehind_ 50 = .ok (.aload 7, 2) := by decide +kernel
theorem dX5_nextBehind__52 : decode cX5_nextBehind_ 52 = .ok (.iconst 5, 1) := by decide +kernel
theorem dX5_nextBehind__53 : decode cX5_nextBehind_ 53 = .ok (.iaload, 1) := by decide +kernel
theorem dX5_nextBehind__54 : decode cX5_nextBehind_ 54 = .ok (.iload_n 2, 1) := by decide +kernel
theorem dX5_nextBehind__55 : decode cX5_nextBehind_ 55 = .ok (.aload 7, 2) := by decide +kernel
theorem dX5_nextBehind__57 : decode cX5_nextBehind_ 57 = .ok (.iconst 4, 1) := by decide +kernel
theorem dX5_nextBehind__58 : decode cX5_nextBehind_ 58 = .ok (.iaload, 1) := by decide +kernel
theorem dX5_nextBehind__59 : decode cX5_nextBehind_ 59 = .ok (.ior, 1) := by decide +kernel
theorem dX5_nextBehind__60 : decode cX5_nextBehind_ 60 = .ok (.iconst (-1), 1) := by decide +kernel
theorem dX5_nextBehind__61 : decode cX5_nextBehind_ 61 = .ok (.ixor, 1) := by decide +kernel
theorem dX5_nextBehind__62 : decode cX5_nextBehind_ 62 = .ok (.iand, 1) := by decide +kernel
theorem dX5_nextBehind__63 : decode cX5_nextBehind_ 63 = .ok (.ifCond .ne 47, 3) := by decide +kernel
theorem dX5_nextBehind__66 : decode cX5_nextBehind_ 66 = .ok (.aload 7, 2) := by decide +kernel
theorem dX5_nextBehind__68 : decode cX5_nextBehind_ 68 = .ok (.bipush 7, 2) := by decide +kernel
theorem dX5_nextBehind__70 : decode cX5_nextBehind_ 70 = .ok (.iaload, 1) := by decide +kernel
theorem dX5_nextBehind__71 : decode cX5_nextBehind_ 71 = .ok (.iload_n 3, 1) := by decide +kernel
theorem dX5_nextBehind__72 : decode cX5_nextBehind_ 72 = .ok (.iconst (-1), 1) := by decide +kernel
theorem dX5_nextBehind__73 : decode cX5_nextBehind_ 73 = .ok (.ixor, 1) := by decide +kernel
theorem dX5_nextBehind__74 : decode cX5_nextBehind_ 74 = .ok (.iand, 1) := by decide +kernel
theorem dX5_nextBehind__75 : decode cX5_nextBehind_ 75 = .ok (.ifCond .ne 35, 3) := by decide +kernel
theorem dX5_nextBehind__78 : decode cX5_nextBehind_ 78 = .ok (.aload 7, 2) := by decide +kernel
theorem dX5_nextBehind__80 : decode cX5_nextBehind_ 80 = .ok (.iconst 2, 1) := by decide +kernel
theorem dX5_nextBehind__81 : decode cX5_nextBehind_ 81 = .ok (.iaload, 1) := by decide +kernel
theorem dX5_nextBehind__82 : decode cX5_nextBehind_ 82 = .ok (.iload 4, 2) := by decide +kernel
theorem dX5_nextBehind__84 : decode cX5_nextBehind_ 84 = .ok (.iand, 1) := by decide +kernel
theorem dX5_nextBehind__85 : decode cX5_nextBehind_ 85 = .ok (.ifCond .ne 25, 3) := by decide +kernel
theorem dX5_nextBehind__88 : decode cX5_nextBehind_ 88 = .ok (.aload_n 0, 1) := by decide +kernel
theorem dX5_nextBehind__89 : decode cX5_nextBehind_ 89 = .ok (.aload 7, 2) := by decide +kernel
theorem dX5_nextBehind__91 : decode cX5_nextBehind_ 91 = .ok (.bipush 6, 2) := by decide +kernel
theorem dX5_nextBehind__93 : decode cX5_nextBehind_ 93 = .ok (.iaload, 1) := by decide +kernel
theorem dX5_nextBehind__94 : decode cX5_nextBehind_ 94 = .ok (.iload_n 3, 1) := by decide +kernel
theorem dX5_nextBehind__95 : decode cX5_nextBehind_ 95 = .ok (.invokevirtual 48, 3) := by decide +kernel
theorem dX5_nextBehind__98 : decode cX5_nextBehind_ 98 = .ok (.ifCond .eq 12, 3) := by decide +kernel
theorem dX5_nextBehind__101 : decode cX5_nextBehind_ 101 = .ok (.iload 5, 2) := by decide +kernel
theorem dX5_nextBehind__103 : decode cX5_nextBehind_ 103 = .ok (.iconst 1, 1) := by decide +kernel
theorem dX5_nextBehind__104 : decode cX5_nextBehind_ 104 = .ok (.iload 6, 2) := by decide +kernel
theorem dX5_nextBehind__106 : decode cX5_nextBehind_ 106 = .ok (.ishl, 1) := by decide +kernel
theorem dX5_nextBehind__107 : decode cX5_nextBehind_ 107 = .ok (.ior, 1) := by decide +kernel
theorem dX5_nextBehind__108 : decode cX5_nextBehind_ 108 = .ok (.istore 5, 2) := by decide +kernel
theorem dX5_nextBehind__110 : decode cX5_nextBehind_ 110 = .ok (.iinc 6 1, 3) := by decide +kernel
theorem dX5_nextBehind__113 : decode cX5_nextBehind_ 113 = .ok (.goto (-107), 3) := by decide +kernel
theorem dX5_nextBehind__116 : decode cX5_nextBehind_ 116 = .ok (.iload 5, 2) := by decide +kernel
theorem dX5_nextBehind__118 : decode cX5_nextBehind_ 118 = .ok (.ireturn, 1) := by decide +kernel
theorem dX5_mayTell_0 : decode cX5_mayTell 0 = .ok (.iconst 0, 1) := by decide +kernel
theorem dX5_mayTell_1 : decode cX5_mayTell 1 = .ok (.istore_n 3, 1) := by decide +kernel
theorem dX5_mayTell_2 : decode cX5_mayTell 2 = .ok (.iload_n 3, 1) := by decide +kernel
theorem dX5_mayTell_3 : decode cX5_mayTell 3 = .ok (.bipush 8, 2) := by decide +kernel
theorem dX5_mayTell_5 : decode cX5_mayTell 5 = .ok (.if_icmp .ge 39, 3) := by decide +kernel
theorem dX5_mayTell_8 : decode cX5_mayTell 8 = .ok (.iload_n 1, 1) := by decide +kernel
theorem dX5_mayTell_9 : decode cX5_mayTell 9 = .ok (.iload_n 3, 1) := by decide +kernel
theorem dX5_mayTell_10 : decode cX5_mayTell 10 = .ok (.ishr, 1) := by decide +kernel
theorem dX5_mayTell_11 : decode cX5_mayTell 11 = .ok (.ifCond .eq 33, 3) := by decide +kernel
theorem dX5_mayTell_14 : decode cX5_mayTell 14 = .ok (.iload_n 1, 1) := by decide +kernel
theorem dX5_mayTell_15 : decode cX5_mayTell 15 = .ok (.iload_n 3, 1) := by decide +kernel
theorem dX5_mayTell_16 : decode cX5_mayTell 16 = .ok (.ishr, 1) := by decide +kernel
theorem dX5_mayTell_17 : decode cX5_mayTell 17 = .ok (.iconst 1, 1) := by decide +kernel
theorem dX5_mayTell_18 : decode cX5_mayTell 18 = .ok (.iand, 1) := by decide +kernel
theorem dX5_mayTell_19 : decode cX5_mayTell 19 = .ok (.iconst 1, 1) := by decide +kernel
theorem dX5_mayTell_20 : decode cX5_mayTell 20 = .ok (.if_icmp .ne 18, 3) := by decide +kernel
theorem dX5_mayTell_23 : decode cX5_mayTell 23 = .ok (.aload_n 0, 1) := by decide +kernel
theorem dX5_mayTell_24 : decode cX5_mayTell 24 = .ok (.getfield 9, 3) := by decide +kernel
theorem dX5_mayTell_27 : decode cX5_mayTell 27 = .ok (.iload_n 3, 1) := by decide +kernel
theorem dX5_mayTell_28 : decode cX5_mayTell 28 = .ok (.iaload, 1) := by decide +kernel
theorem dX5_mayTell_29 : decode cX5_mayTell 29 = .ok (.iload_n 2, 1) := by decide +kernel
theorem dX5_mayTell_30 : decode cX5_mayTell 30 = .ok (.iload_n 1, 1) := by decide +kernel
theorem dX5_mayTell_31 : decode cX5_mayTell 31 = .ok (.ior, 1) := by decide +kernel
theorem dX5_mayTell_32 : decode cX5_mayTell 32 = .ok (.iand, 1) := by decide +kernel
theorem dX5_mayTell_33 : decode cX5_mayTell 33 = .ok (.ifCond .eq 5, 3) := by decide +kernel
theorem dX5_mayTell_36 : decode cX5_mayTell 36 = .ok (.iconst 0, 1) := by decide +kernel
theorem dX5_mayTell_37 : decode cX5_mayTell 37 = .ok (.ireturn, 1) := by decide +kernel
theorem dX5_mayTell_38 : decode cX5_mayTell 38 = .ok (.iinc 3 1, 3) := by decide +kernel
theorem dX5_mayTell_41 : decode cX5_mayTell 41 = .ok (.goto (-39), 3) := by decide +kernel
theorem dX5_mayTell_44 : decode cX5_mayTell 44 = .ok (.iconst 1, 1) := by decide +kernel
theorem dX5_mayTell_45 : decode cX5_mayTell 45 = .ok (.ireturn, 1) := by decide +kernel
theorem dX6_init_0 : decode cX6_init 0 = .ok (.aload_n 0, 1) := by decide +kernel
theorem dX6_init_1 : decode cX6_init 1 = .ok (.invokespecial 3, 3) := by decide +kernel
theorem dX6_init_4 : decode cX6_init 4 = .ok (.aload_n 0, 1) := by decide +kernel
theorem dX6_init_5 : decode cX6_init 5 = .ok (.iconst 0, 1) := by decide +kernel
theorem dX6_init_6 : decode cX6_init 6 = .ok (.putfield 9, 3) := by decide +kernel
theorem dX6_init_9 : decode cX6_init 9 = .ok (.aload_n 0, 1) := by decide +kernel
theorem dX6_init_10 : decode cX6_init 10 = .ok (.sipush 1024, 3) := by decide +kernel
theorem dX6_init_13 : decode cX6_init 13 = .ok (.newarray .int, 2) := by decide +kernel
theorem dX6_init_15 : decode cX6_init 15 = .ok (.putfield 15, 3) := by decide +kernel
theorem dX6_init_18 : decode cX6_init 18 = .ok (.aload_n 0, 1) := by decide +kernel
theorem dX6_init_19 : decode cX6_init 19 = .ok (.sipush 1024, 3) := by decide +kernel
theorem dX6_init_22 : decode cX6_init 22 = .ok (.newarray .int, 2) := by decide +kernel
theorem dX6_init_24 : decode cX6_init 24 = .ok (.putfield 19, 3) := by decide +kernel
theorem dX6_init_27 : decode cX6_init 27 = .ok (.aload_n 0, 1) := by decide +kernel
theorem dX6_init_28 : decode cX6_init 28 = .ok (.sipush 1024, 3) := by decide +kernel
theorem dX6_init_31 : decode cX6_init 31 = .ok (.newarray .int, 2) := by decide +kernel
theorem dX6_init_33 : decode cX6_init 33 = .ok (.putfield 22, 3) := by decide +kernel
theorem dX6_init_36 : decode cX6_init 36 = .ok (.aload_n 0, 1) := by decide +kernel
theorem dX6_init_37 : decode cX6_init 37 = .ok (.sipush 1024, 3) := by decide +kernel
theorem dX6_init_40 : decode cX6_init 40 = .ok (.newarray .int, 2) := by decide +kernel
theorem dX6_init_42 : decode cX6_init 42 = .ok (.putfield 25, 3) := by decide +kernel
theorem dX6_init_45 : decode cX6_init 45 = .ok (.aload_n 0, 1) := by decide +kernel
theorem dX6_init_46 : decode cX6_init 46 = .ok (.sipush 1024, 3) := by decide +kernel
theorem dX6_init_49 : decode cX6_init 49 = .ok (.newarray .int, 2) := by decide +kernel
theorem dX6_init_51 : decode cX6_init 51 = .ok (.putfield 28, 3) := by decide +kernel
theorem dX6_init_54 : decode cX6_init 54 = .ok (.aload_n 0, 1) := by decide +kernel
theorem dX6_init_55 : decode cX6_init 55 = .ok (.sipush 1024, 3) := by decide +kernel
theorem dX6_init_58 : decode cX6_init 58 = .ok (.newarray .int, 2) := by decide +kernel
theorem dX6_init_60 : decode cX6_init 60 = .ok (.putfield 31, 3) := by decide +kernel
theorem dX6_init_63 : decode cX6_init 63 = .ok (.aload_n 0, 1) := by decide +kernel
theorem dX6_init_64 : decode cX6_init 64 = .ok (.sipush 1024, 3) := by decide +kernel
theorem dX6_init_67 : decode cX6_init 67 = .ok (.newarray .int, 2) := by decide +kernel
theorem dX6_init_69 : decode cX6_init 69 = .ok (.putfield 34, 3) := by decide +kernel
theorem dX6_init_72 : decode cX6_init 72 = .ok (.aload_n 0, 1) := by decide +kernel
theorem dX6_init_73 : decode cX6_init 73 = .ok (.sipush 1024, 3) := by decide +kernel
theorem dX6_init_76 : decode cX6_init 76 = .ok (.newarray .int, 2) := by decide +kernel
theorem dX6_init_78 : decode cX6_init 78 = .ok (.putfield 37, 3) := by decide +kernel
theorem dX6_init_81 : decode cX6_init 81 = .ok (.aload_n 0, 1) := by decide +kernel
theorem dX6_init_82 : decode cX6_init 82 = .ok (.sipush 1024, 3) := by decide +kernel
theorem dX6_init_85 : decode cX6_init 85 = .ok (.newarray .int, 2) := by decide +kernel
theorem dX6_init_87 : decode cX6_init 87 = .ok (.putfield 40, 3) := by decide +kernel
theorem dX6_init_90 : decode cX6_init 90 = .ok (.aload_n 0, 1) := by decide +kernel
theorem dX6_init_91 : decode cX6_init 91 = .ok (.sipush 1024, 3) := by decide +kernel
theorem dX6_init_94 : decode cX6_init 94 = .ok (.newarray .int, 2) := by decide +kernel
theorem dX6_init_96 : decode cX6_init 96 = .ok (.putfield 43, 3) := by decide +kernel
theorem dX6_init_99 : decode cX6_init 99 = .ok (.aload_n 0, 1) := by decide +kernel
theorem dX6_init_100 : decode cX6_init 100 = .ok (.sipush 1024, 3) := by decide +kernel
theorem dX6_init_103 : decode cX6_init 103 = .ok (.newarray .int, 2) := by decide +kernel
theorem dX6_init_105 : decode cX6_init 105 = .ok (.putfield 46, 3) := by decide +kernel
theorem dX6_init_108 : decode cX6_init 108 = .ok (.aload_n 0, 1) := by decide +kernel
theorem dX6_init_109 : decode cX6_init 109 = .ok (.aload_n 1, 1) := by decide +kernel
theorem dX6_init_110 : decode cX6_init 110 = .ok (.putfield 49, 3) := by decide +kernel
theorem dX6_init_113 : decode cX6_init 113 = .ok (.aload_n 0, 1) := by decide +kernel
theorem dX6_init_114 : decode cX6_init 114 = .ok (.aload_n 2, 1) := by decide +kernel
theorem dX6_init_115 : decode cX6_init 115 = .ok (.putfield 53, 3) := by decide +kernel
theorem dX6_init_118 : decode cX6_init 118 = .ok (.return_, 1) := by decide +kernel
theorem dX6_build_0 : decode cX6_build 0 = .ok (.aload_n 0, 1) := by decide +kernel
theorem dX6_build_1 : decode cX6_build 1 = .ok (.iconst 1, 1) := by decide +kernel
theorem dX6_build_2 : decode cX6_build 2 = .ok (.aload_n 0, 1) := by decide +kernel
theorem dX6_build_3 : decode cX6_build 3 = .ok (.getfield 49, 3) := by decide +kernel
theorem dX6_build_6 : decode cX6_build 6 = .ok (.getfield 57, 3) := by decide +kernel
theorem dX6_build_9 : decode cX6_build 9 = .ok (.ishl, 1) := by decide +kernel
theorem dX6_build_10 : decode cX6_build 10 = .ok (.putfield 63, 3) := by decide +kernel
theorem dX6_build_13 : decode cX6_build 13 = .ok (.iconst 0, 1) := by decide +kernel
theorem dX6_build_14 : decode cX6_build 14 = .ok (.istore_n 1, 1) := by decide +kernel
theorem dX6_build_15 : decode cX6_build 15 = .ok (.iload_n 1, 1) := by decide +kernel
theorem dX6_build_16 : decode cX6_build 16 = .ok (.aload_n 0, 1) := by decide +kernel
theorem dX6_build_17 : decode cX6_build 17 = .ok (.getfield 49, 3) := by decide +kernel
theorem dX6_build_20 : decode cX6_build 20 = .ok (.getfield 57, 3) := by decide +kernel
theorem dX6_build_23 : decode cX6_build 23 = .ok (.if_icmp .ge 17, 3) := by decide +kernel
theorem dX6_build_26 : decode cX6_build 26 = .ok (.aload_n 0, 1) := by decide +kernel
theorem dX6_build_27 : decode cX6_build 27 = .ok (.iload_n 1, 1) := by decide +kernel
theorem dX6_build_28 : decode cX6_build 28 = .ok (.iconst 1, 1) := by decide +kernel
theorem dX6_build_29 : decode cX6_build 29 = .ok (.iload_n 1, 1) := by decide +kernel
theorem dX6_build_30 : decode cX6_build 30 = .ok (.ishl, 1) := by decide +kernel
theorem dX6_build_31 : decode cX6_build 31 = .ok (.invokevirtual 66, 3) := by decide +kernel
theorem dX6_build_34 : decode cX6_build 34 = .ok (.iinc 1 1, 3) := by decide +kernel
theorem dX6_build_37 : decode cX6_build 37 = .ok (.goto (-22), 3) := by decide +kernel
theorem dX6_build_40 : decode cX6_build 40 = .ok (.iconst 0, 1) := by decide +kernel
theorem dX6_build_41 : decode cX6_build 41 = .ok (.istore_n 1, 1) := by decide +kernel
theorem dX6_build_42 : decode cX6_build 42 = .ok (.iload_n 1, 1) := by decide +kernel
theorem dX6_build_43 : decode cX6_build 43 = .ok (.aload_n 0, 1) := by decide +kernel
theorem dX6_build_44 : decode cX6_build 44 = .ok (.getfield 63, 3) := by decide +kernel
theorem dX6_build_47 : decode cX6_build 47 = .ok (.if_icmp .ge 84, 3) := by decide +kernel
theorem dX6_build_50 : decode cX6_build 50 = .ok (.aload_n 0, 1) := by decide +kernel
theorem dX6_build_51 : decode cX6_build 51 = .ok (.getfield 34, 3) := by decide +kernel
theorem dX6_build_54 : decode cX6_build 54 = .ok (.iload_n 1, 1) := by decide +kernel
theorem dX6_build_55 : decode cX6_build 55 = .ok (.aload_n 0, 1) := by decide +kernel
theorem dX6_build_56 : decode cX6_build 56 = .ok (.getfield 22, 3) := by decide +kernel
theorem dX6_build_59 : decode cX6_build 59 = .ok (.iload_n 1, 1) := by decide +kernel
theorem dX6_build_60 : decode cX6_build 60 = .ok (.iaload, 1) := by decide +kernel
theorem dX6_build_61 : decode cX6_build 61 = .ok (.aload_n 0, 1) := by decide +kernel
theorem dX6_build_62 : decode cX6_build 62 = .ok (.getfield 25, 3) := by decide +kernel
theorem dX6_build_65 : decode cX6_build 65 = .ok (.iload_n 1, 1) := by decide +kernel
theorem dX6_build_66 : decode cX6_build 66 = .ok (.iaload, 1) := by decide +kernel
theorem dX6_build_67 : decode cX6_build 67 = .ok (.iconst (-1), 1) := by decide +kernel
theorem dX6_build_68 : decode cX6_build 68 = .ok (.ixor, 1) := by decide +kernel
theorem dX6_build_69 : decode cX6_build 69 = .ok (.iand, 1) := by decide +kernel
theorem dX6_build_70 : decode cX6_build 70 = .ok (.iastore, 1) := by decide +kernel
theorem dX6_build_71 : decode cX6_build 71 = .ok (.aload_n 0, 1) := by decide +kernel
theorem dX6_build_72 : decode cX6_build 72 = .ok (.getfield 37, 3) := by decide +kernel
theorem dX6_build_75 : decode cX6_build 75 = .ok (.iload_n 1, 1) := by decide +kernel
theorem dX6_build_76 : decode cX6_build 76 = .ok (.aload_n 0, 1) := by decide +kernel
theorem dX6_build_77 : decode cX6_build 77 = .ok (.getfield 53, 3) := by decide +kernel
theorem dX6_build_80 : decode cX6_build 80 = .ok (.iload_n 1, 1) := by decide +kernel
theorem dX6_build_81 : decode cX6_build 81 = .ok (.aload_n 0, 1) := by decide +kernel
theorem dX6_build_82 : decode cX6_build 82 = .ok (.getfield 22, 3) := by decide +kernel
theorem dX6_build_85 : decode cX6_build 85 = .ok (.iload_n 1, 1) := by decide +kernel
theorem dX6_build_86 : decode cX6_build 86 = .ok (.iaload, 1) := by decide +kernel
theorem dX6_build_87 : decode cX6_build 87 = .ok (.aload_n 0, 1) := by decide +kernel
theorem dX6_build_88 : decode cX6_build 88 = .ok (.getfield 28, 3) := by decide +kernel
theorem dX6_build_91 : decode cX6_build 91 = .ok (.iload_n 1, 1) := by decide +kernel
theorem dX6_build_92 : decode cX6_build 92 = .ok (.iaload, 1) := by decide +kernel
theorem dX6_build_93 : decode cX6_build 93 = .ok (.aload_n 0, 1) := by decide +kernel
theorem dX6_build_94 : decode cX6_build 94 = .ok (.getfield 31, 3) := by decide +kernel
theorem dX6_build_97 : decode cX6_build 97 = .ok (.iload_n 1, 1) := by decide +kernel
theorem dX6_build_98 : decode cX6_build 98 = .ok (.iaload, 1) := by decide +kernel
theorem dX6_build_99 : decode cX6_build 99 = .ok (.invokevirtual 70, 3) := by decide +kernel
theorem dX6_build_102 : decode cX6_build 102 = .ok (.iastore, 1) := by decide +kernel
theorem dX6_build_103 : decode cX6_build 103 = .ok (.aload_n 0, 1) := by decide +kernel
theorem dX6_build_104 : decode cX6_build 104 = .ok (.getfield 40, 3) := by decide +kernel
theorem dX6_build_107 : decode cX6_build 107 = .ok (.iload_n 1, 1) := by decide +kernel
theorem dX6_build_108 : decode cX6_build 108 = .ok (.iload_n 1, 1) := by decide +kernel
theorem dX6_build_109 : decode cX6_build 109 = .ok (.ifCond .ne 7, 3) := by decide +kernel
theorem dX6_build_112 : decode cX6_build 112 = .ok (.iconst 1, 1) := by decide +kernel
theorem dX6_build_113 : decode cX6_build 113 = .ok (.goto 4, 3) := by decide +kernel
theorem dX6_build_116 : decode cX6_build 116 = .ok (.iconst 0, 1) := by decide +kernel
theorem dX6_build_117 : decode cX6_build 117 = .ok (.iastore, 1) := by decide +kernel
theorem dX6_build_118 : decode cX6_build 118 = .ok (.aload_n 0, 1) := by decide +kernel
theorem dX6_build_119 : decode cX6_build 119 = .ok (.getfield 43, 3) := by decide +kernel
theorem dX6_build_122 : decode cX6_build 122 = .ok (.iload_n 1, 1) := by decide +kernel
theorem dX6_build_123 : decode cX6_build 123 = .ok (.iconst (-1), 1) := by decide +kernel
theorem dX6_build_124 : decode cX6_build 124 = .ok (.iastore, 1) := by decide +kernel
theorem dX6_build_125 : decode cX6_build 125 = .ok (.iinc 1 1, 3) := by decide +kernel
theorem dX6_build_128 : decode cX6_build 128 = .ok (.goto (-86), 3) := by decide +kernel
theorem dX6_build_131 : decode cX6_build 131 = .ok (.iconst 0, 1) := by decide +kernel
theorem dX6_build_132 : decode cX6_build 132 = .ok (.istore_n 1, 1) := by decide +kernel
theorem dX6_build_133 : decode cX6_build 133 = .ok (.iload_n 1, 1) := by decide +kernel
theorem dX6_build_134 : decode cX6_build 134 = .ok (.aload_n 0, 1) := by decide +kernel
theorem dX6_build_135 : decode cX6_build 135 = .ok (.getfield 63, 3) := by decide +kernel
theorem dX6_build_138 : decode cX6_build 138 = .ok (.if_icmp .ge 47, 3) := by decide +kernel
theorem dX6_build_141 : decode cX6_build 141 = .ok (.aload_n 0, 1) := by decide +kernel
theorem dX6_build_142 : decode cX6_build 142 = .ok (.getfield 40, 3) := by decide +kernel
theorem dX6_build_145 : decode cX6_build 145 = .ok (.iload_n 1, 1) := by decide +kernel
theorem dX6_build_146 : decode cX6_build 146 = .ok (.iaload, 1) := by decide +kernel
theorem dX6_build_147 : decode cX6_build 147 = .ok (.ifCond .le 32, 3) := by decide +kernel
theorem dX6_build_150 : decode cX6_build 150 = .ok (.aload_n 0, 1) := by decide +kernel
theorem dX6_build_151 : decode cX6_build 151 = .ok (.getfield 43, 3) := by decide +kernel
theorem dX6_build_154 : decode cX6_build 154 = .ok (.iload_n 1, 1) := by decide +kernel
theorem dX6_build_155 : decode cX6_build 155 = .ok (.aload_n 0, 1) := by decide +kernel
theorem dX6_build_156 : decode cX6_build 156 = .ok (.getfield 43, 3) := by decide +kernel
theorem dX6_build_159 : decode cX6_build 159 = .ok (.iload_n 1, 1) := by decide +kernel
theorem dX6_build_160 : decode cX6_build 160 = .ok (.iaload, 1) := by decide +kernel
theorem dX6_build_161 : decode cX6_build 161 = .ok (.aload_n 0, 1) := by decide +kernel
theorem dX6_build_162 : decode cX6_build 162 = .ok (.getfield 34, 3) := by decide +kernel
theorem dX6_build_165 : decode cX6_build 165 = .ok (.iload_n 1, 1) := by decide +kernel
theorem dX6_build_166 : decode cX6_build 166 = .ok (.iaload, 1) := by decide +kernel
theorem dX6_build_167 : decode cX6_build 167 = .ok (.invokestatic 76, 3) := by decide +kernel
theorem dX6_build_170 : decode cX6_build 170 = .ok (.invokestatic 82, 3) := by decide +kernel
theorem dX6_build_173 : decode cX6_build 173 = .ok (.iastore, 1) := by decide +kernel
theorem dX6_build_174 : decode cX6_build 174 = .ok (.aload_n 0, 1) := by decide +kernel
theorem dX6_build_175 : decode cX6_build 175 = .ok (.iload_n 1, 1) := by decide +kernel
theorem dX6_build_176 : decode cX6_build 176 = .ok (.invokevirtual 88, 3) := by decide +kernel
theorem dX6_build_179 : decode cX6_build 179 = .ok (.iinc 1 1, 3) := by decide +kernel
theorem dX6_build_182 : decode cX6_build 182 = .ok (.goto (-49), 3) := by decide +kernel
theorem dX6_build_185 : decode cX6_build 185 = .ok (.aload_n 0, 1) := by decide +kernel
theorem dX6_build_186 : decode cX6_build 186 = .ok (.iconst (-1), 1) := by decide +kernel
theorem dX6_build_187 : decode cX6_build 187 = .ok (.putfield 92, 3) := by decide +kernel
theorem dX6_build_190 : decode cX6_build 190 = .ok (.aload_n 0, 1) := by decide +kernel
theorem dX6_build_191 : decode cX6_build 191 = .ok (.iconst 1, 1) := by decide +kernel
theorem dX6_build_192 : decode cX6_build 192 = .ok (.putfield 9, 3) := by decide +kernel
theorem dX6_build_195 : decode cX6_build 195 = .ok (.return_, 1) := by decide +kernel
theorem dX6_addUp_0 : decode cX6_addUp 0 = .ok (.aload_n 0, 1) := by decide +kernel
theorem dX6_addUp_1 : decode cX6_addUp 1 = .ok (.getfield 49, 3) := by decide +kernel
theorem dX6_addUp_4 : decode cX6_addUp 4 = .ok (.getfield 95, 3) := by decide +kernel
theorem dX6_addUp_7 : decode cX6_addUp 7 = .ok (.iload_n 1, 1) := by decide +kernel
theorem dX6_addUp_8 : decode cX6_addUp 8 = .ok (.aaload, 1) := by decide +kernel
theorem dX6_addUp_9 : decode cX6_addUp 9 = .ok (.astore_n 3, 1) := by decide +kernel
theorem dX6_addUp_10 : decode cX6_addUp 10 = .ok (.aload_n 0, 1) := by decide +kernel
theorem dX6_addUp_11 : decode cX6_addUp 11 = .ok (.getfield 49, 3) := by decide +kernel
theorem dX6_addUp_14 : decode cX6_addUp 14 = .ok (.iload_n 2, 1) := by decide +kernel
theorem dX6_addUp_15 : decode cX6_addUp 15 = .ok (.invokevirtual 99, 3) := by decide +kernel
theorem dX6_addUp_18 : decode cX6_addUp 18 = .ok (.istore 4, 2) := by decide +kernel
theorem dX6_addUp_20 : decode cX6_addUp 20 = .ok (.iconst 0, 1) := by decide +kernel
theorem dX6_addUp_21 : decode cX6_addUp 21 = .ok (.istore 5, 2) := by decide +kernel
theorem dX6_addUp_23 : decode cX6_addUp 23 = .ok (.iload 5, 2) := by decide +kernel
theorem dX6_addUp_25 : decode cX6_addUp 25 = .ok (.iload_n 2, 1) := by decide +kernel
theorem dX6_addUp_26 : decode cX6_addUp 26 = .ok (.if_icmp .ge 123, 3) := by decide +kernel
theorem dX6_addUp_29 : decode cX6_addUp 29 = .ok (.iload 5, 2) := by decide +kernel
theorem dX6_addUp_31 : decode cX6_addUp 31 = .ok (.iload_n 2, 1) := by decide +kernel
theorem dX6_addUp_32 : decode cX6_addUp 32 = .ok (.ior, 1) := by decide +kernel
theorem dX6_addUp_33 : decode cX6_addUp 33 = .ok (.istore 6, 2) := by decide +kernel
theorem dX6_addUp_35 : decode cX6_addUp 35 = .ok (.aload_n 0, 1) := by decide +kernel
theorem dX6_addUp_36 : decode cX6_addUp 36 = .ok (.getfield 15, 3) := by decide +kernel
theorem dX6_addUp_39 : decode cX6_addUp 39 = .ok (.iload 6, 2) := by decide +kernel
theorem dX6_addUp_41 : decode cX6_addUp 41 = .ok (.aload_n 0, 1) := by decide +kernel
theorem dX6_addUp_42 : decode cX6_addUp 42 = .ok (.getfield 15, 3) := by decide +kernel
theorem dX6_addUp_45 : decode cX6_addUp 45 = .ok (.iload 5, 2) := by decide +kernel
theorem dX6_addUp_47 : decode cX6_addUp 47 = .ok (.iaload, 1) := by decide +kernel
theorem dX6_addUp_48 : decode cX6_addUp 48 = .ok (.aload_n 3, 1) := by decide +kernel
theorem dX6_addUp_49 : decode cX6_addUp 49 = .ok (.iconst 0, 1) := by decide +kernel
theorem dX6_addUp_50 : decode cX6_addUp 50 = .ok (.iaload, 1) := by decide +kernel
theorem dX6_addUp_51 : decode cX6_addUp 51 = .ok (.iadd, 1) := by decide +kernel
theorem dX6_addUp_52 : decode cX6_addUp 52 = .ok (.iastore, 1) := by decide +kernel
theorem dX6_addUp_53 : decode cX6_addUp 53 = .ok (.aload_n 0, 1) := by decide +kernel
theorem dX6_addUp_54 : decode cX6_addUp 54 = .ok (.getfield 19, 3) := by decide +kernel
theorem dX6_addUp_57 : decode cX6_addUp 57 = .ok (.iload 6, 2) := by decide +kernel
theorem dX6_addUp_59 : decode cX6_addUp 59 = .ok (.aload_n 0, 1) := by decide +kernel
theorem dX6_addUp_60 : decode cX6_addUp 60 = .ok (.getfield 19, 3) := by decide +kernel
theorem dX6_addUp_63 : decode cX6_addUp 63 = .ok (.iload 5, 2) := by decide +kernel
theorem dX6_addUp_65 : decode cX6_addUp 65 = .ok (.iaload, 1) := by decide +kernel
theorem dX6_addUp_66 : decode cX6_addUp 66 = .ok (.aload_n 3, 1) := by decide +kernel
theorem dX6_addUp_67 : decode cX6_addUp 67 = .ok (.iconst 1, 1) := by decide +kernel
theorem dX6_addUp_68 : decode cX6_addUp 68 = .ok (.iaload, 1) := by decide +kernel
theorem dX6_addUp_69 : decode cX6_addUp 69 = .ok (.iadd, 1) := by decide +kernel
theorem dX6_addUp_70 : decode cX6_addUp 70 = .ok (.iastore, 1) := by decide +kernel
theorem dX6_addUp_71 : decode cX6_addUp 71 = .ok (.aload_n 0, 1) := by decide +kernel
theorem dX6_addUp_72 : decode cX6_addUp 72 = .ok (.getfield 22, 3) := by decide +kernel
theorem dX6_addUp_75 : decode cX6_addUp 75 = .ok (.iload 6, 2) := by decide +kernel
theorem dX6_addUp_77 : decode cX6_addUp 77 = .ok (.aload_n 0, 1) := by decide +kernel
theorem dX6_addUp_78 : decode cX6_addUp 78 = .ok (.getfield 22, 3) := by decide +kernel
theorem dX6_addUp_81 : decode cX6_addUp 81 = .ok (.iload 5, 2) := by decide +kernel
theorem dX6_addUp_83 : decode cX6_addUp 83 = .ok (.iaload, 1) := by decide +kernel
theorem dX6_addUp_84 : decode cX6_addUp 84 = .ok (.aload_n 3, 1) := by decide +kernel
theorem dX6_addUp_85 : decode cX6_addUp 85 = .ok (.iconst 4, 1) := by decide +kernel
theorem dX6_addUp_86 : decode cX6_addUp 86 = .ok (.iaload, 1) := by decide +kernel
theorem dX6_addUp_87 : decode cX6_addUp 87 = .ok (.ior, 1) := by decide +kernel
theorem dX6_addUp_88 : decode cX6_addUp 88 = .ok (.iastore, 1) := by decide +kernel
theorem dX6_addUp_89 : decode cX6_addUp 89 = .ok (.aload_n 0, 1) := by decide +kernel
theorem dX6_addUp_90 : decode cX6_addUp 90 = .ok (.getfield 25, 3) := by decide +kernel
theorem dX6_addUp_93 : decode cX6_addUp 93 = .ok (.iload 6, 2) := by decide +kernel
theorem dX6_addUp_95 : decode cX6_addUp 95 = .ok (.aload_n 0, 1) := by decide +kernel
theorem dX6_addUp_96 : decode cX6_addUp 96 = .ok (.getfield 25, 3) := by decide +kernel
theorem dX6_addUp_99 : decode cX6_addUp 99 = .ok (.iload 5, 2) := by decide +kernel
theorem dX6_addUp_101 : decode cX6_addUp 101 = .ok (.iaload, 1) := by decide +kernel
theorem dX6_addUp_102 : decode cX6_addUp 102 = .ok (.aload_n 3, 1) := by decide +kernel
theorem dX6_addUp_103 : decode cX6_addUp 103 = .ok (.iconst 5, 1) := by decide +kernel
theorem dX6_addUp_104 : decode cX6_addUp 104 = .ok (.iaload, 1) := by decide +kernel
theorem dX6_addUp_105 : decode cX6_addUp 105 = .ok (.ior, 1) := by decide +kernel
theorem dX6_addUp_106 : decode cX6_addUp 106 = .ok (.iastore, 1) := by decide +kernel
theorem dX6_addUp_107 : decode cX6_addUp 107 = .ok (.aload_n 0, 1) := by decide +kernel
theorem dX6_addUp_108 : decode cX6_addUp 108 = .ok (.getfield 28, 3) := by decide +kernel
theorem dX6_addUp_111 : decode cX6_addUp 111 = .ok (.iload 6, 2) := by decide +kernel
theorem dX6_addUp_113 : decode cX6_addUp 113 = .ok (.aload_n 0, 1) := by decide +kernel
theorem dX6_addUp_114 : decode cX6_addUp 114 = .ok (.getfield 28, 3) := by decide +kernel
theorem dX6_addUp_117 : decode cX6_addUp 117 = .ok (.iload 5, 2) := by decide +kernel
theorem dX6_addUp_119 : decode cX6_addUp 119 = .ok (.iaload, 1) := by decide +kernel
theorem dX6_addUp_120 : decode cX6_addUp 120 = .ok (.aload_n 3, 1) := by decide +kernel
theorem dX6_addUp_121 : decode cX6_addUp 121 = .ok (.bipush 6, 2) := by decide +kernel
theorem dX6_addUp_123 : decode cX6_addUp 123 = .ok (.iaload, 1) := by decide +kernel
theorem dX6_addUp_124 : decode cX6_addUp 124 = .ok (.ior, 1) := by decide +kernel
theorem dX6_addUp_125 : decode cX6_addUp 125 = .ok (.iastore, 1) := by decide +kernel
theorem dX6_addUp_126 : decode cX6_addUp 126 = .ok (.aload_n 0, 1) := by decide +kernel
theorem dX6_addUp_127 : decode cX6_addUp 127 = .ok (.getfield 31, 3) := by decide +kernel
theorem dX6_addUp_130 : decode cX6_addUp 130 = .ok (.iload 6, 2) := by decide +kernel
theorem dX6_addUp_132 : decode cX6_addUp 132 = .ok (.aload_n 0, 1) := by decide +kernel
theorem dX6_addUp_133 : decode cX6_addUp 133 = .ok (.getfield 31, 3) := by decide +kernel
theorem dX6_addUp_136 : decode cX6_addUp 136 = .ok (.iload 5, 2) := by decide +kernel
theorem dX6_addUp_138 : decode cX6_addUp 138 = .ok (.iaload, 1) := by decide +kernel
theorem dX6_addUp_139 : decode cX6_addUp 139 = .ok (.iload 4, 2) := by decide +kernel
theorem dX6_addUp_141 : decode cX6_addUp 141 = .ok (.ior, 1) := by decide +kernel
theorem dX6_addUp_142 : decode cX6_addUp 142 = .ok (.iastore, 1) := by decide +kernel
theorem dX6_addUp_143 : decode cX6_addUp 143 = .ok (.iinc 5 1, 3) := by decide +kernel
theorem dX6_addUp_146 : decode cX6_addUp 146 = .ok (.goto (-123), 3) := by decide +kernel
theorem dX6_addUp_149 : decode cX6_addUp 149 = .ok (.return_, 1) := by decide +kernel
theorem dX6_spread_0 : decode cX6_spread 0 = .ok (.iconst 0, 1) := by decide +kernel
theorem dX6_spread_1 : decode cX6_spread 1 = .ok (.istore_n 2, 1) := by decide +kernel
theorem dX6_spread_2 : decode cX6_spread 2 = .ok (.iload_n 2, 1) := by decide +kernel
theorem dX6_spread_3 : decode cX6_spread 3 = .ok (.aload_n 0, 1) := by decide +kernel
theorem dX6_spread_4 : decode cX6_spread 4 = .ok (.getfield 49, 3) := by decide +kernel
theorem dX6_spread_7 : decode cX6_spread 7 = .ok (.getfield 57, 3) := by decide +kernel
theorem dX6_spread_10 : decode cX6_spread 10 = .ok (.if_icmp .ge 83, 3) := by decide +kernel
theorem dX6_spread_13 : decode cX6_spread 13 = .ok (.aload_n 0, 1) := by decide +kernel
theorem dX6_spread_14 : decode cX6_spread 14 = .ok (.getfield 37, 3) := by decide +kernel
theorem dX6_spread_17 : decode cX6_spread 17 = .ok (.iload_n 1, 1) := by decide +kernel
theorem dX6_spread_18 : decode cX6_spread 18 = .ok (.iaload, 1) := by decide +kernel
theorem dX6_spread_19 : decode cX6_spread 19 = .ok (.iload_n 2, 1) := by decide +kernel
theorem dX6_spread_20 : decode cX6_spread 20 = .ok (.ishr, 1) := by decide +kernel
theorem dX6_spread_21 : decode cX6_spread 21 = .ok (.iconst 1, 1) := by decide +kernel
theorem dX6_spread_22 : decode cX6_spread 22 = .ok (.iand, 1) := by decide +kernel
theorem dX6_spread_23 : decode cX6_spread 23 = .ok (.iconst 1, 1) := by decide +kernel
theorem dX6_spread_24 : decode cX6_spread 24 = .ok (.if_icmp .ne 63, 3) := by decide +kernel
theorem dX6_spread_27 : decode cX6_spread 27 = .ok (.iload_n 1, 1) := by decide +kernel
theorem dX6_spread_28 : decode cX6_spread 28 = .ok (.iconst 1, 1) := by decide +kernel
theorem dX6_spread_29 : decode cX6_spread 29 = .ok (.iload_n 2, 1) := by decide +kernel
theorem dX6_spread_30 : decode cX6_spread 30 = .ok (.ishl, 1) := by decide +kernel
theorem dX6_spread_31 : decode cX6_spread 31 = .ok (.ior, 1) := by decide +kernel
theorem dX6_spread_32 : decode cX6_spread 32 = .ok (.istore_n 3, 1) := by decide +kernel
theorem dX6_spread_33 : decode cX6_spread 33 = .ok (.aload_n 0, 1) := by decide +kernel
theorem dX6_spread_34 : decode cX6_spread 34 = .ok (.getfield 43, 3) := by decide +kernel
theorem dX6_spread_37 : decode cX6_spread 37 = .ok (.iload_n 3, 1) := by decide +kernel
theorem dX6_spread_38 : decode cX6_spread 38 = .ok (.aload_n 0, 1) := by decide +kernel
theorem dX6_spread_39 : decode cX6_spread 39 = .ok (.getfield 40, 3) := by decide +kernel
theorem dX6_spread_42 : decode cX6_spread 42 = .ok (.iload_n 3, 1) := by decide +kernel
theorem dX6_spread_43 : decode cX6_spread 43 = .ok (.iaload, 1) := by decide +kernel
theorem dX6_spread_44 : decode cX6_spread 44 = .ok (.ifCond .ne 12, 3) := by decide +kernel
theorem dX6_spread_47 : decode cX6_spread 47 = .ok (.aload_n 0, 1) := by decide +kernel
theorem dX6_spread_48 : decode cX6_spread 48 = .ok (.getfield 43, 3) := by decide +kernel
theorem dX6_spread_51 : decode cX6_spread 51 = .ok (.iload_n 1, 1) := by decide +kernel
theorem dX6_spread_52 : decode cX6_spread 52 = .ok (.iaload, 1) := by decide +kernel
theorem dX6_spread_53 : decode cX6_spread 53 = .ok (.goto 18, 3) := by decide +kernel
theorem dX6_spread_56 : decode cX6_spread 56 = .ok (.aload_n 0, 1) := by decide +kernel
theorem dX6_spread_57 : decode cX6_spread 57 = .ok (.getfield 43, 3) := by decide +kernel
theorem dX6_spread_60 : decode cX6_spread 60 = .ok (.iload_n 3, 1) := by decide +kernel
theorem dX6_spread_61 : decode cX6_spread 61 = .ok (.iaload, 1) := by decide +kernel
theorem dX6_spread_62 : decode cX6_spread 62 = .ok (.aload_n 0, 1) := by decide +kernel
theorem dX6_spread_63 : decode cX6_spread 63 = .ok (.getfield 43, 3) := by decide +kernel
theorem dX6_spread_66 : decode cX6_spread 66 = .ok (.iload_n 1, 1) := by decide +kernel
theorem dX6_spread_67 : decode cX6_spread 67 = .ok (.iaload, 1) := by decide +kernel
theorem dX6_spread_68 : decode cX6_spread 68 = .ok (.invokestatic 102, 3) := by decide +kernel
theorem dX6_spread_71 : decode cX6_spread 71 = .ok (.iastore, 1) := by decide +kernel
theorem dX6_spread_72 : decode cX6_spread 72 = .ok (.aload_n 0, 1) := by decide +kernel
theorem dX6_spread_73 : decode cX6_spread 73 = .ok (.getfield 40, 3) := by decide +kernel
theorem dX6_spread_76 : decode cX6_spread 76 = .ok (.iload_n 3, 1) := by decide +kernel
theorem dX6_spread_77 : decode cX6_spread 77 = .ok (.dup2, 1) := by decide +kernel
theorem dX6_spread_78 : decode cX6_spread 78 = .ok (.iaload, 1) := by decide +kernel
theorem dX6_spread_79 : decode cX6_spread 79 = .ok (.aload_n 0, 1) := by decide +kernel
theorem dX6_spread_80 : decode cX6_spread 80 = .ok (.getfield 40, 3) := by decide +kernel
theorem dX6_spread_83 : decode cX6_spread 83 = .ok (.iload_n 1, 1) := by decide +kernel
theorem dX6_spread_84 : decode cX6_spread 84 = .ok (.iaload, 1) := by decide +kernel
theorem dX6_spread_85 : decode cX6_spread 85 = .ok (.iadd, 1) := by decide +kernel
theorem dX6_spread_86 : decode cX6_spread 86 = .ok (.iastore, 1) := by decide +kernel
theorem dX6_spread_87 : decode cX6_spread 87 = .ok (.iinc 2 1, 3) := by decide +kernel
theorem dX6_spread_90 : decode cX6_spread 90 = .ok (.goto (-88), 3) := by decide +kernel
theorem dX6_spread_93 : decode cX6_spread 93 = .ok (.return_, 1) := by decide +kernel
theorem dX6_countGood_0 : decode cX6_countGood 0 = .ok (.iconst 0, 1) := by decide +kernel
theorem dX6_countGood_1 : decode cX6_countGood 1 = .ok (.istore_n 1, 1) := by decide +kernel
theorem dX6_countGood_2 : decode cX6_countGood 2 = .ok (.iconst 0, 1) := by decide +kernel
theorem dX6_countGood_3 : decode cX6_countGood 3 = .ok (.istore_n 2, 1) := by decide +kernel
theorem dX6_countGood_4 : decode cX6_countGood 4 = .ok (.iload_n 2, 1) := by decide +kernel
theorem dX6_countGood_5 : decode cX6_countGood 5 = .ok (.aload_n 0, 1) := by decide +kernel
theorem dX6_countGood_6 : decode cX6_countGood 6 = .ok (.getfield 63, 3) := by decide +kernel
theorem dX6_countGood_9 : decode cX6_countGood 9 = .ok (.if_icmp .ge 21, 3) := by decide +kernel
theorem dX6_countGood_12 : decode cX6_countGood 12 = .ok (.aload_n 0, 1) := by decide +kernel
theorem dX6_countGood_13 : decode cX6_countGood 13 = .ok (.getfield 40, 3) := by decide +kernel
theorem dX6_countGood_16 : decode cX6_countGood 16 = .ok (.iload_n 2, 1) := by decide +kernel
theorem dX6_countGood_17 : decode cX6_countGood 17 = .ok (.iaload, 1) := by decide +kernel
theorem dX6_countGood_18 : decode cX6_countGood 18 = .ok (.ifCond .le 6, 3) := by decide +kernel
theorem dX6_countGood_21 : decode cX6_countGood 21 = .ok (.iinc 1 1, 3) := by decide +kernel
theorem dX6_countGood_24 : decode cX6_countGood 24 = .ok (.iinc 2 1, 3) := by decide +kernel
theorem dX6_countGood_27 : decode cX6_countGood 27 = .ok (.goto (-23), 3) := by decide +kernel
theorem dX6_countGood_30 : decode cX6_countGood 30 = .ok (.iload_n 1, 1) := by decide +kernel
theorem dX6_countGood_31 : decode cX6_countGood 31 = .ok (.ireturn, 1) := by decide +kernel
theorem dX6_findEndings_0 : decode cX6_findEndings 0 = .ok (.aload_n 0, 1) := by decide +kernel
theorem dX6_findEndings_1 : decode cX6_findEndings 1 = .ok (.getfield 92, 3) := by decide +kernel
theorem dX6_findEndings_4 : decode cX6_findEndings 4 = .ok (.iload_n 1, 1) := by decide +kernel
theorem dX6_findEndings_5 : decode cX6_findEndings 5 = .ok (.if_icmp .ne 4, 3) := by decide +kernel
theorem dX6_findEndings_8 : decode cX6_findEndings 8 = .ok (.return_, 1) := by decide +kernel
theorem dX6_findEndings_9 : decode cX6_findEndings 9 = .ok (.iload_n 1, 1) := by decide +kernel
theorem dX6_findEndings_10 : decode cX6_findEndings 10 = .ok (.istore_n 2, 1) := by decide +kernel
theorem dX6_findEndings_11 : decode cX6_findEndings 11 = .ok (.iload_n 2, 1) := by decide +kernel
theorem dX6_findEndings_12 : decode cX6_findEndings 12 = .ok (.ifCond .lt 97, 3) := by decide +kernel
theorem dX6_findEndings_15 : decode cX6_findEndings 15 = .ok (.aload_n 0, 1) := by decide +kernel
theorem dX6_findEndings_16 : decode cX6_findEndings 16 = .ok (.getfield 46, 3) := by decide +kernel
theorem dX6_findEndings_19 : decode cX6_findEndings 19 = .ok (.iload_n 2, 1) := by decide +kernel
theorem dX6_findEndings_20 : decode cX6_findEndings 20 = .ok (.iload_n 2, 1) := by decide +kernel
theorem dX6_findEndings_21 : decode cX6_findEndings 21 = .ok (.iload_n 1, 1) := by decide +kernel
theorem dX6_findEndings_22 : decode cX6_findEndings 22 = .ok (.if_icmp .ne 7, 3) := by decide +kernel
theorem dX6_findEndings_25 : decode cX6_findEndings 25 = .ok (.iconst 1, 1) := by decide +kernel
theorem dX6_findEndings_26 : decode cX6_findEndings 26 = .ok (.goto 4, 3) := by decide +kernel
theorem dX6_findEndings_29 : decode cX6_findEndings 29 = .ok (.iconst 0, 1) := by decide +kernel
theorem dX6_findEndings_30 : decode cX6_findEndings 30 = .ok (.iastore, 1) := by decide +kernel
theorem dX6_findEndings_31 : decode cX6_findEndings 31 = .ok (.iload_n 2, 1) := by decide +kernel
theorem dX6_findEndings_32 : decode cX6_findEndings 32 = .ok (.iload_n 1, 1) := by decide +kernel
theorem dX6_findEndings_33 : decode cX6_findEndings 33 = .ok (.iconst (-1), 1) := by decide +kernel
theorem dX6_findEndings_34 : decode cX6_findEndings 34 = .ok (.ixor, 1) := by decide +kernel
theorem dX6_findEndings_35 : decode cX6_findEndings 35 = .ok (.iand, 1) := by decide +kernel
theorem dX6_findEndings_36 : decode cX6_findEndings 36 = .ok (.ifCond .ne 14, 3) := by decide +kernel
theorem dX6_findEndings_39 : decode cX6_findEndings 39 = .ok (.aload_n 0, 1) := by decide +kernel
theorem dX6_findEndings_40 : decode cX6_findEndings 40 = .ok (.getfield 37, 3) := by decide +kernel
theorem dX6_findEndings_43 : decode cX6_findEndings 43 = .ok (.iload_n 2, 1) := by decide +kernel
theorem dX6_findEndings_44 : decode cX6_findEndings 44 = .ok (.iaload, 1) := by decide +kernel
theorem dX6_findEndings_45 : decode cX6_findEndings 45 = .ok (.iload_n 1, 1) := by decide +kernel
theorem dX6_findEndings_46 : decode cX6_findEndings 46 = .ok (.iand, 1) := by decide +kernel
theorem dX6_findEndings_47 : decode cX6_findEndings 47 = .ok (.goto 4, 3) := by decide +kernel
theorem dX6_findEndings_50 : decode cX6_findEndings 50 = .ok (.iconst 0, 1) := by decide +kernel
theorem dX6_findEndings_51 : decode cX6_findEndings 51 = .ok (.istore_n 3, 1) := by decide +kernel
theorem dX6_findEndings_52 : decode cX6_findEndings 52 = .ok (.iconst 0, 1) := by decide +kernel
theorem dX6_findEndings_53 : decode cX6_findEndings 53 = .ok (.istore 4, 2) := by decide +kernel
theorem dX6_findEndings_55 : decode cX6_findEndings 55 = .ok (.iload 4, 2) := by decide +kernel
theorem dX6_findEndings_57 : decode cX6_findEndings 57 = .ok (.aload_n 0, 1) := by decide +kernel
theorem dX6_findEndings_58 : decode cX6_findEndings 58 = .ok (.getfield 49, 3) := by decide +kernel
theorem dX6_findEndings_61 : decode cX6_findEndings 61 = .ok (.getfield 57, 3) := by decide +kernel
theorem dX6_findEndings_64 : decode cX6_findEndings 64 = .ok (.if_icmp .ge 39, 3) := by decide +kernel
theorem dX6_findEndings_67 : decode cX6_findEndings 67 = .ok (.iload_n 3, 1) := by decide +kernel
theorem dX6_findEndings_68 : decode cX6_findEndings 68 = .ok (.iload 4, 2) := by decide +kernel
theorem dX6_findEndings_70 : decode cX6_findEndings 70 = .ok (.ishr, 1) := by decide +kernel
theorem dX6_findEndings_71 : decode cX6_findEndings 71 = .ok (.iconst 1, 1) := by decide +kernel
theorem dX6_findEndings_72 : decode cX6_findEndings 72 = .ok (.iand, 1) := by decide +kernel
theorem dX6_findEndings_73 : decode cX6_findEndings 73 = .ok (.iconst 1, 1) := by decide +kernel
theorem dX6_findEndings_74 : decode cX6_findEndings 74 = .ok (.if_icmp .ne 23, 3) := by decide +kernel
theorem dX6_findEndings_77 : decode cX6_findEndings 77 = .ok (.aload_n 0, 1) := by decide +kernel
theorem dX6_findEndings_78 : decode cX6_findEndings 78 = .ok (.getfield 46, 3) := by decide +kernel
theorem dX6_findEndings_81 : decode cX6_findEndings 81 = .ok (.iload_n 2, 1) := by decide +kernel
theorem dX6_findEndings_82 : decode cX6_findEndings 82 = .ok (.dup2, 1) := by decide +kernel
theorem dX6_findEndings_83 : decode cX6_findEndings 83 = .ok (.iaload, 1) := by decide +kernel
theorem dX6_findEndings_84 : decode cX6_findEndings 84 = .ok (.aload_n 0, 1) := by decide +kernel
theorem dX6_findEndings_85 : decode cX6_findEndings 85 = .ok (.getfield 46, 3) := by decide +kernel
theorem dX6_findEndings_88 : decode cX6_findEndings 88 = .ok (.iload_n 2, 1) := by decide +kernel
theorem dX6_findEndings_89 : decode cX6_findEndings 89 = .ok (.iconst 1, 1) := by decide +kernel
theorem dX6_findEndings_90 : decode cX6_findEndings 90 = .ok (.iload 4, 2) := by decide +kernel
theorem dX6_findEndings_92 : decode cX6_findEndings 92 = .ok (.ishl, 1) := by decide +kernel
theorem dX6_findEndings_93 : decode cX6_findEndings 93 = .ok (.ior, 1) := by decide +kernel
theorem dX6_findEndings_94 : decode cX6_findEndings 94 = .ok (.iaload, 1) := by decide +kernel
theorem dX6_findEndings_95 : decode cX6_findEndings 95 = .ok (.iadd, 1) := by decide +kernel
theorem dX6_findEndings_96 : decode cX6_findEndings 96 = .ok (.iastore, 1) := by decide +kernel
theorem dX6_findEndings_97 : decode cX6_findEndings 97 = .ok (.iinc 4 1, 3) := by decide +kernel
theorem dX6_findEndings_100 : decode cX6_findEndings 100 = .ok (.goto (-45), 3) := by decide +kernel
theorem dX6_findEndings_103 : decode cX6_findEndings 103 = .ok (.iinc 2 (-1), 3) := by decide +kernel
theorem dX6_findEndings_106 : decode cX6_findEndings 106 = .ok (.goto (-95), 3) := by decide +kernel
theorem dX6_findEndings_109 : decode cX6_findEndings 109 = .ok (.aload_n 0, 1) := by decide +kernel
theorem dX6_findEndings_110 : decode cX6_findEndings 110 = .ok (.iload_n 1, 1) := by decide +kernel
theorem dX6_findEndings_111 : decode cX6_findEndings 111 = .ok (.putfield 92, 3) := by decide +kernel
theorem dX6_findEndings_114 : decode cX6_findEndings 114 = .ok (.return_, 1) := by decide +kernel
theorem dX6_sceneOfOrder_0 : decode cX6_sceneOfOrder 0 = .ok (.lload_n 2, 1) := by decide +kernel
theorem dX6_sceneOfOrder_1 : decode cX6_sceneOfOrder 1 = .ok (.aload_n 0, 1) := by decide +kernel
theorem dX6_sceneOfOrder_2 : decode cX6_sceneOfOrder 2 = .ok (.getfield 40, 3) := by decide +kernel
theorem dX6_sceneOfOrder_5 : decode cX6_sceneOfOrder 5 = .ok (.iload_n 1, 1) := by decide +kernel
theorem dX6_sceneOfOrder_6 : decode cX6_sceneOfOrder 6 = .ok (.iaload, 1) := by decide +kernel
theorem dX6_sceneOfOrder_7 : decode cX6_sceneOfOrder 7 = .ok (.i2l, 1) := by decide +kernel
theorem dX6_sceneOfOrder_8 : decode cX6_sceneOfOrder 8 = .ok (.lcmp, 1) := by decide +kernel
theorem dX6_sceneOfOrder_9 : decode cX6_sceneOfOrder 9 = .ok (.ifCond .ge 17, 3) := by decide +kernel
theorem dX6_sceneOfOrder_12 : decode cX6_sceneOfOrder 12 = .ok (.iload 4, 2) := by decide +kernel
theorem dX6_sceneOfOrder_14 : decode cX6_sceneOfOrder 14 = .ok (.ifCond .lt 12, 3) := by decide +kernel
theorem dX6_sceneOfOrder_17 : decode cX6_sceneOfOrder 17 = .ok (.iload 4, 2) := by decide +kernel
theorem dX6_sceneOfOrder_19 : decode cX6_sceneOfOrder 19 = .ok (.iload_n 1, 1) := by decide +kernel
theorem dX6_sceneOfOrder_20 : decode cX6_sceneOfOrder 20 = .ok (.invokestatic 76, 3) := by decide +kernel
theorem dX6_sceneOfOrder_23 : decode cX6_sceneOfOrder 23 = .ok (.if_icmp .lt 5, 3) := by decide +kernel
theorem dX6_sceneOfOrder_26 : decode cX6_sceneOfOrder 26 = .ok (.iconst (-1), 1) := by decide +kernel
theorem dX6_sceneOfOrder_27 : decode cX6_sceneOfOrder 27 = .ok (.ireturn, 1) := by decide +kernel
theorem dX6_sceneOfOrder_28 : decode cX6_sceneOfOrder 28 = .ok (.aload_n 0, 1) := by decide +kernel
theorem dX6_sceneOfOrder_29 : decode cX6_sceneOfOrder 29 = .ok (.iload_n 1, 1) := by decide +kernel
theorem dX6_sceneOfOrder_30 : decode cX6_sceneOfOrder 30 = .ok (.invokevirtual 105, 3) := by decide +kernel
theorem dX6_sceneOfOrder_33 : decode cX6_sceneOfOrder 33 = .ok (.lload_n 2, 1) := by decide +kernel
theorem dX6_sceneOfOrder_34 : decode cX6_sceneOfOrder 34 = .ok (.lstore 5, 2) := by decide +kernel
theorem dX6_sceneOfOrder_36 : decode cX6_sceneOfOrder 36 = .ok (.iconst 0, 1) := by decide +kernel
theorem dX6_sceneOfOrder_37 : decode cX6_sceneOfOrder 37 = .ok (.istore 7, 2) := by decide +kernel
theorem dX6_sceneOfOrder_39 : decode cX6_sceneOfOrder 39 = .ok (.iconst (-1), 1) := by decide +kernel
theorem dX6_sceneOfOrder_40 : decode cX6_sceneOfOrder 40 = .ok (.istore 8, 2) := by decide +kernel
theorem dX6_sceneOfOrder_42 : decode cX6_sceneOfOrder 42 = .ok (.iconst 0, 1) := by decide +kernel
theorem dX6_sceneOfOrder_43 : decode cX6_sceneOfOrder 43 = .ok (.istore 9, 2) := by decide +kernel
theorem dX6_sceneOfOrder_45 : decode cX6_sceneOfOrder 45 = .ok (.iload 9, 2) := by decide +kernel
theorem dX6_sceneOfOrder_47 : decode cX6_sceneOfOrder 47 = .ok (.iload 4, 2) := by decide +kernel
theorem dX6_sceneOfOrder_49 : decode cX6_sceneOfOrder 49 = .ok (.if_icmp .gt 120, 3) := by decide +kernel
theorem dX6_sceneOfOrder_52 : decode cX6_sceneOfOrder 52 = .ok (.aload_n 0, 1) := by decide +kernel
theorem dX6_sceneOfOrder_53 : decode cX6_sceneOfOrder 53 = .ok (.getfield 37, 3) := by decide +kernel
theorem dX6_sceneOfOrder_56 : decode cX6_sceneOfOrder 56 = .ok (.iload 7, 2) := by decide +kernel
theorem dX6_sceneOfOrder_58 : decode cX6_sceneOfOrder 58 = .ok (.iaload, 1) := by decide +kernel
theorem dX6_sceneOfOrder_59 : decode cX6_sceneOfOrder 59 = .ok (.iload_n 1, 1) := by decide +kernel
theorem dX6_sceneOfOrder_60 : decode cX6_sceneOfOrder 60 = .ok (.iand, 1) := by decide +kernel
theorem dX6_sceneOfOrder_61 : decode cX6_sceneOfOrder 61 = .ok (.istore 10, 2) := by decide +kernel
theorem dX6_sceneOfOrder_63 : decode cX6_sceneOfOrder 63 = .ok (.iconst (-1), 1) := by decide +kernel
theorem dX6_sceneOfOrder_64 : decode cX6_sceneOfOrder 64 = .ok (.istore 8, 2) := by decide +kernel
theorem dX6_sceneOfOrder_66 : decode cX6_sceneOfOrder 66 = .ok (.iconst 0, 1) := by decide +kernel
end
section
theorem dX6_sceneOfOrder_67 : decode cX6_sceneOfOrder 67 = .ok (.istore 11, 2) := by decide +kernel
theorem dX6_sceneOfOrder_69 : decode cX6_sceneOfOrder 69 = .ok (.iload 11, 2) := by decide +kernel
theorem dX6_sceneOfOrder_71 : decode cX6_sceneOfOrder 71 = .ok (.aload_n 0, 1) := by decide +kernel
theorem dX6_sceneOfOrder_72 : decode cX6_sceneOfOrder 72 = .ok (.getfield 49, 3) := by decide +kernel
theorem dX6_sceneOfOrder_75 : decode cX6_sceneOfOrder 75 = .ok (.getfield 57, 3) := by decide +kernel
theorem dX6_sceneOfOrder_78 : decode cX6_sceneOfOrder 78 = .ok (.if_icmp .ge 68, 3) := by decide +kernel
theorem dX6_sceneOfOrder_81 : decode cX6_sceneOfOrder 81 = .ok (.iload 8, 2) := by decide +kernel
theorem dX6_sceneOfOrder_83 : decode cX6_sceneOfOrder 83 = .ok (.iconst (-1), 1) := by decide +kernel
theorem dX6_sceneOfOrder_84 : decode cX6_sceneOfOrder 84 = .ok (.if_icmp .ne 62, 3) := by decide +kernel
theorem dX6_sceneOfOrder_87 : decode cX6_sceneOfOrder 87 = .ok (.iload 10, 2) := by decide +kernel
theorem dX6_sceneOfOrder_89 : decode cX6_sceneOfOrder 89 = .ok (.iload 11, 2) := by decide +kernel
theorem dX6_sceneOfOrder_91 : decode cX6_sceneOfOrder 91 = .ok (.ishr, 1) := by decide +kernel
theorem dX6_sceneOfOrder_92 : decode cX6_sceneOfOrder 92 = .ok (.iconst 1, 1) := by decide +kernel
theorem dX6_sceneOfOrder_93 : decode cX6_sceneOfOrder 93 = .ok (.iand, 1) := by decide +kernel
theorem dX6_sceneOfOrder_94 : decode cX6_sceneOfOrder 94 = .ok (.iconst 1, 1) := by decide +kernel
theorem dX6_sceneOfOrder_95 : decode cX6_sceneOfOrder 95 = .ok (.if_icmp .ne 18, 3) := by decide +kernel
theorem dX6_sceneOfOrder_98 : decode cX6_sceneOfOrder 98 = .ok (.aload_n 0, 1) := by decide +kernel
theorem dX6_sceneOfOrder_99 : decode cX6_sceneOfOrder 99 = .ok (.getfield 46, 3) := by decide +kernel
theorem dX6_sceneOfOrder_102 : decode cX6_sceneOfOrder 102 = .ok (.iload 7, 2) := by decide +kernel
theorem dX6_sceneOfOrder_104 : decode cX6_sceneOfOrder 104 = .ok (.iconst 1, 1) := by decide +kernel
theorem dX6_sceneOfOrder_105 : decode cX6_sceneOfOrder 105 = .ok (.iload 11, 2) := by decide +kernel
theorem dX6_sceneOfOrder_107 : decode cX6_sceneOfOrder 107 = .ok (.ishl, 1) := by decide +kernel
theorem dX6_sceneOfOrder_108 : decode cX6_sceneOfOrder 108 = .ok (.ior, 1) := by decide +kernel
theorem dX6_sceneOfOrder_109 : decode cX6_sceneOfOrder 109 = .ok (.iaload, 1) := by decide +kernel
theorem dX6_sceneOfOrder_110 : decode cX6_sceneOfOrder 110 = .ok (.goto 4, 3) := by decide +kernel
theorem dX6_sceneOfOrder_113 : decode cX6_sceneOfOrder 113 = .ok (.iconst 0, 1) := by decide +kernel
theorem dX6_sceneOfOrder_114 : decode cX6_sceneOfOrder 114 = .ok (.istore 12, 2) := by decide +kernel
theorem dX6_sceneOfOrder_116 : decode cX6_sceneOfOrder 116 = .ok (.lload 5, 2) := by decide +kernel
theorem dX6_sceneOfOrder_118 : decode cX6_sceneOfOrder 118 = .ok (.iload 12, 2) := by decide +kernel
theorem dX6_sceneOfOrder_120 : decode cX6_sceneOfOrder 120 = .ok (.i2l, 1) := by decide +kernel
theorem dX6_sceneOfOrder_121 : decode cX6_sceneOfOrder 121 = .ok (.lcmp, 1) := by decide +kernel
theorem dX6_sceneOfOrder_122 : decode cX6_sceneOfOrder 122 = .ok (.ifCond .ge 10, 3) := by decide +kernel
theorem dX6_sceneOfOrder_125 : decode cX6_sceneOfOrder 125 = .ok (.iload 11, 2) := by decide +kernel
theorem dX6_sceneOfOrder_127 : decode cX6_sceneOfOrder 127 = .ok (.istore 8, 2) := by decide +kernel
theorem dX6_sceneOfOrder_129 : decode cX6_sceneOfOrder 129 = .ok (.goto 11, 3) := by decide +kernel
theorem dX6_sceneOfOrder_132 : decode cX6_sceneOfOrder 132 = .ok (.lload 5, 2) := by decide +kernel
theorem dX6_sceneOfOrder_134 : decode cX6_sceneOfOrder 134 = .ok (.iload 12, 2) := by decide +kernel
theorem dX6_sceneOfOrder_136 : decode cX6_sceneOfOrder 136 = .ok (.i2l, 1) := by decide +kernel
theorem dX6_sceneOfOrder_137 : decode cX6_sceneOfOrder 137 = .ok (.lsub, 1) := by decide +kernel
theorem dX6_sceneOfOrder_138 : decode cX6_sceneOfOrder 138 = .ok (.lstore 5, 2) := by decide +kernel
theorem dX6_sceneOfOrder_140 : decode cX6_sceneOfOrder 140 = .ok (.iinc 11 1, 3) := by decide +kernel
theorem dX6_sceneOfOrder_143 : decode cX6_sceneOfOrder 143 = .ok (.goto (-74), 3) := by decide +kernel
theorem dX6_sceneOfOrder_146 : decode cX6_sceneOfOrder 146 = .ok (.iload 8, 2) := by decide +kernel
theorem dX6_sceneOfOrder_148 : decode cX6_sceneOfOrder 148 = .ok (.iconst (-1), 1) := by decide +kernel
theorem dX6_sceneOfOrder_149 : decode cX6_sceneOfOrder 149 = .ok (.if_icmp .ne 5, 3) := by decide +kernel
theorem dX6_sceneOfOrder_152 : decode cX6_sceneOfOrder 152 = .ok (.iconst (-1), 1) := by decide +kernel
theorem dX6_sceneOfOrder_153 : decode cX6_sceneOfOrder 153 = .ok (.ireturn, 1) := by decide +kernel
theorem dX6_sceneOfOrder_154 : decode cX6_sceneOfOrder 154 = .ok (.iload 7, 2) := by decide +kernel
theorem dX6_sceneOfOrder_156 : decode cX6_sceneOfOrder 156 = .ok (.iconst 1, 1) := by decide +kernel
theorem dX6_sceneOfOrder_157 : decode cX6_sceneOfOrder 157 = .ok (.iload 8, 2) := by decide +kernel
theorem dX6_sceneOfOrder_159 : decode cX6_sceneOfOrder 159 = .ok (.ishl, 1) := by decide +kernel
theorem dX6_sceneOfOrder_160 : decode cX6_sceneOfOrder 160 = .ok (.ior, 1) := by decide +kernel
theorem dX6_sceneOfOrder_161 : decode cX6_sceneOfOrder 161 = .ok (.istore 7, 2) := by decide +kernel
theorem dX6_sceneOfOrder_163 : decode cX6_sceneOfOrder 163 = .ok (.iinc 9 1, 3) := by decide +kernel
theorem dX6_sceneOfOrder_166 : decode cX6_sceneOfOrder 166 = .ok (.goto (-121), 3) := by decide +kernel
theorem dX6_sceneOfOrder_169 : decode cX6_sceneOfOrder 169 = .ok (.iload 8, 2) := by decide +kernel
theorem dX6_sceneOfOrder_171 : decode cX6_sceneOfOrder 171 = .ok (.ireturn, 1) := by decide +kernel
theorem dX6_isPlace_0 : decode cX6_isPlace 0 = .ok (.aload_n 0, 1) := by decide +kernel
theorem dX6_isPlace_1 : decode cX6_isPlace 1 = .ok (.getfield 40, 3) := by decide +kernel
theorem dX6_isPlace_4 : decode cX6_isPlace 4 = .ok (.iload_n 1, 1) := by decide +kernel
theorem dX6_isPlace_5 : decode cX6_isPlace 5 = .ok (.iaload, 1) := by decide +kernel
theorem dX6_isPlace_6 : decode cX6_isPlace 6 = .ok (.ifCond .le 34, 3) := by decide +kernel
theorem dX6_isPlace_9 : decode cX6_isPlace 9 = .ok (.aload_n 0, 1) := by decide +kernel
theorem dX6_isPlace_10 : decode cX6_isPlace 10 = .ok (.getfield 37, 3) := by decide +kernel
theorem dX6_isPlace_13 : decode cX6_isPlace 13 = .ok (.iload_n 1, 1) := by decide +kernel
theorem dX6_isPlace_14 : decode cX6_isPlace 14 = .ok (.iaload, 1) := by decide +kernel
theorem dX6_isPlace_15 : decode cX6_isPlace 15 = .ok (.iload_n 2, 1) := by decide +kernel
theorem dX6_isPlace_16 : decode cX6_isPlace 16 = .ok (.ishr, 1) := by decide +kernel
theorem dX6_isPlace_17 : decode cX6_isPlace 17 = .ok (.iconst 1, 1) := by decide +kernel
theorem dX6_isPlace_18 : decode cX6_isPlace 18 = .ok (.iand, 1) := by decide +kernel
theorem dX6_isPlace_19 : decode cX6_isPlace 19 = .ok (.iconst 1, 1) := by decide +kernel
theorem dX6_isPlace_20 : decode cX6_isPlace 20 = .ok (.if_icmp .ne 20, 3) := by decide +kernel
theorem dX6_isPlace_23 : decode cX6_isPlace 23 = .ok (.aload_n 0, 1) := by decide +kernel
theorem dX6_isPlace_24 : decode cX6_isPlace 24 = .ok (.getfield 46, 3) := by decide +kernel
theorem dX6_isPlace_27 : decode cX6_isPlace 27 = .ok (.iload_n 1, 1) := by decide +kernel
theorem dX6_isPlace_28 : decode cX6_isPlace 28 = .ok (.iconst 1, 1) := by decide +kernel
theorem dX6_isPlace_29 : decode cX6_isPlace 29 = .ok (.iload_n 2, 1) := by decide +kernel
theorem dX6_isPlace_30 : decode cX6_isPlace 30 = .ok (.ishl, 1) := by decide +kernel
theorem dX6_isPlace_31 : decode cX6_isPlace 31 = .ok (.ior, 1) := by decide +kernel
theorem dX6_isPlace_32 : decode cX6_isPlace 32 = .ok (.iaload, 1) := by decide +kernel
theorem dX6_isPlace_33 : decode cX6_isPlace 33 = .ok (.ifCond .le 7, 3) := by decide +kernel
theorem dX6_isPlace_36 : decode cX6_isPlace 36 = .ok (.iconst 1, 1) := by decide +kernel
theorem dX6_isPlace_37 : decode cX6_isPlace 37 = .ok (.goto 4, 3) := by decide +kernel
theorem dX6_isPlace_40 : decode cX6_isPlace 40 = .ok (.iconst 0, 1) := by decide +kernel
theorem dX6_isPlace_41 : decode cX6_isPlace 41 = .ok (.ireturn, 1) := by decide +kernel
theorem dX6_leastPlace_0 : decode cX6_leastPlace 0 = .ok (.aload_n 0, 1) := by decide +kernel
theorem dX6_leastPlace_1 : decode cX6_leastPlace 1 = .ok (.aload_n 0, 1) := by decide +kernel
theorem dX6_leastPlace_2 : decode cX6_leastPlace 2 = .ok (.getfield 63, 3) := by decide +kernel
theorem dX6_leastPlace_5 : decode cX6_leastPlace 5 = .ok (.iconst 1, 1) := by decide +kernel
theorem dX6_leastPlace_6 : decode cX6_leastPlace 6 = .ok (.isub, 1) := by decide +kernel
theorem dX6_leastPlace_7 : decode cX6_leastPlace 7 = .ok (.invokevirtual 105, 3) := by decide +kernel
theorem dX6_leastPlace_10 : decode cX6_leastPlace 10 = .ok (.iconst (-1), 1) := by decide +kernel
theorem dX6_leastPlace_11 : decode cX6_leastPlace 11 = .ok (.istore_n 2, 1) := by decide +kernel
theorem dX6_leastPlace_12 : decode cX6_leastPlace 12 = .ok (.iconst 0, 1) := by decide +kernel
theorem dX6_leastPlace_13 : decode cX6_leastPlace 13 = .ok (.istore_n 3, 1) := by decide +kernel
theorem dX6_leastPlace_14 : decode cX6_leastPlace 14 = .ok (.iload_n 3, 1) := by decide +kernel
theorem dX6_leastPlace_15 : decode cX6_leastPlace 15 = .ok (.aload_n 0, 1) := by decide +kernel
theorem dX6_leastPlace_16 : decode cX6_leastPlace 16 = .ok (.getfield 63, 3) := by decide +kernel
theorem dX6_leastPlace_19 : decode cX6_leastPlace 19 = .ok (.if_icmp .ge 38, 3) := by decide +kernel
theorem dX6_leastPlace_22 : decode cX6_leastPlace 22 = .ok (.iload_n 3, 1) := by decide +kernel
theorem dX6_leastPlace_23 : decode cX6_leastPlace 23 = .ok (.invokestatic 76, 3) := by decide +kernel
theorem dX6_leastPlace_26 : decode cX6_leastPlace 26 = .ok (.istore 4, 2) := by decide +kernel
theorem dX6_leastPlace_28 : decode cX6_leastPlace 28 = .ok (.aload_n 0, 1) := by decide +kernel
theorem dX6_leastPlace_29 : decode cX6_leastPlace 29 = .ok (.iload_n 3, 1) := by decide +kernel
theorem dX6_leastPlace_30 : decode cX6_leastPlace 30 = .ok (.iload_n 1, 1) := by decide +kernel
theorem dX6_leastPlace_31 : decode cX6_leastPlace 31 = .ok (.invokevirtual 108, 3) := by decide +kernel
theorem dX6_leastPlace_34 : decode cX6_leastPlace 34 = .ok (.ifCond .eq 17, 3) := by decide +kernel
theorem dX6_leastPlace_37 : decode cX6_leastPlace 37 = .ok (.iload_n 2, 1) := by decide +kernel
theorem dX6_leastPlace_38 : decode cX6_leastPlace 38 = .ok (.iconst (-1), 1) := by decide +kernel
theorem dX6_leastPlace_39 : decode cX6_leastPlace 39 = .ok (.if_icmp .eq 9, 3) := by decide +kernel
theorem dX6_leastPlace_42 : decode cX6_leastPlace 42 = .ok (.iload 4, 2) := by decide +kernel
theorem dX6_leastPlace_44 : decode cX6_leastPlace 44 = .ok (.iload_n 2, 1) := by decide +kernel
theorem dX6_leastPlace_45 : decode cX6_leastPlace 45 = .ok (.if_icmp .ge 6, 3) := by decide +kernel
theorem dX6_leastPlace_48 : decode cX6_leastPlace 48 = .ok (.iload 4, 2) := by decide +kernel
theorem dX6_leastPlace_50 : decode cX6_leastPlace 50 = .ok (.istore_n 2, 1) := by decide +kernel
theorem dX6_leastPlace_51 : decode cX6_leastPlace 51 = .ok (.iinc 3 1, 3) := by decide +kernel
theorem dX6_leastPlace_54 : decode cX6_leastPlace 54 = .ok (.goto (-40), 3) := by decide +kernel
theorem dX6_leastPlace_57 : decode cX6_leastPlace 57 = .ok (.iload_n 2, 1) := by decide +kernel
theorem dX6_leastPlace_58 : decode cX6_leastPlace 58 = .ok (.ireturn, 1) := by decide +kernel
theorem dX6_greatestPlace_0 : decode cX6_greatestPlace 0 = .ok (.aload_n 0, 1) := by decide +kernel
theorem dX6_greatestPlace_1 : decode cX6_greatestPlace 1 = .ok (.aload_n 0, 1) := by decide +kernel
theorem dX6_greatestPlace_2 : decode cX6_greatestPlace 2 = .ok (.getfield 63, 3) := by decide +kernel
theorem dX6_greatestPlace_5 : decode cX6_greatestPlace 5 = .ok (.iconst 1, 1) := by decide +kernel
theorem dX6_greatestPlace_6 : decode cX6_greatestPlace 6 = .ok (.isub, 1) := by decide +kernel
theorem dX6_greatestPlace_7 : decode cX6_greatestPlace 7 = .ok (.invokevirtual 105, 3) := by decide +kernel
theorem dX6_greatestPlace_10 : decode cX6_greatestPlace 10 = .ok (.iconst (-1), 1) := by decide +kernel
theorem dX6_greatestPlace_11 : decode cX6_greatestPlace 11 = .ok (.istore_n 2, 1) := by decide +kernel
theorem dX6_greatestPlace_12 : decode cX6_greatestPlace 12 = .ok (.iconst 0, 1) := by decide +kernel
theorem dX6_greatestPlace_13 : decode cX6_greatestPlace 13 = .ok (.istore_n 3, 1) := by decide +kernel
theorem dX6_greatestPlace_14 : decode cX6_greatestPlace 14 = .ok (.iload_n 3, 1) := by decide +kernel
theorem dX6_greatestPlace_15 : decode cX6_greatestPlace 15 = .ok (.aload_n 0, 1) := by decide +kernel
theorem dX6_greatestPlace_16 : decode cX6_greatestPlace 16 = .ok (.getfield 63, 3) := by decide +kernel
theorem dX6_greatestPlace_19 : decode cX6_greatestPlace 19 = .ok (.if_icmp .ge 27, 3) := by decide +kernel
theorem dX6_greatestPlace_22 : decode cX6_greatestPlace 22 = .ok (.aload_n 0, 1) := by decide +kernel
theorem dX6_greatestPlace_23 : decode cX6_greatestPlace 23 = .ok (.iload_n 3, 1) := by decide +kernel
theorem dX6_greatestPlace_24 : decode cX6_greatestPlace 24 = .ok (.iload_n 1, 1) := by decide +kernel
theorem dX6_greatestPlace_25 : decode cX6_greatestPlace 25 = .ok (.invokevirtual 108, 3) := by decide +kernel
theorem dX6_greatestPlace_28 : decode cX6_greatestPlace 28 = .ok (.ifCond .eq 12, 3) := by decide +kernel
theorem dX6_greatestPlace_31 : decode cX6_greatestPlace 31 = .ok (.iload_n 2, 1) := by decide +kernel
theorem dX6_greatestPlace_32 : decode cX6_greatestPlace 32 = .ok (.iload_n 3, 1) := by decide +kernel
theorem dX6_greatestPlace_33 : decode cX6_greatestPlace 33 = .ok (.invokestatic 76, 3) := by decide +kernel
theorem dX6_greatestPlace_36 : decode cX6_greatestPlace 36 = .ok (.invokestatic 82, 3) := by decide +kernel
theorem dX6_greatestPlace_39 : decode cX6_greatestPlace 39 = .ok (.istore_n 2, 1) := by decide +kernel
theorem dX6_greatestPlace_40 : decode cX6_greatestPlace 40 = .ok (.iinc 3 1, 3) := by decide +kernel
theorem dX6_greatestPlace_43 : decode cX6_greatestPlace 43 = .ok (.goto (-29), 3) := by decide +kernel
theorem dX6_greatestPlace_46 : decode cX6_greatestPlace 46 = .ok (.iload_n 2, 1) := by decide +kernel
theorem dX6_greatestPlace_47 : decode cX6_greatestPlace 47 = .ok (.ireturn, 1) := by decide +kernel
theorem dX6_takenAlong_0 : decode cX6_takenAlong 0 = .ok (.iconst 0, 1) := by decide +kernel
theorem dX6_takenAlong_1 : decode cX6_takenAlong 1 = .ok (.istore_n 2, 1) := by decide +kernel
theorem dX6_takenAlong_2 : decode cX6_takenAlong 2 = .ok (.iconst 0, 1) := by decide +kernel
theorem dX6_takenAlong_3 : decode cX6_takenAlong 3 = .ok (.istore_n 3, 1) := by decide +kernel
theorem dX6_takenAlong_4 : decode cX6_takenAlong 4 = .ok (.iload_n 3, 1) := by decide +kernel
theorem dX6_takenAlong_5 : decode cX6_takenAlong 5 = .ok (.aload_n 0, 1) := by decide +kernel
theorem dX6_takenAlong_6 : decode cX6_takenAlong 6 = .ok (.getfield 63, 3) := by decide +kernel
theorem dX6_takenAlong_9 : decode cX6_takenAlong 9 = .ok (.if_icmp .ge 30, 3) := by decide +kernel
theorem dX6_takenAlong_12 : decode cX6_takenAlong 12 = .ok (.aload_n 0, 1) := by decide +kernel
theorem dX6_takenAlong_13 : decode cX6_takenAlong 13 = .ok (.getfield 40, 3) := by decide +kernel
theorem dX6_takenAlong_16 : decode cX6_takenAlong 16 = .ok (.iload_n 3, 1) := by decide +kernel
theorem dX6_takenAlong_17 : decode cX6_takenAlong 17 = .ok (.iaload, 1) := by decide +kernel
theorem dX6_takenAlong_18 : decode cX6_takenAlong 18 = .ok (.ifCond .le 15, 3) := by decide +kernel
theorem dX6_takenAlong_21 : decode cX6_takenAlong 21 = .ok (.iload_n 3, 1) := by decide +kernel
theorem dX6_takenAlong_22 : decode cX6_takenAlong 22 = .ok (.iload_n 1, 1) := by decide +kernel
theorem dX6_takenAlong_23 : decode cX6_takenAlong 23 = .ok (.ishr, 1) := by decide +kernel
theorem dX6_takenAlong_24 : decode cX6_takenAlong 24 = .ok (.iconst 1, 1) := by decide +kernel
theorem dX6_takenAlong_25 : decode cX6_takenAlong 25 = .ok (.iand, 1) := by decide +kernel
theorem dX6_takenAlong_26 : decode cX6_takenAlong 26 = .ok (.ifCond .ne 7, 3) := by decide +kernel
theorem dX6_takenAlong_29 : decode cX6_takenAlong 29 = .ok (.iload_n 2, 1) := by decide +kernel
theorem dX6_takenAlong_30 : decode cX6_takenAlong 30 = .ok (.iload_n 3, 1) := by decide +kernel
theorem dX6_takenAlong_31 : decode cX6_takenAlong 31 = .ok (.ior, 1) := by decide +kernel
theorem dX6_takenAlong_32 : decode cX6_takenAlong 32 = .ok (.istore_n 2, 1) := by decide +kernel
theorem dX6_takenAlong_33 : decode cX6_takenAlong 33 = .ok (.iinc 3 1, 3) := by decide +kernel
theorem dX6_takenAlong_36 : decode cX6_takenAlong 36 = .ok (.goto (-32), 3) := by decide +kernel
theorem dX6_takenAlong_39 : decode cX6_takenAlong 39 = .ok (.aload_n 0, 1) := by decide +kernel
theorem dX6_takenAlong_40 : decode cX6_takenAlong 40 = .ok (.getfield 49, 3) := by decide +kernel
theorem dX6_takenAlong_43 : decode cX6_takenAlong 43 = .ok (.invokevirtual 112, 3) := by decide +kernel
theorem dX6_takenAlong_46 : decode cX6_takenAlong 46 = .ok (.iload_n 2, 1) := by decide +kernel
theorem dX6_takenAlong_47 : decode cX6_takenAlong 47 = .ok (.iconst (-1), 1) := by decide +kernel
theorem dX6_takenAlong_48 : decode cX6_takenAlong 48 = .ok (.ixor, 1) := by decide +kernel
theorem dX6_takenAlong_49 : decode cX6_takenAlong 49 = .ok (.iand, 1) := by decide +kernel
theorem dX6_takenAlong_50 : decode cX6_takenAlong 50 = .ok (.ireturn, 1) := by decide +kernel
theorem dX6_shortestTo_0 : decode cX6_shortestTo 0 = .ok (.iconst (-1), 1) := by decide +kernel
theorem dX6_shortestTo_1 : decode cX6_shortestTo 1 = .ok (.istore_n 2, 1) := by decide +kernel
theorem dX6_shortestTo_2 : decode cX6_shortestTo 2 = .ok (.iconst 0, 1) := by decide +kernel
theorem dX6_shortestTo_3 : decode cX6_shortestTo 3 = .ok (.istore_n 3, 1) := by decide +kernel
theorem dX6_shortestTo_4 : decode cX6_shortestTo 4 = .ok (.iload_n 3, 1) := by decide +kernel
theorem dX6_shortestTo_5 : decode cX6_shortestTo 5 = .ok (.aload_n 0, 1) := by decide +kernel
theorem dX6_shortestTo_6 : decode cX6_shortestTo 6 = .ok (.getfield 63, 3) := by decide +kernel
theorem dX6_shortestTo_9 : decode cX6_shortestTo 9 = .ok (.if_icmp .ge 49, 3) := by decide +kernel
theorem dX6_shortestTo_12 : decode cX6_shortestTo 12 = .ok (.aload_n 0, 1) := by decide +kernel
theorem dX6_shortestTo_13 : decode cX6_shortestTo 13 = .ok (.getfield 40, 3) := by decide +kernel
theorem dX6_shortestTo_16 : decode cX6_shortestTo 16 = .ok (.iload_n 3, 1) := by decide +kernel
theorem dX6_shortestTo_17 : decode cX6_shortestTo 17 = .ok (.iaload, 1) := by decide +kernel
theorem dX6_shortestTo_18 : decode cX6_shortestTo 18 = .ok (.ifCond .le 34, 3) := by decide +kernel
theorem dX6_shortestTo_21 : decode cX6_shortestTo 21 = .ok (.iload_n 3, 1) := by decide +kernel
theorem dX6_shortestTo_22 : decode cX6_shortestTo 22 = .ok (.iload_n 1, 1) := by decide +kernel
theorem dX6_shortestTo_23 : decode cX6_shortestTo 23 = .ok (.ishr, 1) := by decide +kernel
theorem dX6_shortestTo_24 : decode cX6_shortestTo 24 = .ok (.iconst 1, 1) := by decide +kernel
theorem dX6_shortestTo_25 : decode cX6_shortestTo 25 = .ok (.iand, 1) := by decide +kernel
theorem dX6_shortestTo_26 : decode cX6_shortestTo 26 = .ok (.iconst 1, 1) := by decide +kernel
theorem dX6_shortestTo_27 : decode cX6_shortestTo 27 = .ok (.if_icmp .ne 25, 3) := by decide +kernel
theorem dX6_shortestTo_30 : decode cX6_shortestTo 30 = .ok (.iload_n 2, 1) := by decide +kernel
theorem dX6_shortestTo_31 : decode cX6_shortestTo 31 = .ok (.iconst (-1), 1) := by decide +kernel
theorem dX6_shortestTo_32 : decode cX6_shortestTo 32 = .ok (.if_icmp .eq 18, 3) := by decide +kernel
theorem dX6_shortestTo_35 : decode cX6_shortestTo 35 = .ok (.aload_n 0, 1) := by decide +kernel
theorem dX6_shortestTo_36 : decode cX6_shortestTo 36 = .ok (.getfield 15, 3) := by decide +kernel
theorem dX6_shortestTo_39 : decode cX6_shortestTo 39 = .ok (.iload_n 3, 1) := by decide +kernel
theorem dX6_shortestTo_40 : decode cX6_shortestTo 40 = .ok (.iaload, 1) := by decide +kernel
theorem dX6_shortestTo_41 : decode cX6_shortestTo 41 = .ok (.aload_n 0, 1) := by decide +kernel
theorem dX6_shortestTo_42 : decode cX6_shortestTo 42 = .ok (.getfield 15, 3) := by decide +kernel
theorem dX6_shortestTo_45 : decode cX6_shortestTo 45 = .ok (.iload_n 2, 1) := by decide +kernel
theorem dX6_shortestTo_46 : decode cX6_shortestTo 46 = .ok (.iaload, 1) := by decide +kernel
theorem dX6_shortestTo_47 : decode cX6_shortestTo 47 = .ok (.if_icmp .ge 5, 3) := by decide +kernel
theorem dX6_shortestTo_50 : decode cX6_shortestTo 50 = .ok (.iload_n 3, 1) := by decide +kernel
theorem dX6_shortestTo_51 : decode cX6_shortestTo 51 = .ok (.istore_n 2, 1) := by decide +kernel
theorem dX6_shortestTo_52 : decode cX6_shortestTo 52 = .ok (.iinc 3 1, 3) := by decide +kernel
theorem dX6_shortestTo_55 : decode cX6_shortestTo 55 = .ok (.goto (-51), 3) := by decide +kernel
theorem dX6_shortestTo_58 : decode cX6_shortestTo 58 = .ok (.iload_n 2, 1) := by decide +kernel
theorem dX6_shortestTo_59 : decode cX6_shortestTo 59 = .ok (.ireturn, 1) := by decide +kernel
theorem dX7_init_0 : decode cX7_init 0 = .ok (.aload_n 0, 1) := by decide +kernel
theorem dX7_init_1 : decode cX7_init 1 = .ok (.invokespecial 3, 3) := by decide +kernel
theorem dX7_init_4 : decode cX7_init 4 = .ok (.aload_n 0, 1) := by decide +kernel
theorem dX7_init_5 : decode cX7_init 5 = .ok (.bipush 10, 2) := by decide +kernel
theorem dX7_init_7 : decode cX7_init 7 = .ok (.bipush 9, 2) := by decide +kernel
theorem dX7_init_9 : decode cX7_init 9 = .ok (.multianewarray 11 2, 4) := by decide +kernel
theorem dX7_init_13 : decode cX7_init 13 = .ok (.putfield 13, 3) := by decide +kernel
theorem dX7_init_16 : decode cX7_init 16 = .ok (.aload_n 0, 1) := by decide +kernel
theorem dX7_init_17 : decode cX7_init 17 = .ok (.iconst 0, 1) := by decide +kernel
theorem dX7_init_18 : decode cX7_init 18 = .ok (.putfield 16, 3) := by decide +kernel
theorem dX7_init_21 : decode cX7_init 21 = .ok (.return_, 1) := by decide +kernel
theorem dX7_isList_0 : decode cX7_isList 0 = .ok (.iload_n 0, 1) := by decide +kernel
theorem dX7_isList_1 : decode cX7_isList 1 = .ok (.iconst 2, 1) := by decide +kernel
theorem dX7_isList_2 : decode cX7_isList 2 = .ok (.if_icmp .lt 13, 3) := by decide +kernel
theorem dX7_isList_5 : decode cX7_isList 5 = .ok (.iload_n 0, 1) := by decide +kernel
theorem dX7_isList_6 : decode cX7_isList 6 = .ok (.bipush 7, 2) := by decide +kernel
theorem dX7_isList_8 : decode cX7_isList 8 = .ok (.if_icmp .gt 7, 3) := by decide +kernel
theorem dX7_isList_11 : decode cX7_isList 11 = .ok (.iconst 1, 1) := by decide +kernel
theorem dX7_isList_12 : decode cX7_isList 12 = .ok (.goto 4, 3) := by decide +kernel
theorem dX7_isList_15 : decode cX7_isList 15 = .ok (.iconst 0, 1) := by decide +kernel
theorem dX7_isList_16 : decode cX7_isList 16 = .ok (.ireturn, 1) := by decide +kernel
theorem dX7_cell_0 : decode cX7_cell 0 = .ok (.iload_n 1, 1) := by decide +kernel
theorem dX7_cell_1 : decode cX7_cell 1 = .ok (.ifCond .lt 30, 3) := by decide +kernel
theorem dX7_cell_4 : decode cX7_cell 4 = .ok (.iload_n 1, 1) := by decide +kernel
theorem dX7_cell_5 : decode cX7_cell 5 = .ok (.bipush 10, 2) := by decide +kernel
theorem dX7_cell_7 : decode cX7_cell 7 = .ok (.if_icmp .ge 24, 3) := by decide +kernel
theorem dX7_cell_10 : decode cX7_cell 10 = .ok (.iload_n 2, 1) := by decide +kernel
theorem dX7_cell_11 : decode cX7_cell 11 = .ok (.ifCond .lt 20, 3) := by decide +kernel
theorem dX7_cell_14 : decode cX7_cell 14 = .ok (.iload_n 2, 1) := by decide +kernel
theorem dX7_cell_15 : decode cX7_cell 15 = .ok (.bipush 9, 2) := by decide +kernel
theorem dX7_cell_17 : decode cX7_cell 17 = .ok (.if_icmp .ge 14, 3) := by decide +kernel
theorem dX7_cell_20 : decode cX7_cell 20 = .ok (.aload_n 0, 1) := by decide +kernel
theorem dX7_cell_21 : decode cX7_cell 21 = .ok (.getfield 13, 3) := by decide +kernel
theorem dX7_cell_24 : decode cX7_cell 24 = .ok (.iload_n 1, 1) := by decide +kernel
theorem dX7_cell_25 : decode cX7_cell 25 = .ok (.aaload, 1) := by decide +kernel
theorem dX7_cell_26 : decode cX7_cell 26 = .ok (.iload_n 2, 1) := by decide +kernel
theorem dX7_cell_27 : decode cX7_cell 27 = .ok (.iaload, 1) := by decide +kernel
theorem dX7_cell_28 : decode cX7_cell 28 = .ok (.goto 4, 3) := by decide +kernel
theorem dX7_cell_31 : decode cX7_cell 31 = .ok (.iconst 0, 1) := by decide +kernel
theorem dX7_cell_32 : decode cX7_cell 32 = .ok (.ireturn, 1) := by decide +kernel
theorem dX7_put_0 : decode cX7_put 0 = .ok (.iload_n 1, 1) := by decide +kernel
theorem dX7_put_1 : decode cX7_put 1 = .ok (.ifCond .lt 28, 3) := by decide +kernel
theorem dX7_put_4 : decode cX7_put 4 = .ok (.iload_n 1, 1) := by decide +kernel
theorem dX7_put_5 : decode cX7_put 5 = .ok (.bipush 10, 2) := by decide +kernel
theorem dX7_put_7 : decode cX7_put 7 = .ok (.if_icmp .ge 22, 3) := by decide +kernel
theorem dX7_put_10 : decode cX7_put 10 = .ok (.iload_n 2, 1) := by decide +kernel
theorem dX7_put_11 : decode cX7_put 11 = .ok (.ifCond .lt 18, 3) := by decide +kernel
theorem dX7_put_14 : decode cX7_put 14 = .ok (.iload_n 2, 1) := by decide +kernel
theorem dX7_put_15 : decode cX7_put 15 = .ok (.bipush 9, 2) := by decide +kernel
theorem dX7_put_17 : decode cX7_put 17 = .ok (.if_icmp .ge 12, 3) := by decide +kernel
theorem dX7_put_20 : decode cX7_put 20 = .ok (.aload_n 0, 1) := by decide +kernel
theorem dX7_put_21 : decode cX7_put 21 = .ok (.getfield 13, 3) := by decide +kernel
theorem dX7_put_24 : decode cX7_put 24 = .ok (.iload_n 1, 1) := by decide +kernel
theorem dX7_put_25 : decode cX7_put 25 = .ok (.aaload, 1) := by decide +kernel
theorem dX7_put_26 : decode cX7_put 26 = .ok (.iload_n 2, 1) := by decide +kernel
theorem dX7_put_27 : decode cX7_put 27 = .ok (.iload_n 3, 1) := by decide +kernel
theorem dX7_put_28 : decode cX7_put 28 = .ok (.iastore, 1) := by decide +kernel
theorem dX7_put_29 : decode cX7_put 29 = .ok (.return_, 1) := by decide +kernel
theorem dX7_clearScene_0 : decode cX7_clearScene 0 = .ok (.iconst 0, 1) := by decide +kernel
theorem dX7_clearScene_1 : decode cX7_clearScene 1 = .ok (.istore_n 2, 1) := by decide +kernel
theorem dX7_clearScene_2 : decode cX7_clearScene 2 = .ok (.iload_n 2, 1) := by decide +kernel
theorem dX7_clearScene_3 : decode cX7_clearScene 3 = .ok (.bipush 9, 2) := by decide +kernel
theorem dX7_clearScene_5 : decode cX7_clearScene 5 = .ok (.if_icmp .ge 26, 3) := by decide +kernel
theorem dX7_clearScene_8 : decode cX7_clearScene 8 = .ok (.aload_n 0, 1) := by decide +kernel
theorem dX7_clearScene_9 : decode cX7_clearScene 9 = .ok (.iload_n 1, 1) := by decide +kernel
theorem dX7_clearScene_10 : decode cX7_clearScene 10 = .ok (.iload_n 2, 1) := by decide +kernel
theorem dX7_clearScene_11 : decode cX7_clearScene 11 = .ok (.iload_n 2, 1) := by decide +kernel
theorem dX7_clearScene_12 : decode cX7_clearScene 12 = .ok (.bipush 8, 2) := by decide +kernel
theorem dX7_clearScene_14 : decode cX7_clearScene 14 = .ok (.if_icmp .ne 7, 3) := by decide +kernel
theorem dX7_clearScene_17 : decode cX7_clearScene 17 = .ok (.iconst (-1), 1) := by decide +kernel
theorem dX7_clearScene_18 : decode cX7_clearScene 18 = .ok (.goto 4, 3) := by decide +kernel
theorem dX7_clearScene_21 : decode cX7_clearScene 21 = .ok (.iconst 0, 1) := by decide +kernel
theorem dX7_clearScene_22 : decode cX7_clearScene 22 = .ok (.invokevirtual 20, 3) := by decide +kernel
theorem dX7_clearScene_25 : decode cX7_clearScene 25 = .ok (.iinc 2 1, 3) := by decide +kernel
theorem dX7_clearScene_28 : decode cX7_clearScene 28 = .ok (.goto (-26), 3) := by decide +kernel
theorem dX7_clearScene_31 : decode cX7_clearScene 31 = .ok (.return_, 1) := by decide +kernel
theorem dX7_closeScene_0 : decode cX7_closeScene 0 = .ok (.aload_n 0, 1) := by decide +kernel
theorem dX7_closeScene_1 : decode cX7_closeScene 1 = .ok (.getfield 16, 3) := by decide +kernel
theorem dX7_closeScene_4 : decode cX7_closeScene 4 = .ok (.bipush 10, 2) := by decide +kernel
theorem dX7_closeScene_6 : decode cX7_closeScene 6 = .ok (.if_icmp .ge 13, 3) := by decide +kernel
theorem dX7_closeScene_9 : decode cX7_closeScene 9 = .ok (.aload_n 0, 1) := by decide +kernel
theorem dX7_closeScene_10 : decode cX7_closeScene 10 = .ok (.dup, 1) := by decide +kernel
theorem dX7_closeScene_11 : decode cX7_closeScene 11 = .ok (.getfield 16, 3) := by decide +kernel
theorem dX7_closeScene_14 : decode cX7_closeScene 14 = .ok (.iconst 1, 1) := by decide +kernel
theorem dX7_closeScene_15 : decode cX7_closeScene 15 = .ok (.iadd, 1) := by decide +kernel
theorem dX7_closeScene_16 : decode cX7_closeScene 16 = .ok (.putfield 16, 3) := by decide +kernel
theorem dX7_closeScene_19 : decode cX7_closeScene 19 = .ok (.return_, 1) := by decide +kernel
theorem dX7_become_0 : decode cX7_become 0 = .ok (.iconst 0, 1) := by decide +kernel
theorem dX7_become_1 : decode cX7_become 1 = .ok (.istore_n 2, 1) := by decide +kernel
theorem dX7_become_2 : decode cX7_become 2 = .ok (.iload_n 2, 1) := by decide +kernel
theorem dX7_become_3 : decode cX7_become 3 = .ok (.bipush 10, 2) := by decide +kernel
theorem dX7_become_5 : decode cX7_become 5 = .ok (.if_icmp .ge 28, 3) := by decide +kernel
theorem dX7_become_8 : decode cX7_become 8 = .ok (.aload_n 1, 1) := by decide +kernel
theorem dX7_become_9 : decode cX7_become 9 = .ok (.getfield 13, 3) := by decide +kernel
theorem dX7_become_12 : decode cX7_become 12 = .ok (.iload_n 2, 1) := by decide +kernel
theorem dX7_become_13 : decode cX7_become 13 = .ok (.aaload, 1) := by decide +kernel
theorem dX7_become_14 : decode cX7_become 14 = .ok (.iconst 0, 1) := by decide +kernel
theorem dX7_become_15 : decode cX7_become 15 = .ok (.aload_n 0, 1) := by decide +kernel
theorem dX7_become_16 : decode cX7_become 16 = .ok (.getfield 13, 3) := by decide +kernel
theorem dX7_become_19 : decode cX7_become 19 = .ok (.iload_n 2, 1) := by decide +kernel
theorem dX7_become_20 : decode cX7_become 20 = .ok (.aaload, 1) := by decide +kernel
theorem dX7_become_21 : decode cX7_become 21 = .ok (.iconst 0, 1) := by decide +kernel
theorem dX7_become_22 : decode cX7_become 22 = .ok (.bipush 9, 2) := by decide +kernel
theorem dX7_become_24 : decode cX7_become 24 = .ok (.invokestatic 24, 3) := by decide +kernel
theorem dX7_become_27 : decode cX7_become 27 = .ok (.iinc 2 1, 3) := by decide +kernel
theorem dX7_become_30 : decode cX7_become 30 = .ok (.goto (-28), 3) := by decide +kernel
theorem dX7_become_33 : decode cX7_become 33 = .ok (.aload_n 0, 1) := by decide +kernel
theorem dX7_become_34 : decode cX7_become 34 = .ok (.aload_n 1, 1) := by decide +kernel
theorem dX7_become_35 : decode cX7_become 35 = .ok (.getfield 16, 3) := by decide +kernel
theorem dX7_become_38 : decode cX7_become 38 = .ok (.putfield 16, 3) := by decide +kernel
theorem dX7_become_41 : decode cX7_become 41 = .ok (.return_, 1) := by decide +kernel
theorem dX7_all_0 : decode cX7_all 0 = .ok (.iconst 1, 1) := by decide +kernel
theorem dX7_all_1 : decode cX7_all 1 = .ok (.aload_n 0, 1) := by decide +kernel
theorem dX7_all_2 : decode cX7_all 2 = .ok (.getfield 16, 3) := by decide +kernel
theorem dX7_all_5 : decode cX7_all 5 = .ok (.ishl, 1) := by decide +kernel
theorem dX7_all_6 : decode cX7_all 6 = .ok (.iconst 1, 1) := by decide +kernel
theorem dX7_all_7 : decode cX7_all 7 = .ok (.isub, 1) := by decide +kernel
theorem dX7_all_8 : decode cX7_all 8 = .ok (.ireturn, 1) := by decide +kernel
theorem dX7_union_0 : decode cX7_union 0 = .ok (.iconst 0, 1) := by decide +kernel
theorem dX7_union_1 : decode cX7_union 1 = .ok (.istore_n 3, 1) := by decide +kernel
theorem dX7_union_2 : decode cX7_union 2 = .ok (.iconst 0, 1) := by decide +kernel
theorem dX7_union_3 : decode cX7_union 3 = .ok (.istore 4, 2) := by decide +kernel
theorem dX7_union_5 : decode cX7_union 5 = .ok (.iload 4, 2) := by decide +kernel
theorem dX7_union_7 : decode cX7_union 7 = .ok (.aload_n 0, 1) := by decide +kernel
theorem dX7_union_8 : decode cX7_union 8 = .ok (.getfield 16, 3) := by decide +kernel
theorem dX7_union_11 : decode cX7_union 11 = .ok (.if_icmp .ge 31, 3) := by decide +kernel
theorem dX7_union_14 : decode cX7_union 14 = .ok (.iload_n 1, 1) := by decide +kernel
theorem dX7_union_15 : decode cX7_union 15 = .ok (.iload 4, 2) := by decide +kernel
theorem dX7_union_17 : decode cX7_union 17 = .ok (.ishr, 1) := by decide +kernel
theorem dX7_union_18 : decode cX7_union 18 = .ok (.iconst 1, 1) := by decide +kernel
theorem dX7_union_19 : decode cX7_union 19 = .ok (.iand, 1) := by decide +kernel
theorem dX7_union_20 : decode cX7_union 20 = .ok (.iconst 1, 1) := by decide +kernel
theorem dX7_union_21 : decode cX7_union 21 = .ok (.if_icmp .ne 15, 3) := by decide +kernel
theorem dX7_union_24 : decode cX7_union 24 = .ok (.iload_n 3, 1) := by decide +kernel
theorem dX7_union_25 : decode cX7_union 25 = .ok (.aload_n 0, 1) := by decide +kernel
theorem dX7_union_26 : decode cX7_union 26 = .ok (.getfield 13, 3) := by decide +kernel
theorem dX7_union_29 : decode cX7_union 29 = .ok (.iload 4, 2) := by decide +kernel
theorem dX7_union_31 : decode cX7_union 31 = .ok (.aaload, 1) := by decide +kernel
theorem dX7_union_32 : decode cX7_union 32 = .ok (.iload_n 2, 1) := by decide +kernel
theorem dX7_union_33 : decode cX7_union 33 = .ok (.iaload, 1) := by decide +kernel
theorem dX7_union_34 : decode cX7_union 34 = .ok (.ior, 1) := by decide +kernel
theorem dX7_union_35 : decode cX7_union 35 = .ok (.istore_n 3, 1) := by decide +kernel
theorem dX7_union_36 : decode cX7_union 36 = .ok (.iinc 4 1, 3) := by decide +kernel
theorem dX7_union_39 : decode cX7_union 39 = .ok (.goto (-34), 3) := by decide +kernel
theorem dX7_union_42 : decode cX7_union 42 = .ok (.iload_n 3, 1) := by decide +kernel
theorem dX7_union_43 : decode cX7_union 43 = .ok (.ireturn, 1) := by decide +kernel
theorem dX7_sum_0 : decode cX7_sum 0 = .ok (.iconst 0, 1) := by decide +kernel
theorem dX7_sum_1 : decode cX7_sum 1 = .ok (.istore_n 3, 1) := by decide +kernel
theorem dX7_sum_2 : decode cX7_sum 2 = .ok (.iconst 0, 1) := by decide +kernel
theorem dX7_sum_3 : decode cX7_sum 3 = .ok (.istore 4, 2) := by decide +kernel
theorem dX7_sum_5 : decode cX7_sum 5 = .ok (.iload 4, 2) := by decide +kernel
theorem dX7_sum_7 : decode cX7_sum 7 = .ok (.aload_n 0, 1) := by decide +kernel
theorem dX7_sum_8 : decode cX7_sum 8 = .ok (.getfield 16, 3) := by decide +kernel
theorem dX7_sum_11 : decode cX7_sum 11 = .ok (.if_icmp .ge 31, 3) := by decide +kernel
theorem dX7_sum_14 : decode cX7_sum 14 = .ok (.iload_n 1, 1) := by decide +kernel
theorem dX7_sum_15 : decode cX7_sum 15 = .ok (.iload 4, 2) := by decide +kernel
theorem dX7_sum_17 : decode cX7_sum 17 = .ok (.ishr, 1) := by decide +kernel
theorem dX7_sum_18 : decode cX7_sum 18 = .ok (.iconst 1, 1) := by decide +kernel
theorem dX7_sum_19 : decode cX7_sum 19 = .ok (.iand, 1) := by decide +kernel
theorem dX7_sum_20 : decode cX7_sum 20 = .ok (.iconst 1, 1) := by decide +kernel
theorem dX7_sum_21 : decode cX7_sum 21 = .ok (.if_icmp .ne 15, 3) := by decide +kernel
theorem dX7_sum_24 : decode cX7_sum 24 = .ok (.iload_n 3, 1) := by decide +kernel
theorem dX7_sum_25 : decode cX7_sum 25 = .ok (.aload_n 0, 1) := by decide +kernel
theorem dX7_sum_26 : decode cX7_sum 26 = .ok (.getfield 13, 3) := by decide +kernel
theorem dX7_sum_29 : decode cX7_sum 29 = .ok (.iload 4, 2) := by decide +kernel
theorem dX7_sum_31 : decode cX7_sum 31 = .ok (.aaload, 1) := by decide +kernel
theorem dX7_sum_32 : decode cX7_sum 32 = .ok (.iload_n 2, 1) := by decide +kernel
theorem dX7_sum_33 : decode cX7_sum 33 = .ok (.iaload, 1) := by decide +kernel
theorem dX7_sum_34 : decode cX7_sum 34 = .ok (.iadd, 1) := by decide +kernel
theorem dX7_sum_35 : decode cX7_sum 35 = .ok (.istore_n 3, 1) := by decide +kernel
theorem dX7_sum_36 : decode cX7_sum 36 = .ok (.iinc 4 1, 3) := by decide +kernel
theorem dX7_sum_39 : decode cX7_sum 39 = .ok (.goto (-34), 3) := by decide +kernel
theorem dX7_sum_42 : decode cX7_sum 42 = .ok (.iload_n 3, 1) := by decide +kernel
theorem dX7_sum_43 : decode cX7_sum 43 = .ok (.ireturn, 1) := by decide +kernel
theorem dX7_deadIn_0 : decode cX7_deadIn 0 = .ok (.iconst 0, 1) := by decide +kernel
theorem dX7_deadIn_1 : decode cX7_deadIn 1 = .ok (.istore_n 2, 1) := by decide +kernel
theorem dX7_deadIn_2 : decode cX7_deadIn 2 = .ok (.iconst 0, 1) := by decide +kernel
theorem dX7_deadIn_3 : decode cX7_deadIn 3 = .ok (.istore_n 3, 1) := by decide +kernel
theorem dX7_deadIn_4 : decode cX7_deadIn 4 = .ok (.iload_n 3, 1) := by decide +kernel
theorem dX7_deadIn_5 : decode cX7_deadIn 5 = .ok (.aload_n 0, 1) := by decide +kernel
theorem dX7_deadIn_6 : decode cX7_deadIn 6 = .ok (.getfield 16, 3) := by decide +kernel
theorem dX7_deadIn_9 : decode cX7_deadIn 9 = .ok (.if_icmp .ge 45, 3) := by decide +kernel
theorem dX7_deadIn_12 : decode cX7_deadIn 12 = .ok (.iload_n 1, 1) := by decide +kernel
theorem dX7_deadIn_13 : decode cX7_deadIn 13 = .ok (.iload_n 3, 1) := by decide +kernel
theorem dX7_deadIn_14 : decode cX7_deadIn 14 = .ok (.ishr, 1) := by decide +kernel
theorem dX7_deadIn_15 : decode cX7_deadIn 15 = .ok (.iconst 1, 1) := by decide +kernel
theorem dX7_deadIn_16 : decode cX7_deadIn 16 = .ok (.iand, 1) := by decide +kernel
theorem dX7_deadIn_17 : decode cX7_deadIn 17 = .ok (.iconst 1, 1) := by decide +kernel
theorem dX7_deadIn_18 : decode cX7_deadIn 18 = .ok (.if_icmp .ne 30, 3) := by decide +kernel
theorem dX7_deadIn_21 : decode cX7_deadIn 21 = .ok (.aload_n 0, 1) := by decide +kernel
theorem dX7_deadIn_22 : decode cX7_deadIn 22 = .ok (.getfield 13, 3) := by decide +kernel
theorem dX7_deadIn_25 : decode cX7_deadIn 25 = .ok (.iload_n 3, 1) := by decide +kernel
theorem dX7_deadIn_26 : decode cX7_deadIn 26 = .ok (.aaload, 1) := by decide +kernel
theorem dX7_deadIn_27 : decode cX7_deadIn 27 = .ok (.bipush 8, 2) := by decide +kernel
theorem dX7_deadIn_29 : decode cX7_deadIn 29 = .ok (.iaload, 1) := by decide +kernel
theorem dX7_deadIn_30 : decode cX7_deadIn 30 = .ok (.iconst (-1), 1) := by decide +kernel
theorem dX7_deadIn_31 : decode cX7_deadIn 31 = .ok (.if_icmp .eq 17, 3) := by decide +kernel
theorem dX7_deadIn_34 : decode cX7_deadIn 34 = .ok (.iload_n 2, 1) := by decide +kernel
theorem dX7_deadIn_35 : decode cX7_deadIn 35 = .ok (.iconst 1, 1) := by decide +kernel
theorem dX7_deadIn_36 : decode cX7_deadIn 36 = .ok (.aload_n 0, 1) := by decide +kernel
theorem dX7_deadIn_37 : decode cX7_deadIn 37 = .ok (.getfield 13, 3) := by decide +kernel
theorem dX7_deadIn_40 : decode cX7_deadIn 40 = .ok (.iload_n 3, 1) := by decide +kernel
theorem dX7_deadIn_41 : decode cX7_deadIn 41 = .ok (.aaload, 1) := by decide +kernel
theorem dX7_deadIn_42 : decode cX7_deadIn 42 = .ok (.bipush 8, 2) := by decide +kernel
theorem dX7_deadIn_44 : decode cX7_deadIn 44 = .ok (.iaload, 1) := by decide +kernel
theorem dX7_deadIn_45 : decode cX7_deadIn 45 = .ok (.ishl, 1) := by decide +kernel
theorem dX7_deadIn_46 : decode cX7_deadIn 46 = .ok (.ior, 1) := by decide +kernel
theorem dX7_deadIn_47 : decode cX7_deadIn 47 = .ok (.istore_n 2, 1) := by decide +kernel
theorem dX7_deadIn_48 : decode cX7_deadIn 48 = .ok (.iinc 3 1, 3) := by decide +kernel
theorem dX7_deadIn_51 : decode cX7_deadIn 51 = .ok (.goto (-47), 3) := by decide +kernel
theorem dX7_deadIn_54 : decode cX7_deadIn 54 = .ok (.iload_n 2, 1) := by decide +kernel
theorem dX7_deadIn_55 : decode cX7_deadIn 55 = .ok (.ireturn, 1) := by decide +kernel
theorem dX7_deathsOf_0 : decode cX7_deathsOf 0 = .ok (.iconst 0, 1) := by decide +kernel
theorem dX7_deathsOf_1 : decode cX7_deathsOf 1 = .ok (.istore_n 2, 1) := by decide +kernel
theorem dX7_deathsOf_2 : decode cX7_deathsOf 2 = .ok (.iconst 0, 1) := by decide +kernel
theorem dX7_deathsOf_3 : decode cX7_deathsOf 3 = .ok (.istore_n 3, 1) := by decide +kernel
theorem dX7_deathsOf_4 : decode cX7_deathsOf 4 = .ok (.iload_n 3, 1) := by decide +kernel
theorem dX7_deathsOf_5 : decode cX7_deathsOf 5 = .ok (.aload_n 0, 1) := by decide +kernel
theorem dX7_deathsOf_6 : decode cX7_deathsOf 6 = .ok (.getfield 16, 3) := by decide +kernel
theorem dX7_deathsOf_9 : decode cX7_deathsOf 9 = .ok (.if_icmp .ge 27, 3) := by decide +kernel
theorem dX7_deathsOf_12 : decode cX7_deathsOf 12 = .ok (.aload_n 0, 1) := by decide +kernel
theorem dX7_deathsOf_13 : decode cX7_deathsOf 13 = .ok (.iconst 1, 1) := by decide +kernel
theorem dX7_deathsOf_14 : decode cX7_deathsOf 14 = .ok (.iload_n 3, 1) := by decide +kernel
theorem dX7_deathsOf_15 : decode cX7_deathsOf 15 = .ok (.ishl, 1) := by decide +kernel
theorem dX7_deathsOf_16 : decode cX7_deathsOf 16 = .ok (.invokevirtual 30, 3) := by decide +kernel
theorem dX7_deathsOf_19 : decode cX7_deathsOf 19 = .ok (.iload_n 1, 1) := by decide +kernel
theorem dX7_deathsOf_20 : decode cX7_deathsOf 20 = .ok (.iand, 1) := by decide +kernel
theorem dX7_deathsOf_21 : decode cX7_deathsOf 21 = .ok (.ifCond .eq 9, 3) := by decide +kernel
theorem dX7_deathsOf_24 : decode cX7_deathsOf 24 = .ok (.iload_n 2, 1) := by decide +kernel
theorem dX7_deathsOf_25 : decode cX7_deathsOf 25 = .ok (.iconst 1, 1) := by decide +kernel
theorem dX7_deathsOf_26 : decode cX7_deathsOf 26 = .ok (.iload_n 3, 1) := by decide +kernel
theorem dX7_deathsOf_27 : decode cX7_deathsOf 27 = .ok (.ishl, 1) := by decide +kernel
theorem dX7_deathsOf_28 : decode cX7_deathsOf 28 = .ok (.ior, 1) := by decide +kernel
theorem dX7_deathsOf_29 : decode cX7_deathsOf 29 = .ok (.istore_n 2, 1) := by decide +kernel
theorem dX7_deathsOf_30 : decode cX7_deathsOf 30 = .ok (.iinc 3 1, 3) := by decide +kernel
theorem dX7_deathsOf_33 : decode cX7_deathsOf 33 = .ok (.goto (-29), 3) := by decide +kernel
theorem dX7_deathsOf_36 : decode cX7_deathsOf 36 = .ok (.iload_n 2, 1) := by decide +kernel
theorem dX7_deathsOf_37 : decode cX7_deathsOf 37 = .ok (.ireturn, 1) := by decide +kernel
theorem dX7_openBehind_0 : decode cX7_openBehind 0 = .ok (.aload_n 0, 1) := by decide +kernel
theorem dX7_openBehind_1 : decode cX7_openBehind 1 = .ok (.iload_n 1, 1) := by decide +kernel
theorem dX7_openBehind_2 : decode cX7_openBehind 2 = .ok (.iconst 4, 1) := by decide +kernel
theorem dX7_openBehind_3 : decode cX7_openBehind 3 = .ok (.invokevirtual 34, 3) := by decide +kernel
theorem dX7_openBehind_6 : decode cX7_openBehind 6 = .ok (.aload_n 0, 1) := by decide +kernel
theorem dX7_openBehind_7 : decode cX7_openBehind 7 = .ok (.iload_n 1, 1) := by decide +kernel
theorem dX7_openBehind_8 : decode cX7_openBehind 8 = .ok (.iconst 5, 1) := by decide +kernel
theorem dX7_openBehind_9 : decode cX7_openBehind 9 = .ok (.invokevirtual 34, 3) := by decide +kernel
theorem dX7_openBehind_12 : decode cX7_openBehind 12 = .ok (.iconst (-1), 1) := by decide +kernel
theorem dX7_openBehind_13 : decode cX7_openBehind 13 = .ok (.ixor, 1) := by decide +kernel
theorem dX7_openBehind_14 : decode cX7_openBehind 14 = .ok (.iand, 1) := by decide +kernel
theorem dX7_openBehind_15 : decode cX7_openBehind 15 = .ok (.ireturn, 1) := by decide +kernel
theorem dX8_init_0 : decode cX8_init 0 = .ok (.aload_n 0, 1) := by decide +kernel
theorem dX8_init_1 : decode cX8_init 1 = .ok (.invokespecial 3, 3) := by decide +kernel
theorem dX8_init_4 : decode cX8_init 4 = .ok (.aload_n 0, 1) := by decide +kernel
theorem dX8_init_5 : decode cX8_init 5 = .ok (.sipush 400, 3) := by decide +kernel
theorem dX8_init_8 : decode cX8_init 8 = .ok (.newarray .int, 2) := by decide +kernel
theorem dX8_init_10 : decode cX8_init 10 = .ok (.putfield 9, 3) := by decide +kernel
theorem dX8_init_13 : decode cX8_init 13 = .ok (.aload_n 0, 1) := by decide +kernel
theorem dX8_init_14 : decode cX8_init 14 = .ok (.iconst 0, 1) := by decide +kernel
theorem dX8_init_15 : decode cX8_init 15 = .ok (.putfield 15, 3) := by decide +kernel
theorem dX8_init_18 : decode cX8_init 18 = .ok (.return_, 1) := by decide +kernel
theorem dX8_append_0 : decode cX8_append 0 = .ok (.aload_n 0, 1) := by decide +kernel
theorem dX8_append_1 : decode cX8_append 1 = .ok (.getfield 15, 3) := by decide +kernel
theorem dX8_append_4 : decode cX8_append 4 = .ok (.sipush 400, 3) := by decide +kernel
theorem dX8_append_7 : decode cX8_append 7 = .ok (.if_icmp .ge 23, 3) := by decide +kernel
theorem dX8_append_10 : decode cX8_append 10 = .ok (.aload_n 0, 1) := by decide +kernel
theorem dX8_append_11 : decode cX8_append 11 = .ok (.getfield 9, 3) := by decide +kernel
theorem dX8_append_14 : decode cX8_append 14 = .ok (.aload_n 0, 1) := by decide +kernel
theorem dX8_append_15 : decode cX8_append 15 = .ok (.getfield 15, 3) := by decide +kernel
theorem dX8_append_18 : decode cX8_append 18 = .ok (.iload_n 1, 1) := by decide +kernel
theorem dX8_append_19 : decode cX8_append 19 = .ok (.iastore, 1) := by decide +kernel
theorem dX8_append_20 : decode cX8_append 20 = .ok (.aload_n 0, 1) := by decide +kernel
theorem dX8_append_21 : decode cX8_append 21 = .ok (.dup, 1) := by decide +kernel
theorem dX8_append_22 : decode cX8_append 22 = .ok (.getfield 15, 3) := by decide +kernel
theorem dX8_append_25 : decode cX8_append 25 = .ok (.iconst 1, 1) := by decide +kernel
theorem dX8_append_26 : decode cX8_append 26 = .ok (.iadd, 1) := by decide +kernel
theorem dX8_append_27 : decode cX8_append 27 = .ok (.putfield 15, 3) := by decide +kernel
theorem dX8_append_30 : decode cX8_append 30 = .ok (.return_, 1) := by decide +kernel
theorem dX8_at_0 : decode cX8_at 0 = .ok (.iload_n 1, 1) := by decide +kernel
theorem dX8_at_1 : decode cX8_at 1 = .ok (.ifCond .lt 20, 3) := by decide +kernel
theorem dX8_at_4 : decode cX8_at 4 = .ok (.iload_n 1, 1) := by decide +kernel
theorem dX8_at_5 : decode cX8_at 5 = .ok (.aload_n 0, 1) := by decide +kernel
theorem dX8_at_6 : decode cX8_at 6 = .ok (.getfield 15, 3) := by decide +kernel
theorem dX8_at_9 : decode cX8_at 9 = .ok (.if_icmp .ge 12, 3) := by decide +kernel
theorem dX8_at_12 : decode cX8_at 12 = .ok (.aload_n 0, 1) := by decide +kernel
theorem dX8_at_13 : decode cX8_at 13 = .ok (.getfield 9, 3) := by decide +kernel
theorem dX8_at_16 : decode cX8_at 16 = .ok (.iload_n 1, 1) := by decide +kernel
theorem dX8_at_17 : decode cX8_at 17 = .ok (.iaload, 1) := by decide +kernel
theorem dX8_at_18 : decode cX8_at 18 = .ok (.goto 4, 3) := by decide +kernel
theorem dX8_at_21 : decode cX8_at 21 = .ok (.iconst (-1), 1) := by decide +kernel
theorem dX8_at_22 : decode cX8_at 22 = .ok (.ireturn, 1) := by decide +kernel
theorem dX9_init_0 : decode cX9_init 0 = .ok (.aload_n 0, 1) := by decide +kernel
theorem dX9_init_1 : decode cX9_init 1 = .ok (.invokespecial 3, 3) := by decide +kernel
theorem dX9_init_4 : decode cX9_init 4 = .ok (.aload_n 0, 1) := by decide +kernel
theorem dX9_init_5 : decode cX9_init 5 = .ok (.new 9, 3) := by decide +kernel
theorem dX9_init_8 : decode cX9_init 8 = .ok (.dup, 1) := by decide +kernel
theorem dX9_init_9 : decode cX9_init 9 = .ok (.invokespecial 11, 3) := by decide +kernel
theorem dX9_init_12 : decode cX9_init 12 = .ok (.putfield 12, 3) := by decide +kernel
theorem dX9_init_15 : decode cX9_init 15 = .ok (.aload_n 0, 1) := by decide +kernel
theorem dX9_init_16 : decode cX9_init 16 = .ok (.new 16, 3) := by decide +kernel
theorem dX9_init_19 : decode cX9_init 19 = .ok (.dup, 1) := by decide +kernel
theorem dX9_init_20 : decode cX9_init 20 = .ok (.aload_n 0, 1) := by decide +kernel
theorem dX9_init_21 : decode cX9_init 21 = .ok (.getfield 12, 3) := by decide +kernel
theorem dX9_init_24 : decode cX9_init 24 = .ok (.invokespecial 18, 3) := by decide +kernel
theorem dX9_init_27 : decode cX9_init 27 = .ok (.putfield 21, 3) := by decide +kernel
theorem dX9_init_30 : decode cX9_init 30 = .ok (.aload_n 0, 1) := by decide +kernel
theorem dX9_init_31 : decode cX9_init 31 = .ok (.new 25, 3) := by decide +kernel
theorem dX9_init_34 : decode cX9_init 34 = .ok (.dup, 1) := by decide +kernel
theorem dX9_init_35 : decode cX9_init 35 = .ok (.invokespecial 27, 3) := by decide +kernel
theorem dX9_init_38 : decode cX9_init 38 = .ok (.putfield 28, 3) := by decide +kernel
theorem dX9_init_41 : decode cX9_init 41 = .ok (.aload_n 0, 1) := by decide +kernel
theorem dX9_init_42 : decode cX9_init 42 = .ok (.new 25, 3) := by decide +kernel
theorem dX9_init_45 : decode cX9_init 45 = .ok (.dup, 1) := by decide +kernel
theorem dX9_init_46 : decode cX9_init 46 = .ok (.invokespecial 27, 3) := by decide +kernel
theorem dX9_init_49 : decode cX9_init 49 = .ok (.putfield 32, 3) := by decide +kernel
theorem dX9_init_52 : decode cX9_init 52 = .ok (.aload_n 0, 1) := by decide +kernel
theorem dX9_init_53 : decode cX9_init 53 = .ok (.new 35, 3) := by decide +kernel
theorem dX9_init_56 : decode cX9_init 56 = .ok (.dup, 1) := by decide +kernel
theorem dX9_init_57 : decode cX9_init 57 = .ok (.aload_n 0, 1) := by decide +kernel
theorem dX9_init_58 : decode cX9_init 58 = .ok (.getfield 28, 3) := by decide +kernel
theorem dX9_init_61 : decode cX9_init 61 = .ok (.invokespecial 37, 3) := by decide +kernel
theorem dX9_init_64 : decode cX9_init 64 = .ok (.putfield 40, 3) := by decide +kernel
theorem dX9_init_67 : decode cX9_init 67 = .ok (.aload_n 0, 1) := by decide +kernel
theorem dX9_init_68 : decode cX9_init 68 = .ok (.new 44, 3) := by decide +kernel
theorem dX9_init_71 : decode cX9_init 71 = .ok (.dup, 1) := by decide +kernel
theorem dX9_init_72 : decode cX9_init 72 = .ok (.aload_n 0, 1) := by decide +kernel
theorem dX9_init_73 : decode cX9_init 73 = .ok (.getfield 28, 3) := by decide +kernel
theorem dX9_init_76 : decode cX9_init 76 = .ok (.aload_n 0, 1) := by decide +kernel
theorem dX9_init_77 : decode cX9_init 77 = .ok (.getfield 40, 3) := by decide +kernel
theorem dX9_init_80 : decode cX9_init 80 = .ok (.invokespecial 46, 3) := by decide +kernel
theorem dX9_init_83 : decode cX9_init 83 = .ok (.putfield 49, 3) := by decide +kernel
theorem dX9_init_86 : decode cX9_init 86 = .ok (.aload_n 0, 1) := by decide +kernel
theorem dX9_init_87 : decode cX9_init 87 = .ok (.new 53, 3) := by decide +kernel
theorem dX9_init_90 : decode cX9_init 90 = .ok (.dup, 1) := by decide +kernel
theorem dX9_init_91 : decode cX9_init 91 = .ok (.invokespecial 55, 3) := by decide +kernel
theorem dX9_init_94 : decode cX9_init 94 = .ok (.putfield 56, 3) := by decide +kernel
theorem dX9_init_97 : decode cX9_init 97 = .ok (.aload_n 0, 1) := by decide +kernel
theorem dX9_init_98 : decode cX9_init 98 = .ok (.new 60, 3) := by decide +kernel
theorem dX9_init_101 : decode cX9_init 101 = .ok (.dup, 1) := by decide +kernel
theorem dX9_init_102 : decode cX9_init 102 = .ok (.aload_n 0, 1) := by decide +kernel
theorem dX9_init_103 : decode cX9_init 103 = .ok (.getfield 28, 3) := by decide +kernel
theorem dX9_init_106 : decode cX9_init 106 = .ok (.aload_n 0, 1) := by decide +kernel
theorem dX9_init_107 : decode cX9_init 107 = .ok (.getfield 56, 3) := by decide +kernel
theorem dX9_init_110 : decode cX9_init 110 = .ok (.invokespecial 62, 3) := by decide +kernel
theorem dX9_init_113 : decode cX9_init 113 = .ok (.putfield 65, 3) := by decide +kernel
theorem dX9_init_116 : decode cX9_init 116 = .ok (.aload_n 0, 1) := by decide +kernel
theorem dX9_init_117 : decode cX9_init 117 = .ok (.new 69, 3) := by decide +kernel
theorem dX9_init_120 : decode cX9_init 120 = .ok (.dup, 1) := by decide +kernel
theorem dX9_init_121 : decode cX9_init 121 = .ok (.aload_n 0, 1) := by decide +kernel
theorem dX9_init_122 : decode cX9_init 122 = .ok (.getfield 28, 3) := by decide +kernel
theorem dX9_init_125 : decode cX9_init 125 = .ok (.aload_n 0, 1) := by decide +kernel
theorem dX9_init_126 : decode cX9_init 126 = .ok (.getfield 56, 3) := by decide +kernel
theorem dX9_init_129 : decode cX9_init 129 = .ok (.invokespecial 71, 3) := by decide +kernel
theorem dX9_init_132 : decode cX9_init 132 = .ok (.putfield 72, 3) := by decide +kernel
theorem dX9_init_135 : decode cX9_init 135 = .ok (.aload_n 0, 1) := by decide +kernel
theorem dX9_init_136 : decode cX9_init 136 = .ok (.iconst 2, 1) := by decide +kernel
theorem dX9_init_137 : decode cX9_init 137 = .ok (.anewarray 53, 3) := by decide +kernel
theorem dX9_init_140 : decode cX9_init 140 = .ok (.dup, 1) := by decide +kernel
theorem dX9_init_141 : decode cX9_init 141 = .ok (.iconst 0, 1) := by decide +kernel
theorem dX9_init_142 : decode cX9_init 142 = .ok (.new 53, 3) := by decide +kernel
theorem dX9_init_145 : decode cX9_init 145 = .ok (.dup, 1) := by decide +kernel
theorem dX9_init_146 : decode cX9_init 146 = .ok (.invokespecial 55, 3) := by decide +kernel
theorem dX9_init_149 : decode cX9_init 149 = .ok (.aastore, 1) := by decide +kernel
theorem dX9_init_150 : decode cX9_init 150 = .ok (.dup, 1) := by decide +kernel
theorem dX9_init_151 : decode cX9_init 151 = .ok (.iconst 1, 1) := by decide +kernel
theorem dX9_init_152 : decode cX9_init 152 = .ok (.new 53, 3) := by decide +kernel
theorem dX9_init_155 : decode cX9_init 155 = .ok (.dup, 1) := by decide +kernel
theorem dX9_init_156 : decode cX9_init 156 = .ok (.invokespecial 55, 3) := by decide +kernel
theorem dX9_init_159 : decode cX9_init 159 = .ok (.aastore, 1) := by decide +kernel
theorem dX9_init_160 : decode cX9_init 160 = .ok (.putfield 76, 3) := by decide +kernel
theorem dX9_init_163 : decode cX9_init 163 = .ok (.aload_n 0, 1) := by decide +kernel
theorem dX9_init_164 : decode cX9_init 164 = .ok (.iconst 2, 1) := by decide +kernel
theorem dX9_init_165 : decode cX9_init 165 = .ok (.newarray .boolean, 2) := by decide +kernel
theorem dX9_init_167 : decode cX9_init 167 = .ok (.putfield 80, 3) := by decide +kernel
theorem dX9_init_170 : decode cX9_init 170 = .ok (.return_, 1) := by decide +kernel
theorem dX9_feed_0 : decode cX9_feed 0 = .ok (.iload_n 1, 1) := by decide +kernel
theorem dX9_feed_1 : decode cX9_feed 1 = .ok (.iconst 1, 1) := by decide +kernel
theorem dX9_feed_2 : decode cX9_feed 2 = .ok (.if_icmp .lt 9, 3) := by decide +kernel
theorem dX9_feed_5 : decode cX9_feed 5 = .ok (.iload_n 1, 1) := by decide +kernel
theorem dX9_feed_6 : decode cX9_feed 6 = .ok (.bipush 8, 2) := by decide +kernel
theorem dX9_feed_8 : decode cX9_feed 8 = .ok (.if_icmp .le 7, 3) := by decide +kernel
theorem dX9_feed_11 : decode cX9_feed 11 = .ok (.sipush (-1002), 3) := by decide +kernel
theorem dX9_feed_14 : decode cX9_feed 14 = .ok (.ireturn, 1) := by decide +kernel
theorem dX9_feed_15 : decode cX9_feed 15 = .ok (.aload_n 0, 1) := by decide +kernel
theorem dX9_feed_16 : decode cX9_feed 16 = .ok (.getfield 12, 3) := by decide +kernel
theorem dX9_feed_19 : decode cX9_feed 19 = .ok (.getfield 84, 3) := by decide +kernel
theorem dX9_feed_22 : decode cX9_feed 22 = .ok (.iload_n 1, 1) := by decide +kernel
theorem dX9_feed_23 : decode cX9_feed 23 = .ok (.iadd, 1) := by decide +kernel
theorem dX9_feed_24 : decode cX9_feed 24 = .ok (.sipush 400, 3) := by decide +kernel
theorem dX9_feed_27 : decode cX9_feed 27 = .ok (.if_icmp .le 7, 3) := by decide +kernel
theorem dX9_feed_30 : decode cX9_feed 30 = .ok (.sipush (-1004), 3) := by decide +kernel
theorem dX9_feed_33 : decode cX9_feed 33 = .ok (.ireturn, 1) := by decide +kernel
theorem dX9_feed_34 : decode cX9_feed 34 = .ok (.iload_n 1, 1) := by decide +kernel
theorem dX9_feed_35 : decode cX9_feed 35 = .ok (.iconst 1, 1) := by decide +kernel
theorem dX9_feed_36 : decode cX9_feed 36 = .ok (.isub, 1) := by decide +kernel
theorem dX9_feed_37 : decode cX9_feed 37 = .ok (.istore 4, 2) := by decide +kernel
theorem dX9_feed_39 : decode cX9_feed 39 = .ok (.iload 4, 2) := by decide +kernel
theorem dX9_feed_41 : decode cX9_feed 41 = .ok (.ifCond .lt 28, 3) := by decide +kernel
theorem dX9_feed_44 : decode cX9_feed 44 = .ok (.aload_n 0, 1) := by decide +kernel
theorem dX9_feed_45 : decode cX9_feed 45 = .ok (.getfield 12, 3) := by decide +kernel
theorem dX9_feed_48 : decode cX9_feed 48 = .ok (.lload_n 2, 1) := by decide +kernel
theorem dX9_feed_49 : decode cX9_feed 49 = .ok (.bipush 8, 2) := by decide +kernel
theorem dX9_feed_51 : decode cX9_feed 51 = .ok (.iload 4, 2) := by decide +kernel
theorem dX9_feed_53 : decode cX9_feed 53 = .ok (.imul, 1) := by decide +kernel
theorem dX9_feed_54 : decode cX9_feed 54 = .ok (.lushr, 1) := by decide +kernel
theorem dX9_feed_55 : decode cX9_feed 55 = .ok (.l2i, 1) := by decide +kernel
theorem dX9_feed_56 : decode cX9_feed 56 = .ok (.sipush 255, 3) := by decide +kernel
theorem dX9_feed_59 : decode cX9_feed 59 = .ok (.iand, 1) := by decide +kernel
theorem dX9_feed_60 : decode cX9_feed 60 = .ok (.invokevirtual 88, 3) := by decide +kernel
theorem dX9_feed_63 : decode cX9_feed 63 = .ok (.iinc 4 (-1), 3) := by decide +kernel
theorem dX9_feed_66 : decode cX9_feed 66 = .ok (.goto (-27), 3) := by decide +kernel
theorem dX9_feed_69 : decode cX9_feed 69 = .ok (.aload_n 0, 1) := by decide +kernel
theorem dX9_feed_70 : decode cX9_feed 70 = .ok (.getfield 12, 3) := by decide +kernel
theorem dX9_feed_73 : decode cX9_feed 73 = .ok (.getfield 84, 3) := by decide +kernel
theorem dX9_feed_76 : decode cX9_feed 76 = .ok (.ireturn, 1) := by decide +kernel
theorem dX9_story_0 : decode cX9_story 0 = .ok (.aload_n 0, 1) := by decide +kernel
theorem dX9_story_1 : decode cX9_story 1 = .ok (.getfield 21, 3) := by decide +kernel
theorem dX9_story_4 : decode cX9_story 4 = .ok (.aload_n 0, 1) := by decide +kernel
theorem dX9_story_5 : decode cX9_story 5 = .ok (.getfield 32, 3) := by decide +kernel
theorem dX9_story_8 : decode cX9_story 8 = .ok (.invokevirtual 92, 3) := by decide +kernel
theorem dX9_story_11 : decode cX9_story 11 = .ok (.istore_n 1, 1) := by decide +kernel
theorem dX9_story_12 : decode cX9_story 12 = .ok (.aload_n 0, 1) := by decide +kernel
theorem dX9_story_13 : decode cX9_story 13 = .ok (.getfield 12, 3) := by decide +kernel
theorem dX9_story_16 : decode cX9_story 16 = .ok (.iconst 0, 1) := by decide +kernel
theorem dX9_story_17 : decode cX9_story 17 = .ok (.putfield 84, 3) := by decide +kernel
theorem dX9_story_20 : decode cX9_story 20 = .ok (.iload_n 1, 1) := by decide +kernel
theorem dX9_story_21 : decode cX9_story 21 = .ok (.ifCond .eq 8, 3) := by decide +kernel
theorem dX9_story_24 : decode cX9_story 24 = .ok (.bipush (-10), 2) := by decide +kernel
theorem dX9_story_26 : decode cX9_story 26 = .ok (.iload_n 1, 1) := by decide +kernel
theorem dX9_story_27 : decode cX9_story 27 = .ok (.isub, 1) := by decide +kernel
theorem dX9_story_28 : decode cX9_story 28 = .ok (.ireturn, 1) := by decide +kernel
theorem dX9_story_29 : decode cX9_story 29 = .ok (.aload_n 0, 1) := by decide +kernel
theorem dX9_story_30 : decode cX9_story 30 = .ok (.getfield 28, 3) := by decide +kernel
theorem dX9_story_33 : decode cX9_story 33 = .ok (.aload_n 0, 1) := by decide +kernel
theorem dX9_story_34 : decode cX9_story 34 = .ok (.getfield 32, 3) := by decide +kernel
theorem dX9_story_37 : decode cX9_story 37 = .ok (.invokevirtual 96, 3) := by decide +kernel
theorem dX9_story_40 : decode cX9_story 40 = .ok (.aload_n 0, 1) := by decide +kernel
theorem dX9_story_41 : decode cX9_story 41 = .ok (.getfield 56, 3) := by decide +kernel
theorem dX9_story_44 : decode cX9_story 44 = .ok (.invokevirtual 99, 3) := by decide +kernel
theorem dX9_story_47 : decode cX9_story 47 = .ok (.aload_n 0, 1) := by decide +kernel
theorem dX9_story_48 : decode cX9_story 48 = .ok (.getfield 80, 3) := by decide +kernel
theorem dX9_story_51 : decode cX9_story 51 = .ok (.iconst 0, 1) := by decide +kernel
theorem dX9_story_52 : decode cX9_story 52 = .ok (.iconst 0, 1) := by decide +kernel
theorem dX9_story_53 : decode cX9_story 53 = .ok (.bastore, 1) := by decide +kernel
theorem dX9_story_54 : decode cX9_story 54 = .ok (.aload_n 0, 1) := by decide +kernel
theorem dX9_story_55 : decode cX9_story 55 = .ok (.getfield 80, 3) := by decide +kernel
theorem dX9_story_58 : decode cX9_story 58 = .ok (.iconst 1, 1) := by decide +kernel
theorem dX9_story_59 : decode cX9_story 59 = .ok (.iconst 0, 1) := by decide +kernel
theorem dX9_story_60 : decode cX9_story 60 = .ok (.bastore, 1) := by decide +kernel
theorem dX9_story_61 : decode cX9_story 61 = .ok (.aload_n 0, 1) := by decide +kernel
theorem dX9_story_62 : decode cX9_story 62 = .ok (.getfield 49, 3) := by decide +kernel
theorem dX9_story_65 : decode cX9_story 65 = .ok (.iconst 0, 1) := by decide +kernel
theorem dX9_story_66 : decode cX9_story 66 = .ok (.putfield 102, 3) := by decide +kernel
theorem dX9_story_69 : decode cX9_story 69 = .ok (.aload_n 0, 1) := by decide +kernel
theorem dX9_story_70 : decode cX9_story 70 = .ok (.invokevirtual 106, 3) := by decide +kernel
theorem dX9_story_73 : decode cX9_story 73 = .ok (.aload_n 0, 1) := by decide +kernel
theorem dX9_story_74 : decode cX9_story 74 = .ok (.getfield 28, 3) := by decide +kernel
theorem dX9_story_77 : decode cX9_story 77 = .ok (.getfield 109, 3) := by decide +kernel
theorem dX9_story_80 : decode cX9_story 80 = .ok (.ireturn, 1) := by decide +kernel
theorem dX9_fault_0 : decode cX9_fault 0 = .ok (.aload_n 0, 1) := by decide +kernel
theorem dX9_fault_1 : decode cX9_fault 1 = .ok (.getfield 21, 3) := by decide +kernel
theorem dX9_fault_4 : decode cX9_fault 4 = .ok (.getfield 112, 3) := by decide +kernel
theorem dX9_fault_7 : decode cX9_fault 7 = .ok (.ireturn, 1) := by decide +kernel
theorem dX9_scene_0 : decode cX9_scene 0 = .ok (.aload_n 0, 1) := by decide +kernel
theorem dX9_scene_1 : decode cX9_scene 1 = .ok (.iload_n 1, 1) := by decide +kernel
theorem dX9_scene_2 : decode cX9_scene 2 = .ok (.invokevirtual 115, 3) := by decide +kernel
theorem dX9_scene_5 : decode cX9_scene 5 = .ok (.ifCond .ne 7, 3) := by decide +kernel
theorem dX9_scene_8 : decode cX9_scene 8 = .ok (.sipush (-1001), 3) := by decide +kernel
theorem dX9_scene_11 : decode cX9_scene 11 = .ok (.ireturn, 1) := by decide +kernel
theorem dX9_scene_12 : decode cX9_scene 12 = .ok (.iload_n 2, 1) := by decide +kernel
theorem dX9_scene_13 : decode cX9_scene 13 = .ok (.ifCond .lt 9, 3) := by decide +kernel
theorem dX9_scene_16 : decode cX9_scene 16 = .ok (.iload_n 2, 1) := by decide +kernel
theorem dX9_scene_17 : decode cX9_scene 17 = .ok (.bipush 9, 2) := by decide +kernel
theorem dX9_scene_19 : decode cX9_scene 19 = .ok (.if_icmp .le 7, 3) := by decide +kernel
theorem dX9_scene_22 : decode cX9_scene 22 = .ok (.sipush (-1002), 3) := by decide +kernel
theorem dX9_scene_25 : decode cX9_scene 25 = .ok (.ireturn, 1) := by decide +kernel
theorem dX9_scene_26 : decode cX9_scene 26 = .ok (.iload_n 2, 1) := by decide +kernel
theorem dX9_scene_27 : decode cX9_scene 27 = .ok (.bipush 9, 2) := by decide +kernel
theorem dX9_scene_29 : decode cX9_scene 29 = .ok (.if_icmp .ne 14, 3) := by decide +kernel
theorem dX9_scene_32 : decode cX9_scene 32 = .ok (.aload_n 0, 1) := by decide +kernel
theorem dX9_scene_33 : decode cX9_scene 33 = .ok (.getfield 56, 3) := by decide +kernel
theorem dX9_scene_36 : decode cX9_scene 36 = .ok (.iload_n 1, 1) := by decide +kernel
theorem dX9_scene_37 : decode cX9_scene 37 = .ok (.invokevirtual 119, 3) := by decide +kernel
theorem dX9_scene_40 : decode cX9_scene 40 = .ok (.goto 12, 3) := by decide +kernel
theorem dX9_scene_43 : decode cX9_scene 43 = .ok (.aload_n 0, 1) := by decide +kernel
theorem dX9_scene_44 : decode cX9_scene 44 = .ok (.getfield 28, 3) := by decide +kernel
theorem dX9_scene_47 : decode cX9_scene 47 = .ok (.iload_n 1, 1) := by decide +kernel
theorem dX9_scene_48 : decode cX9_scene 48 = .ok (.iload_n 2, 1) := by decide +kernel
theorem dX9_scene_49 : decode cX9_scene 49 = .ok (.invokevirtual 123, 3) := by decide +kernel
theorem dX9_scene_52 : decode cX9_scene 52 = .ok (.ireturn, 1) := by decide +kernel
theorem dX9_never_0 : decode cX9_never 0 = .ok (.iload_n 1, 1) := by decide +kernel
theorem dX9_never_1 : decode cX9_never 1 = .ok (.ifCond .lt 24, 3) := by decide +kernel
theorem dX9_never_4 : decode cX9_never 4 = .ok (.iload_n 1, 1) := by decide +kernel
theorem dX9_never_5 : decode cX9_never 5 = .ok (.bipush 8, 2) := by decide +kernel
theorem dX9_never_7 : decode cX9_never 7 = .ok (.if_icmp .ge 18, 3) := by decide +kernel
theorem dX9_never_10 : decode cX9_never 10 = .ok (.iload_n 2, 1) := by decide +kernel
theorem dX9_never_11 : decode cX9_never 11 = .ok (.ifCond .lt 14, 3) := by decide +kernel
theorem dX9_never_14 : decode cX9_never 14 = .ok (.iload_n 2, 1) := by decide +kernel
theorem dX9_never_15 : decode cX9_never 15 = .ok (.bipush 8, 2) := by decide +kernel
theorem dX9_never_17 : decode cX9_never 17 = .ok (.if_icmp .ge 8, 3) := by decide +kernel
theorem dX9_never_20 : decode cX9_never 20 = .ok (.iload_n 1, 1) := by decide +kernel
theorem dX9_never_21 : decode cX9_never 21 = .ok (.iload_n 2, 1) := by decide +kernel
theorem dX9_never_22 : decode cX9_never 22 = .ok (.if_icmp .ne 7, 3) := by decide +kernel
theorem dX9_never_25 : decode cX9_never 25 = .ok (.sipush (-1001), 3) := by decide +kernel
theorem dX9_never_28 : decode cX9_never 28 = .ok (.ireturn, 1) := by decide +kernel
theorem dX9_never_29 : decode cX9_never 29 = .ok (.aload_n 0, 1) := by decide +kernel
theorem dX9_never_30 : decode cX9_never 30 = .ok (.getfield 40, 3) := by decide +kernel
theorem dX9_never_33 : decode cX9_never 33 = .ok (.iload_n 1, 1) := by decide +kernel
theorem dX9_never_34 : decode cX9_never 34 = .ok (.iload_n 2, 1) := by decide +kernel
theorem dX9_never_35 : decode cX9_never 35 = .ok (.invokevirtual 127, 3) := by decide +kernel
theorem dX9_never_38 : decode cX9_never 38 = .ok (.istore 4, 2) := by decide +kernel
theorem dX9_never_40 : decode cX9_never 40 = .ok (.iload 4, 2) := by decide +kernel
theorem dX9_never_42 : decode cX9_never 42 = .ok (.iload_n 3, 1) := by decide +kernel
theorem dX9_never_43 : decode cX9_never 43 = .ok (.if_icmp .eq 24, 3) := by decide +kernel
theorem dX9_never_46 : decode cX9_never 46 = .ok (.aload_n 0, 1) := by decide +kernel
theorem dX9_never_47 : decode cX9_never 47 = .ok (.getfield 40, 3) := by decide +kernel
theorem dX9_never_50 : decode cX9_never 50 = .ok (.iload_n 1, 1) := by decide +kernel
theorem dX9_never_51 : decode cX9_never 51 = .ok (.iload_n 2, 1) := by decide +kernel
theorem dX9_never_52 : decode cX9_never 52 = .ok (.invokevirtual 131, 3) := by decide +kernel
theorem dX9_never_55 : decode cX9_never 55 = .ok (.aload_n 0, 1) := by decide +kernel
theorem dX9_never_56 : decode cX9_never 56 = .ok (.getfield 49, 3) := by decide +kernel
theorem dX9_never_59 : decode cX9_never 59 = .ok (.iconst 0, 1) := by decide +kernel
theorem dX9_never_60 : decode cX9_never 60 = .ok (.putfield 102, 3) := by decide +kernel
theorem dX9_never_63 : decode cX9_never 63 = .ok (.aload_n 0, 1) := by decide +kernel
theorem dX9_never_64 : decode cX9_never 64 = .ok (.invokevirtual 106, 3) := by decide +kernel
theorem dX9_never_67 : decode cX9_never 67 = .ok (.iload 4, 2) := by decide +kernel
theorem dX9_never_69 : decode cX9_never 69 = .ok (.ifCond .eq 7, 3) := by decide +kernel
theorem dX9_never_72 : decode cX9_never 72 = .ok (.iconst 1, 1) := by decide +kernel
theorem dX9_never_73 : decode cX9_never 73 = .ok (.goto 4, 3) := by decide +kernel
theorem dX9_never_76 : decode cX9_never 76 = .ok (.iconst 0, 1) := by decide +kernel
theorem dX9_never_77 : decode cX9_never 77 = .ok (.ireturn, 1) := by decide +kernel
theorem dX9_count_0 : decode cX9_count 0 = .ok (.iload_n 1, 1) := by decide +kernel
theorem dX9_count_1 : decode cX9_count 1 = .ok (.tableswitch 130 0 7 #[47, 55, 63, 71, 79, 95, 103, 111], 47) := by decide +kernel
theorem dX9_count_48 : decode cX9_count 48 = .ok (.aload_n 0, 1) := by decide +kernel
theorem dX9_count_49 : decode cX9_count 49 = .ok (.getfield 28, 3) := by decide +kernel
theorem dX9_count_52 : decode cX9_count 52 = .ok (.getfield 109, 3) := by decide +kernel
theorem dX9_count_55 : decode cX9_count 55 = .ok (.ireturn, 1) := by decide +kernel
theorem dX9_count_56 : decode cX9_count 56 = .ok (.aload_n 0, 1) := by decide +kernel
theorem dX9_count_57 : decode cX9_count 57 = .ok (.getfield 56, 3) := by decide +kernel
theorem dX9_count_60 : decode cX9_count 60 = .ok (.invokevirtual 135, 3) := by decide +kernel
theorem dX9_count_63 : decode cX9_count 63 = .ok (.ireturn, 1) := by decide +kernel
theorem dX9_count_64 : decode cX9_count 64 = .ok (.aload_n 0, 1) := by decide +kernel
theorem dX9_count_65 : decode cX9_count 65 = .ok (.getfield 56, 3) := by decide +kernel
theorem dX9_count_68 : decode cX9_count 68 = .ok (.getfield 139, 3) := by decide +kernel
theorem dX9_count_71 : decode cX9_count 71 = .ok (.ireturn, 1) := by decide +kernel
theorem dX9_count_72 : decode cX9_count 72 = .ok (.aload_n 0, 1) := by decide +kernel
theorem dX9_count_73 : decode cX9_count 73 = .ok (.getfield 56, 3) := by decide +kernel
theorem dX9_count_76 : decode cX9_count 76 = .ok (.invokevirtual 142, 3) := by decide +kernel
theorem dX9_count_79 : decode cX9_count 79 = .ok (.ireturn, 1) := by decide +kernel
theorem dX9_count_80 : decode cX9_count 80 = .ok (.aload_n 0, 1) := by decide +kernel
theorem dX9_count_81 : decode cX9_count 81 = .ok (.getfield 28, 3) := by decide +kernel
theorem dX9_count_84 : decode cX9_count 84 = .ok (.aload_n 0, 1) := by decide +kernel
theorem dX9_count_85 : decode cX9_count 85 = .ok (.getfield 28, 3) := by decide +kernel
theorem dX9_count_88 : decode cX9_count 88 = .ok (.invokevirtual 145, 3) := by decide +kernel
theorem dX9_count_91 : decode cX9_count 91 = .ok (.iconst 0, 1) := by decide +kernel
theorem dX9_count_92 : decode cX9_count 92 = .ok (.invokevirtual 148, 3) := by decide +kernel
theorem dX9_count_95 : decode cX9_count 95 = .ok (.ireturn, 1) := by decide +kernel
theorem dX9_count_96 : decode cX9_count 96 = .ok (.aload_n 0, 1) := by decide +kernel
theorem dX9_count_97 : decode cX9_count 97 = .ok (.getfield 12, 3) := by decide +kernel
theorem dX9_count_100 : decode cX9_count 100 = .ok (.getfield 84, 3) := by decide +kernel
theorem dX9_count_103 : decode cX9_count 103 = .ok (.ireturn, 1) := by decide +kernel
theorem dX9_count_104 : decode cX9_count 104 = .ok (.aload_n 0, 1) := by decide +kernel
theorem dX9_count_105 : decode cX9_count 105 = .ok (.getfield 40, 3) := by decide +kernel
theorem dX9_count_108 : decode cX9_count 108 = .ok (.getfield 151, 3) := by decide +kernel
theorem dX9_count_111 : decode cX9_count 111 = .ok (.ireturn, 1) := by decide +kernel
theorem dX9_count_112 : decode cX9_count 112 = .ok (.aload_n 0, 1) := by decide +kernel
theorem dX9_count_113 : decode cX9_count 113 = .ok (.getfield 28, 3) := by decide +kernel
theorem dX9_count_116 : decode cX9_count 116 = .ok (.aload_n 0, 1) := by decide +kernel
theorem dX9_count_117 : decode cX9_count 117 = .ok (.getfield 28, 3) := by decide +kernel
theorem dX9_count_120 : decode cX9_count 120 = .ok (.invokevirtual 145, 3) := by decide +kernel
theorem dX9_count_123 : decode cX9_count 123 = .ok (.iconst 4, 1) := by decide +kernel
theorem dX9_count_124 : decode cX9_count 124 = .ok (.invokevirtual 154, 3) := by decide +kernel
theorem dX9_count_127 : decode cX9_count 127 = .ok (.invokestatic 157, 3) := by decide +kernel
theorem dX9_count_130 : decode cX9_count 130 = .ok (.ireturn, 1) := by decide +kernel
theorem dX9_count_131 : decode cX9_count 131 = .ok (.sipush (-1002), 3) := by decide +kernel
theorem dX9_count_134 : decode cX9_count 134 = .ok (.ireturn, 1) := by decide +kernel
theorem dX9_may_0 : decode cX9_may 0 = .ok (.aload_n 0, 1) := by decide +kernel
theorem dX9_may_1 : decode cX9_may 1 = .ok (.iload_n 1, 1) := by decide +kernel
theorem dX9_may_2 : decode cX9_may 2 = .ok (.invokevirtual 115, 3) := by decide +kernel
theorem dX9_may_5 : decode cX9_may 5 = .ok (.ifCond .eq 11, 3) := by decide +kernel
theorem dX9_may_8 : decode cX9_may 8 = .ok (.aload_n 0, 1) := by decide +kernel
theorem dX9_may_9 : decode cX9_may 9 = .ok (.iload_n 2, 1) := by decide +kernel
theorem dX9_may_10 : decode cX9_may 10 = .ok (.invokevirtual 162, 3) := by decide +kernel
theorem dX9_may_13 : decode cX9_may 13 = .ok (.ifCond .ne 7, 3) := by decide +kernel
theorem dX9_may_16 : decode cX9_may 16 = .ok (.sipush (-1001), 3) := by decide +kernel
theorem dX9_may_19 : decode cX9_may 19 = .ok (.ireturn, 1) := by decide +kernel
theorem dX9_may_20 : decode cX9_may 20 = .ok (.aload_n 0, 1) := by decide +kernel
theorem dX9_may_21 : decode cX9_may 21 = .ok (.getfield 40, 3) := by decide +kernel
theorem dX9_may_24 : decode cX9_may 24 = .ok (.iload_n 2, 1) := by decide +kernel
theorem dX9_may_25 : decode cX9_may 25 = .ok (.invokevirtual 165, 3) := by decide +kernel
theorem dX9_may_28 : decode cX9_may 28 = .ok (.iload_n 1, 1) := by decide +kernel
theorem dX9_may_29 : decode cX9_may 29 = .ok (.ishr, 1) := by decide +kernel
theorem dX9_may_30 : decode cX9_may 30 = .ok (.iconst 1, 1) := by decide +kernel
theorem dX9_may_31 : decode cX9_may 31 = .ok (.iand, 1) := by decide +kernel
theorem dX9_may_32 : decode cX9_may 32 = .ok (.ireturn, 1) := by decide +kernel
theorem dX9_next_0 : decode cX9_next 0 = .ok (.aload_n 0, 1) := by decide +kernel
theorem dX9_next_1 : decode cX9_next 1 = .ok (.iload_n 1, 1) := by decide +kernel
theorem dX9_next_2 : decode cX9_next 2 = .ok (.invokevirtual 162, 3) := by decide +kernel
theorem dX9_next_5 : decode cX9_next 5 = .ok (.ifCond .eq 14, 3) := by decide +kernel
theorem dX9_next_8 : decode cX9_next 8 = .ok (.aload_n 0, 1) := by decide +kernel
theorem dX9_next_9 : decode cX9_next 9 = .ok (.getfield 40, 3) := by decide +kernel
theorem dX9_next_12 : decode cX9_next 12 = .ok (.iload_n 1, 1) := by decide +kernel
theorem dX9_next_13 : decode cX9_next 13 = .ok (.invokevirtual 165, 3) := by decide +kernel
theorem dX9_next_16 : decode cX9_next 16 = .ok (.goto 6, 3) := by decide +kernel
theorem dX9_next_19 : decode cX9_next 19 = .ok (.sipush (-1001), 3) := by decide +kernel
theorem dX9_next_22 : decode cX9_next 22 = .ok (.ireturn, 1) := by decide +kernel
theorem dX9_orders_0 : decode cX9_orders 0 = .ok (.aload_n 0, 1) := by decide +kernel
theorem dX9_orders_1 : decode cX9_orders 1 = .ok (.iload_n 1, 1) := by decide +kernel
theorem dX9_orders_2 : decode cX9_orders 2 = .ok (.invokevirtual 162, 3) := by decide +kernel
theorem dX9_orders_5 : decode cX9_orders 5 = .ok (.ifCond .eq 16, 3) := by decide +kernel
theorem dX9_orders_8 : decode cX9_orders 8 = .ok (.aload_n 0, 1) := by decide +kernel
theorem dX9_orders_9 : decode cX9_orders 9 = .ok (.invokevirtual 168, 3) := by decide +kernel
theorem dX9_orders_12 : decode cX9_orders 12 = .ok (.getfield 172, 3) := by decide +kernel
theorem dX9_orders_15 : decode cX9_orders 15 = .ok (.iload_n 1, 1) := by decide +kernel
theorem dX9_orders_16 : decode cX9_orders 16 = .ok (.iaload, 1) := by decide +kernel
theorem dX9_orders_17 : decode cX9_orders 17 = .ok (.i2l, 1) := by decide +kernel
theorem dX9_orders_18 : decode cX9_orders 18 = .ok (.goto 6, 3) := by decide +kernel
theorem dX9_orders_21 : decode cX9_orders 21 = .ok (.ldc2_w 176, 3) := by decide +kernel
theorem dX9_orders_24 : decode cX9_orders 24 = .ok (.lreturn, 1) := by decide +kernel
theorem dX9_order_0 : decode cX9_order 0 = .ok (.aload_n 0, 1) := by decide +kernel
theorem dX9_order_1 : decode cX9_order 1 = .ok (.iload_n 1, 1) := by decide +kernel
theorem dX9_order_2 : decode cX9_order 2 = .ok (.invokevirtual 162, 3) := by decide +kernel
theorem dX9_order_5 : decode cX9_order 5 = .ok (.ifCond .ne 7, 3) := by decide +kernel
theorem dX9_order_8 : decode cX9_order 8 = .ok (.sipush (-1001), 3) := by decide +kernel
theorem dX9_order_11 : decode cX9_order 11 = .ok (.ireturn, 1) := by decide +kernel
theorem dX9_order_12 : decode cX9_order 12 = .ok (.lload_n 2, 1) := by decide +kernel
theorem dX9_order_13 : decode cX9_order 13 = .ok (.lconst 0, 1) := by decide +kernel
theorem dX9_order_14 : decode cX9_order 14 = .ok (.lcmp, 1) := by decide +kernel
theorem dX9_order_15 : decode cX9_order 15 = .ok (.ifCond .ge 7, 3) := by decide +kernel
theorem dX9_order_18 : decode cX9_order 18 = .ok (.sipush (-1002), 3) := by decide +kernel
theorem dX9_order_21 : decode cX9_order 21 = .ok (.ireturn, 1) := by decide +kernel
theorem dX9_order_22 : decode cX9_order 22 = .ok (.aload_n 0, 1) := by decide +kernel
theorem dX9_order_23 : decode cX9_order 23 = .ok (.invokevirtual 168, 3) := by decide +kernel
theorem dX9_order_26 : decode cX9_order 26 = .ok (.iload_n 1, 1) := by decide +kernel
theorem dX9_order_27 : decode cX9_order 27 = .ok (.lload_n 2, 1) := by decide +kernel
theorem dX9_order_28 : decode cX9_order 28 = .ok (.iload 4, 2) := by decide +kernel
theorem dX9_order_30 : decode cX9_order 30 = .ok (.invokevirtual 178, 3) := by decide +kernel
theorem dX9_order_33 : decode cX9_order 33 = .ok (.ireturn, 1) := by decide +kernel
theorem dX9_good_0 : decode cX9_good 0 = .ok (.aload_n 0, 1) := by decide +kernel
theorem dX9_good_1 : decode cX9_good 1 = .ok (.invokevirtual 168, 3) := by decide +kernel
theorem dX9_good_4 : decode cX9_good 4 = .ok (.invokevirtual 182, 3) := by decide +kernel
theorem dX9_good_7 : decode cX9_good 7 = .ok (.ireturn, 1) := by decide +kernel
theorem dX9_place_0 : decode cX9_place 0 = .ok (.aload_n 0, 1) := by decide +kernel
theorem dX9_place_1 : decode cX9_place 1 = .ok (.iload_n 1, 1) := by decide +kernel
theorem dX9_place_2 : decode cX9_place 2 = .ok (.invokevirtual 115, 3) := by decide +kernel
theorem dX9_place_5 : decode cX9_place 5 = .ok (.ifCond .ne 7, 3) := by decide +kernel
theorem dX9_place_8 : decode cX9_place 8 = .ok (.sipush (-1001), 3) := by decide +kernel
theorem dX9_place_11 : decode cX9_place 11 = .ok (.ireturn, 1) := by decide +kernel
theorem dX9_place_12 : decode cX9_place 12 = .ok (.iload_n 2, 1) := by decide +kernel
theorem dX9_place_13 : decode cX9_place 13 = .ok (.ifCond .lt 8, 3) := by decide +kernel
theorem dX9_place_16 : decode cX9_place 16 = .ok (.iload_n 2, 1) := by decide +kernel
theorem dX9_place_17 : decode cX9_place 17 = .ok (.iconst 1, 1) := by decide +kernel
theorem dX9_place_18 : decode cX9_place 18 = .ok (.if_icmp .le 7, 3) := by decide +kernel
theorem dX9_place_21 : decode cX9_place 21 = .ok (.sipush (-1002), 3) := by decide +kernel
theorem dX9_place_24 : decode cX9_place 24 = .ok (.ireturn, 1) := by decide +kernel
theorem dX9_place_25 : decode cX9_place 25 = .ok (.iload_n 2, 1) := by decide +kernel
theorem dX9_place_26 : decode cX9_place 26 = .ok (.ifCond .ne 14, 3) := by decide +kernel
theorem dX9_place_29 : decode cX9_place 29 = .ok (.aload_n 0, 1) := by decide +kernel
theorem dX9_place_30 : decode cX9_place 30 = .ok (.invokevirtual 168, 3) := by decide +kernel
theorem dX9_place_33 : decode cX9_place 33 = .ok (.iload_n 1, 1) := by decide +kernel
theorem dX9_place_34 : decode cX9_place 34 = .ok (.invokevirtual 185, 3) := by decide +kernel
theorem dX9_place_37 : decode cX9_place 37 = .ok (.goto 11, 3) := by decide +kernel
theorem dX9_place_40 : decode cX9_place 40 = .ok (.aload_n 0, 1) := by decide +kernel
theorem dX9_place_41 : decode cX9_place 41 = .ok (.invokevirtual 168, 3) := by decide +kernel
theorem dX9_place_44 : decode cX9_place 44 = .ok (.iload_n 1, 1) := by decide +kernel
theorem dX9_place_45 : decode cX9_place 45 = .ok (.invokevirtual 188, 3) := by decide +kernel
theorem dX9_place_48 : decode cX9_place 48 = .ok (.ireturn, 1) := by decide +kernel
theorem dX9_open_0 : decode cX9_open 0 = .ok (.aload_n 0, 1) := by decide +kernel
theorem dX9_open_1 : decode cX9_open 1 = .ok (.iload_n 1, 1) := by decide +kernel
theorem dX9_open_2 : decode cX9_open 2 = .ok (.invokevirtual 162, 3) := by decide +kernel
theorem dX9_open_5 : decode cX9_open 5 = .ok (.ifCond .eq 14, 3) := by decide +kernel
theorem dX9_open_8 : decode cX9_open 8 = .ok (.aload_n 0, 1) := by decide +kernel
theorem dX9_open_9 : decode cX9_open 9 = .ok (.getfield 28, 3) := by decide +kernel
theorem dX9_open_12 : decode cX9_open 12 = .ok (.iload_n 1, 1) := by decide +kernel
theorem dX9_open_13 : decode cX9_open 13 = .ok (.invokevirtual 191, 3) := by decide +kernel
theorem dX9_open_16 : decode cX9_open 16 = .ok (.goto 6, 3) := by decide +kernel
theorem dX9_open_19 : decode cX9_open 19 = .ok (.sipush (-1001), 3) := by decide +kernel
theorem dX9_open_22 : decode cX9_open 22 = .ok (.ireturn, 1) := by decide +kernel
theorem dX9_atOnce_0 : decode cX9_atOnce 0 = .ok (.aload_n 0, 1) := by decide +kernel
theorem dX9_atOnce_1 : decode cX9_atOnce 1 = .ok (.iload_n 1, 1) := by decide +kernel
theorem dX9_atOnce_2 : decode cX9_atOnce 2 = .ok (.invokevirtual 162, 3) := by decide +kernel
theorem dX9_atOnce_5 : decode cX9_atOnce 5 = .ok (.ifCond .eq 15, 3) := by decide +kernel
theorem dX9_atOnce_8 : decode cX9_atOnce 8 = .ok (.aload_n 0, 1) := by decide +kernel
theorem dX9_atOnce_9 : decode cX9_atOnce 9 = .ok (.invokevirtual 168, 3) := by decide +kernel
theorem dX9_atOnce_12 : decode cX9_atOnce 12 = .ok (.getfield 194, 3) := by decide +kernel
theorem dX9_atOnce_15 : decode cX9_atOnce 15 = .ok (.iload_n 1, 1) := by decide +kernel
theorem dX9_atOnce_16 : decode cX9_atOnce 16 = .ok (.iaload, 1) := by decide +kernel
theorem dX9_atOnce_17 : decode cX9_atOnce 17 = .ok (.goto 6, 3) := by decide +kernel
theorem dX9_atOnce_20 : decode cX9_atOnce 20 = .ok (.sipush (-1001), 3) := by decide +kernel
theorem dX9_atOnce_23 : decode cX9_atOnce 23 = .ok (.ireturn, 1) := by decide +kernel
theorem dX9_along_0 : decode cX9_along 0 = .ok (.aload_n 0, 1) := by decide +kernel
theorem dX9_along_1 : decode cX9_along 1 = .ok (.iload_n 1, 1) := by decide +kernel
theorem dX9_along_2 : decode cX9_along 2 = .ok (.invokevirtual 115, 3) := by decide +kernel
theorem dX9_along_5 : decode cX9_along 5 = .ok (.ifCond .eq 14, 3) := by decide +kernel
theorem dX9_along_8 : decode cX9_along 8 = .ok (.aload_n 0, 1) := by decide +kernel
theorem dX9_along_9 : decode cX9_along 9 = .ok (.invokevirtual 168, 3) := by decide +kernel
theorem dX9_along_12 : decode cX9_along 12 = .ok (.iload_n 1, 1) := by decide +kernel
theorem dX9_along_13 : decode cX9_along 13 = .ok (.invokevirtual 197, 3) := by decide +kernel
theorem dX9_along_16 : decode cX9_along 16 = .ok (.goto 6, 3) := by decide +kernel
theorem dX9_along_19 : decode cX9_along 19 = .ok (.sipush (-1001), 3) := by decide +kernel
theorem dX9_along_22 : decode cX9_along 22 = .ok (.ireturn, 1) := by decide +kernel
theorem dX9_shortest_0 : decode cX9_shortest 0 = .ok (.aload_n 0, 1) := by decide +kernel
theorem dX9_shortest_1 : decode cX9_shortest 1 = .ok (.iload_n 1, 1) := by decide +kernel
theorem dX9_shortest_2 : decode cX9_shortest 2 = .ok (.invokevirtual 115, 3) := by decide +kernel
theorem dX9_shortest_5 : decode cX9_shortest 5 = .ok (.ifCond .ne 7, 3) := by decide +kernel
theorem dX9_shortest_8 : decode cX9_shortest 8 = .ok (.sipush (-1001), 3) := by decide +kernel
theorem dX9_shortest_11 : decode cX9_shortest 11 = .ok (.ireturn, 1) := by decide +kernel
theorem dX9_shortest_12 : decode cX9_shortest 12 = .ok (.iload_n 2, 1) := by decide +kernel
theorem dX9_shortest_13 : decode cX9_shortest 13 = .ok (.ifCond .lt 8, 3) := by decide +kernel
theorem dX9_shortest_16 : decode cX9_shortest 16 = .ok (.iload_n 2, 1) := by decide +kernel
theorem dX9_shortest_17 : decode cX9_shortest 17 = .ok (.iconst 1, 1) := by decide +kernel
theorem dX9_shortest_18 : decode cX9_shortest 18 = .ok (.if_icmp .le 7, 3) := by decide +kernel
theorem dX9_shortest_21 : decode cX9_shortest 21 = .ok (.sipush (-1002), 3) := by decide +kernel
theorem dX9_shortest_24 : decode cX9_shortest 24 = .ok (.ireturn, 1) := by decide +kernel
theorem dX9_shortest_25 : decode cX9_shortest 25 = .ok (.aload_n 0, 1) := by decide +kernel
theorem dX9_shortest_26 : decode cX9_shortest 26 = .ok (.invokevirtual 168, 3) := by decide +kernel
theorem dX9_shortest_29 : decode cX9_shortest 29 = .ok (.iload_n 1, 1) := by decide +kernel
theorem dX9_shortest_30 : decode cX9_shortest 30 = .ok (.invokevirtual 200, 3) := by decide +kernel
theorem dX9_shortest_33 : decode cX9_shortest 33 = .ok (.istore_n 3, 1) := by decide +kernel
theorem dX9_shortest_34 : decode cX9_shortest 34 = .ok (.iload_n 2, 1) := by decide +kernel
theorem dX9_shortest_35 : decode cX9_shortest 35 = .ok (.ifCond .eq 8, 3) := by decide +kernel
theorem dX9_shortest_38 : decode cX9_shortest 38 = .ok (.iload_n 3, 1) := by decide +kernel
theorem dX9_shortest_39 : decode cX9_shortest 39 = .ok (.iconst (-1), 1) := by decide +kernel
theorem dX9_shortest_40 : decode cX9_shortest 40 = .ok (.if_icmp .ne 7, 3) := by decide +kernel
theorem dX9_shortest_43 : decode cX9_shortest 43 = .ok (.iload_n 3, 1) := by decide +kernel
theorem dX9_shortest_44 : decode cX9_shortest 44 = .ok (.goto 12, 3) := by decide +kernel
theorem dX9_shortest_47 : decode cX9_shortest 47 = .ok (.aload_n 0, 1) := by decide +kernel
theorem dX9_shortest_48 : decode cX9_shortest 48 = .ok (.getfield 28, 3) := by decide +kernel
theorem dX9_shortest_51 : decode cX9_shortest 51 = .ok (.iload_n 3, 1) := by decide +kernel
theorem dX9_shortest_52 : decode cX9_shortest 52 = .ok (.iconst 0, 1) := by decide +kernel
theorem dX9_shortest_53 : decode cX9_shortest 53 = .ok (.invokevirtual 148, 3) := by decide +kernel
theorem dX9_shortest_56 : decode cX9_shortest 56 = .ok (.ireturn, 1) := by decide +kernel
theorem dX9_law_0 : decode cX9_law 0 = .ok (.aload_n 0, 1) := by decide +kernel
theorem dX9_law_1 : decode cX9_law 1 = .ok (.getfield 56, 3) := by decide +kernel
theorem dX9_law_4 : decode cX9_law 4 = .ok (.iload_n 1, 1) := by decide +kernel
theorem dX9_law_5 : decode cX9_law 5 = .ok (.iload_n 2, 1) := by decide +kernel
theorem dX9_law_6 : decode cX9_law 6 = .ok (.invokevirtual 203, 3) := by decide +kernel
theorem dX9_law_9 : decode cX9_law 9 = .ok (.ifCond .ne 7, 3) := by decide +kernel
theorem dX9_law_12 : decode cX9_law 12 = .ok (.sipush (-1002), 3) := by decide +kernel
theorem dX9_law_15 : decode cX9_law 15 = .ok (.ireturn, 1) := by decide +kernel
theorem dX9_law_16 : decode cX9_law 16 = .ok (.aload_n 0, 1) := by decide +kernel
theorem dX9_law_17 : decode cX9_law 17 = .ok (.getfield 56, 3) := by decide +kernel
theorem dX9_law_20 : decode cX9_law 20 = .ok (.getfield 206, 3) := by decide +kernel
theorem dX9_law_23 : decode cX9_law 23 = .ok (.iload_n 1, 1) := by decide +kernel
theorem dX9_law_24 : decode cX9_law 24 = .ok (.iaload, 1) := by decide +kernel
theorem dX9_law_25 : decode cX9_law 25 = .ok (.istore_n 3, 1) := by decide +kernel
theorem dX9_law_26 : decode cX9_law 26 = .ok (.aload_n 0, 1) := by decide +kernel
theorem dX9_law_27 : decode cX9_law 27 = .ok (.getfield 56, 3) := by decide +kernel
theorem dX9_law_30 : decode cX9_law 30 = .ok (.getfield 206, 3) := by decide +kernel
theorem dX9_law_33 : decode cX9_law 33 = .ok (.iload_n 1, 1) := by decide +kernel
theorem dX9_law_34 : decode cX9_law 34 = .ok (.iload_n 2, 1) := by decide +kernel
theorem dX9_law_35 : decode cX9_law 35 = .ok (.iastore, 1) := by decide +kernel
theorem dX9_law_36 : decode cX9_law 36 = .ok (.aload_n 0, 1) := by decide +kernel
theorem dX9_law_37 : decode cX9_law 37 = .ok (.invokevirtual 106, 3) := by decide +kernel
theorem dX9_law_40 : decode cX9_law 40 = .ok (.iload_n 3, 1) := by decide +kernel
theorem dX9_law_41 : decode cX9_law 41 = .ok (.ireturn, 1) := by decide +kernel
theorem dX9_add_0 : decode cX9_add 0 = .ok (.aload_n 0, 1) := by decide +kernel
theorem dX9_add_1 : decode cX9_add 1 = .ok (.iload_n 1, 1) := by decide +kernel
theorem dX9_add_2 : decode cX9_add 2 = .ok (.invokevirtual 115, 3) := by decide +kernel
theorem dX9_add_5 : decode cX9_add 5 = .ok (.ifCond .ne 7, 3) := by decide +kernel
theorem dX9_add_8 : decode cX9_add 8 = .ok (.sipush (-1001), 3) := by decide +kernel
theorem dX9_add_11 : decode cX9_add 11 = .ok (.ireturn, 1) := by decide +kernel
theorem dX9_add_12 : decode cX9_add 12 = .ok (.aload_n 0, 1) := by decide +kernel
theorem dX9_add_13 : decode cX9_add 13 = .ok (.getfield 40, 3) := by decide +kernel
theorem dX9_add_16 : decode cX9_add 16 = .ok (.aload_n 0, 1) := by decide +kernel
theorem dX9_add_17 : decode cX9_add 17 = .ok (.getfield 56, 3) := by decide +kernel
theorem dX9_add_20 : decode cX9_add 20 = .ok (.aload_n 0, 1) := by decide +kernel
theorem dX9_add_21 : decode cX9_add 21 = .ok (.getfield 56, 3) := by decide +kernel
theorem dX9_add_24 : decode cX9_add 24 = .ok (.getfield 209, 3) := by decide +kernel
theorem dX9_add_27 : decode cX9_add 27 = .ok (.invokevirtual 212, 3) := by decide +kernel
theorem dX9_add_30 : decode cX9_add 30 = .ok (.invokevirtual 165, 3) := by decide +kernel
theorem dX9_add_33 : decode cX9_add 33 = .ok (.iload_n 1, 1) := by decide +kernel
theorem dX9_add_34 : decode cX9_add 34 = .ok (.ishr, 1) := by decide +kernel
theorem dX9_add_35 : decode cX9_add 35 = .ok (.iconst 1, 1) := by decide +kernel
theorem dX9_add_36 : decode cX9_add 36 = .ok (.iand, 1) := by decide +kernel
theorem dX9_add_37 : decode cX9_add 37 = .ok (.ifCond .ne 7, 3) := by decide +kernel
theorem dX9_add_40 : decode cX9_add 40 = .ok (.sipush (-1003), 3) := by decide +kernel
theorem dX9_add_43 : decode cX9_add 43 = .ok (.ireturn, 1) := by decide +kernel
theorem dX9_add_44 : decode cX9_add 44 = .ok (.aload_n 0, 1) := by decide +kernel
theorem dX9_add_45 : decode cX9_add 45 = .ok (.getfield 56, 3) := by decide +kernel
theorem dX9_add_48 : decode cX9_add 48 = .ok (.invokevirtual 142, 3) := by decide +kernel
theorem dX9_add_51 : decode cX9_add 51 = .ok (.bipush 6, 2) := by decide +kernel
theorem dX9_add_53 : decode cX9_add 53 = .ok (.if_icmp .lt 7, 3) := by decide +kernel
theorem dX9_add_56 : decode cX9_add 56 = .ok (.sipush (-1004), 3) := by decide +kernel
theorem dX9_add_59 : decode cX9_add 59 = .ok (.ireturn, 1) := by decide +kernel
theorem dX9_add_60 : decode cX9_add 60 = .ok (.aload_n 0, 1) := by decide +kernel
theorem dX9_add_61 : decode cX9_add 61 = .ok (.getfield 56, 3) := by decide +kernel
theorem dX9_add_64 : decode cX9_add 64 = .ok (.iload_n 1, 1) := by decide +kernel
theorem dX9_add_65 : decode cX9_add 65 = .ok (.invokevirtual 215, 3) := by decide +kernel
theorem dX9_add_68 : decode cX9_add 68 = .ok (.aload_n 0, 1) := by decide +kernel
theorem dX9_add_69 : decode cX9_add 69 = .ok (.getfield 56, 3) := by decide +kernel
theorem dX9_add_72 : decode cX9_add 72 = .ok (.invokevirtual 142, 3) := by decide +kernel
theorem dX9_add_75 : decode cX9_add 75 = .ok (.ireturn, 1) := by decide +kernel
theorem dX9_drop_0 : decode cX9_drop 0 = .ok (.aload_n 0, 1) := by decide +kernel
theorem dX9_drop_1 : decode cX9_drop 1 = .ok (.getfield 56, 3) := by decide +kernel
theorem dX9_drop_4 : decode cX9_drop 4 = .ok (.invokevirtual 142, 3) := by decide +kernel
theorem dX9_drop_7 : decode cX9_drop 7 = .ok (.ifCond .ne 7, 3) := by decide +kernel
theorem dX9_drop_10 : decode cX9_drop 10 = .ok (.iconst (-1), 1) := by decide +kernel
theorem dX9_drop_11 : decode cX9_drop 11 = .ok (.goto 10, 3) := by decide +kernel
theorem dX9_drop_14 : decode cX9_drop 14 = .ok (.aload_n 0, 1) := by decide +kernel
theorem dX9_drop_15 : decode cX9_drop 15 = .ok (.getfield 56, 3) := by decide +kernel
theorem dX9_drop_18 : decode cX9_drop 18 = .ok (.invokevirtual 216, 3) := by decide +kernel
theorem dX9_drop_21 : decode cX9_drop 21 = .ok (.ireturn, 1) := by decide +kernel
theorem dX9_lines_0 : decode cX9_lines 0 = .ok (.aload_n 0, 1) := by decide +kernel
theorem dX9_lines_1 : decode cX9_lines 1 = .ok (.getfield 65, 3) := by decide +kernel
theorem dX9_lines_4 : decode cX9_lines 4 = .ok (.aload_n 0, 1) := by decide +kernel
theorem dX9_lines_5 : decode cX9_lines 5 = .ok (.getfield 56, 3) := by decide +kernel
theorem dX9_lines_8 : decode cX9_lines 8 = .ok (.getfield 139, 3) := by decide +kernel
theorem dX9_lines_11 : decode cX9_lines 11 = .ok (.invokevirtual 219, 3) := by decide +kernel
theorem dX9_lines_14 : decode cX9_lines 14 = .ok (.ireturn, 1) := by decide +kernel
theorem dX9_print_0 : decode cX9_print 0 = .ok (.aload_n 0, 1) := by decide +kernel
theorem dX9_print_1 : decode cX9_print 1 = .ok (.getfield 56, 3) := by decide +kernel
theorem dX9_print_4 : decode cX9_print 4 = .ok (.invokevirtual 142, 3) := by decide +kernel
theorem dX9_print_7 : decode cX9_print 7 = .ok (.ifCond .ne 7, 3) := by decide +kernel
theorem dX9_print_10 : decode cX9_print 10 = .ok (.sipush (-1003), 3) := by decide +kernel
theorem dX9_print_13 : decode cX9_print 13 = .ok (.ireturn, 1) := by decide +kernel
theorem dX9_print_14 : decode cX9_print 14 = .ok (.aload_n 0, 1) := by decide +kernel
theorem dX9_print_15 : decode cX9_print 15 = .ok (.getfield 65, 3) := by decide +kernel
theorem dX9_print_18 : decode cX9_print 18 = .ok (.aload_n 0, 1) := by decide +kernel
theorem dX9_print_19 : decode cX9_print 19 = .ok (.getfield 56, 3) := by decide +kernel
theorem dX9_print_22 : decode cX9_print 22 = .ok (.getfield 139, 3) := by decide +kernel
theorem dX9_print_25 : decode cX9_print 25 = .ok (.invokevirtual 219, 3) := by decide +kernel
theorem dX9_print_28 : decode cX9_print 28 = .ok (.istore_n 1, 1) := by decide +kernel
theorem dX9_print_29 : decode cX9_print 29 = .ok (.iload_n 1, 1) := by decide +kernel
theorem dX9_print_30 : decode cX9_print 30 = .ok (.aload_n 0, 1) := by decide +kernel
theorem dX9_print_31 : decode cX9_print 31 = .ok (.getfield 56, 3) := by decide +kernel
theorem dX9_print_34 : decode cX9_print 34 = .ok (.getfield 206, 3) := by decide +kernel
theorem dX9_print_37 : decode cX9_print 37 = .ok (.iconst 0, 1) := by decide +kernel
theorem dX9_print_38 : decode cX9_print 38 = .ok (.iaload, 1) := by decide +kernel
theorem dX9_print_39 : decode cX9_print 39 = .ok (.if_icmp .lt 16, 3) := by decide +kernel
theorem dX9_print_42 : decode cX9_print 42 = .ok (.iload_n 1, 1) := by decide +kernel
theorem dX9_print_43 : decode cX9_print 43 = .ok (.aload_n 0, 1) := by decide +kernel
theorem dX9_print_44 : decode cX9_print 44 = .ok (.getfield 56, 3) := by decide +kernel
theorem dX9_print_47 : decode cX9_print 47 = .ok (.getfield 206, 3) := by decide +kernel
theorem dX9_print_50 : decode cX9_print 50 = .ok (.iconst 1, 1) := by decide +kernel
theorem dX9_print_51 : decode cX9_print 51 = .ok (.iaload, 1) := by decide +kernel
theorem dX9_print_52 : decode cX9_print 52 = .ok (.if_icmp .le 7, 3) := by decide +kernel
theorem dX9_print_55 : decode cX9_print 55 = .ok (.sipush (-1003), 3) := by decide +kernel
theorem dX9_print_58 : decode cX9_print 58 = .ok (.ireturn, 1) := by decide +kernel
theorem dX9_print_59 : decode cX9_print 59 = .ok (.aload_n 0, 1) := by decide +kernel
theorem dX9_print_60 : decode cX9_print 60 = .ok (.getfield 56, 3) := by decide +kernel
theorem dX9_print_63 : decode cX9_print 63 = .ok (.getfield 139, 3) := by decide +kernel
theorem dX9_print_66 : decode cX9_print 66 = .ok (.bipush 12, 2) := by decide +kernel
theorem dX9_print_68 : decode cX9_print 68 = .ok (.if_icmp .lt 7, 3) := by decide +kernel
theorem dX9_print_71 : decode cX9_print 71 = .ok (.sipush (-1004), 3) := by decide +kernel
theorem dX9_print_74 : decode cX9_print 74 = .ok (.ireturn, 1) := by decide +kernel
theorem dX9_print_75 : decode cX9_print 75 = .ok (.aload_n 0, 1) := by decide +kernel
theorem dX9_print_76 : decode cX9_print 76 = .ok (.getfield 56, 3) := by decide +kernel
theorem dX9_print_79 : decode cX9_print 79 = .ok (.invokevirtual 222, 3) := by decide +kernel
theorem dX9_print_82 : decode cX9_print 82 = .ok (.aload_n 0, 1) := by decide +kernel
theorem dX9_print_83 : decode cX9_print 83 = .ok (.invokevirtual 106, 3) := by decide +kernel
theorem dX9_print_86 : decode cX9_print 86 = .ok (.aload_n 0, 1) := by decide +kernel
theorem dX9_print_87 : decode cX9_print 87 = .ok (.getfield 56, 3) := by decide +kernel
theorem dX9_print_90 : decode cX9_print 90 = .ok (.getfield 139, 3) := by decide +kernel
theorem dX9_print_93 : decode cX9_print 93 = .ok (.iconst 1, 1) := by decide +kernel
theorem dX9_print_94 : decode cX9_print 94 = .ok (.isub, 1) := by decide +kernel
theorem dX9_print_95 : decode cX9_print 95 = .ok (.ireturn, 1) := by decide +kernel
theorem dX9_number_0 : decode cX9_number 0 = .ok (.iload_n 1, 1) := by decide +kernel
theorem dX9_number_1 : decode cX9_number 1 = .ok (.ifCond .lt 14, 3) := by decide +kernel
theorem dX9_number_4 : decode cX9_number 4 = .ok (.iload_n 1, 1) := by decide +kernel
theorem dX9_number_5 : decode cX9_number 5 = .ok (.aload_n 0, 1) := by decide +kernel
theorem dX9_number_6 : decode cX9_number 6 = .ok (.getfield 56, 3) := by decide +kernel
theorem dX9_number_9 : decode cX9_number 9 = .ok (.getfield 139, 3) := by decide +kernel
theorem dX9_number_12 : decode cX9_number 12 = .ok (.if_icmp .lt 7, 3) := by decide +kernel
theorem dX9_number_15 : decode cX9_number 15 = .ok (.sipush (-1001), 3) := by decide +kernel
theorem dX9_number_18 : decode cX9_number 18 = .ok (.ireturn, 1) := by decide +kernel
theorem dX9_number_19 : decode cX9_number 19 = .ok (.iload_n 2, 1) := by decide +kernel
theorem dX9_number_20 : decode cX9_number 20 = .ok (.tableswitch 103 0 5 #[40, 58, 67, 76, 85, 94], 40) := by decide +kernel
theorem dX9_number_60 : decode cX9_number 60 = .ok (.aload_n 0, 1) := by decide +kernel
theorem dX9_number_61 : decode cX9_number 61 = .ok (.getfield 56, 3) := by decide +kernel
theorem dX9_number_64 : decode cX9_number 64 = .ok (.iload_n 1, 1) := by decide +kernel
theorem dX9_number_65 : decode cX9_number 65 = .ok (.invokevirtual 225, 3) := by decide +kernel
theorem dX9_number_68 : decode cX9_number 68 = .ok (.aload_n 0, 1) := by decide +kernel
theorem dX9_number_69 : decode cX9_number 69 = .ok (.getfield 56, 3) := by decide +kernel
theorem dX9_number_72 : decode cX9_number 72 = .ok (.iload_n 1, 1) := by decide +kernel
theorem dX9_number_73 : decode cX9_number 73 = .ok (.invokevirtual 228, 3) := by decide +kernel
theorem dX9_number_76 : decode cX9_number 76 = .ok (.isub, 1) := by decide +kernel
theorem dX9_number_77 : decode cX9_number 77 = .ok (.ireturn, 1) := by decide +kernel
theorem dX9_number_78 : decode cX9_number 78 = .ok (.aload_n 0, 1) := by decide +kernel
theorem dX9_number_79 : decode cX9_number 79 = .ok (.getfield 65, 3) := by decide +kernel
theorem dX9_number_82 : decode cX9_number 82 = .ok (.iload_n 1, 1) := by decide +kernel
theorem dX9_number_83 : decode cX9_number 83 = .ok (.invokevirtual 219, 3) := by decide +kernel
theorem dX9_number_86 : decode cX9_number 86 = .ok (.ireturn, 1) := by decide +kernel
theorem dX9_number_87 : decode cX9_number 87 = .ok (.aload_n 0, 1) := by decide +kernel
theorem dX9_number_88 : decode cX9_number 88 = .ok (.getfield 65, 3) := by decide +kernel
theorem dX9_number_91 : decode cX9_number 91 = .ok (.iload_n 1, 1) := by decide +kernel
theorem dX9_number_92 : decode cX9_number 92 = .ok (.invokevirtual 231, 3) := by decide +kernel
theorem dX9_number_95 : decode cX9_number 95 = .ok (.ireturn, 1) := by decide +kernel
theorem dX9_number_96 : decode cX9_number 96 = .ok (.aload_n 0, 1) := by decide +kernel
theorem dX9_number_97 : decode cX9_number 97 = .ok (.getfield 65, 3) := by decide +kernel
theorem dX9_number_100 : decode cX9_number 100 = .ok (.iload_n 1, 1) := by decide +kernel
theorem dX9_number_101 : decode cX9_number 101 = .ok (.invokevirtual 234, 3) := by decide +kernel
theorem dX9_number_104 : decode cX9_number 104 = .ok (.ireturn, 1) := by decide +kernel
theorem dX9_number_105 : decode cX9_number 105 = .ok (.aload_n 0, 1) := by decide +kernel
theorem dX9_number_106 : decode cX9_number 106 = .ok (.getfield 65, 3) := by decide +kernel
theorem dX9_number_109 : decode cX9_number 109 = .ok (.iload_n 1, 1) := by decide +kernel
theorem dX9_number_110 : decode cX9_number 110 = .ok (.invokevirtual 237, 3) := by decide +kernel
theorem dX9_number_113 : decode cX9_number 113 = .ok (.ireturn, 1) := by decide +kernel
theorem dX9_number_114 : decode cX9_number 114 = .ok (.aload_n 0, 1) := by decide +kernel
theorem dX9_number_115 : decode cX9_number 115 = .ok (.getfield 65, 3) := by decide +kernel
theorem dX9_number_118 : decode cX9_number 118 = .ok (.iload_n 1, 1) := by decide +kernel
theorem dX9_number_119 : decode cX9_number 119 = .ok (.invokevirtual 240, 3) := by decide +kernel
theorem dX9_number_122 : decode cX9_number 122 = .ok (.ireturn, 1) := by decide +kernel
theorem dX9_number_123 : decode cX9_number 123 = .ok (.iload_n 2, 1) := by decide +kernel
theorem dX9_number_124 : decode cX9_number 124 = .ok (.bipush 6, 2) := by decide +kernel
theorem dX9_number_126 : decode cX9_number 126 = .ok (.if_icmp .lt 9, 3) := by decide +kernel
theorem dX9_number_129 : decode cX9_number 129 = .ok (.iload_n 2, 1) := by decide +kernel
theorem dX9_number_130 : decode cX9_number 130 = .ok (.bipush 11, 2) := by decide +kernel
theorem dX9_number_132 : decode cX9_number 132 = .ok (.if_icmp .le 9, 3) := by decide +kernel
theorem dX9_number_135 : decode cX9_number 135 = .ok (.sipush (-1002), 3) := by decide +kernel
theorem dX9_number_138 : decode cX9_number 138 = .ok (.goto 15, 3) := by decide +kernel
theorem dX9_number_141 : decode cX9_number 141 = .ok (.aload_n 0, 1) := by decide +kernel
theorem dX9_number_142 : decode cX9_number 142 = .ok (.getfield 56, 3) := by decide +kernel
theorem dX9_number_145 : decode cX9_number 145 = .ok (.iload_n 1, 1) := by decide +kernel
theorem dX9_number_146 : decode cX9_number 146 = .ok (.iload_n 2, 1) := by decide +kernel
theorem dX9_number_147 : decode cX9_number 147 = .ok (.bipush 6, 2) := by decide +kernel
theorem dX9_number_149 : decode cX9_number 149 = .ok (.isub, 1) := by decide +kernel
theorem dX9_number_150 : decode cX9_number 150 = .ok (.invokevirtual 243, 3) := by decide +kernel
theorem dX9_number_153 : decode cX9_number 153 = .ok (.ireturn, 1) := by decide +kernel
theorem dX9_readers_0 : decode cX9_readers 0 = .ok (.aload_n 0, 1) := by decide +kernel
theorem dX9_readers_1 : decode cX9_readers 1 = .ok (.getfield 65, 3) := by decide +kernel
theorem dX9_readers_4 : decode cX9_readers 4 = .ok (.aload_n 0, 1) := by decide +kernel
theorem dX9_readers_5 : decode cX9_readers 5 = .ok (.getfield 56, 3) := by decide +kernel
theorem dX9_readers_8 : decode cX9_readers 8 = .ok (.getfield 139, 3) := by decide +kernel
theorem dX9_readers_11 : decode cX9_readers 11 = .ok (.iconst 1, 1) := by decide +kernel
theorem dX9_readers_12 : decode cX9_readers 12 = .ok (.isub, 1) := by decide +kernel
theorem dX9_readers_13 : decode cX9_readers 13 = .ok (.invokevirtual 234, 3) := by decide +kernel
theorem dX9_readers_16 : decode cX9_readers 16 = .ok (.ireturn, 1) := by decide +kernel
theorem dX9_plan_0 : decode cX9_plan 0 = .ok (.aload_n 0, 1) := by decide +kernel
theorem dX9_plan_1 : decode cX9_plan 1 = .ok (.iload_n 2, 1) := by decide +kernel
theorem dX9_plan_2 : decode cX9_plan 2 = .ok (.invokevirtual 162, 3) := by decide +kernel
theorem dX9_plan_5 : decode cX9_plan 5 = .ok (.ifCond .eq 22, 3) := by decide +kernel
theorem dX9_plan_8 : decode cX9_plan 8 = .ok (.iload_n 2, 1) := by decide +kernel
theorem dX9_plan_9 : decode cX9_plan 9 = .ok (.aload_n 0, 1) := by decide +kernel
theorem dX9_plan_10 : decode cX9_plan 10 = .ok (.getfield 56, 3) := by decide +kernel
theorem dX9_plan_13 : decode cX9_plan 13 = .ok (.aload_n 0, 1) := by decide +kernel
theorem dX9_plan_14 : decode cX9_plan 14 = .ok (.getfield 56, 3) := by decide +kernel
theorem dX9_plan_17 : decode cX9_plan 17 = .ok (.invokevirtual 135, 3) := by decide +kernel
theorem dX9_plan_20 : decode cX9_plan 20 = .ok (.invokevirtual 212, 3) := by decide +kernel
theorem dX9_plan_23 : decode cX9_plan 23 = .ok (.iand, 1) := by decide +kernel
theorem dX9_plan_24 : decode cX9_plan 24 = .ok (.ifCond .eq 7, 3) := by decide +kernel
theorem dX9_plan_27 : decode cX9_plan 27 = .ok (.sipush (-1001), 3) := by decide +kernel
theorem dX9_plan_30 : decode cX9_plan 30 = .ok (.ireturn, 1) := by decide +kernel
theorem dX9_plan_31 : decode cX9_plan 31 = .ok (.iload_n 1, 1) := by decide +kernel
theorem dX9_plan_32 : decode cX9_plan 32 = .ok (.iconst 1, 1) := by decide +kernel
theorem dX9_plan_33 : decode cX9_plan 33 = .ok (.if_icmp .lt 9, 3) := by decide +kernel
theorem dX9_plan_36 : decode cX9_plan 36 = .ok (.iload_n 1, 1) := by decide +kernel
theorem dX9_plan_37 : decode cX9_plan 37 = .ok (.bipush 12, 2) := by decide +kernel
theorem dX9_plan_39 : decode cX9_plan 39 = .ok (.if_icmp .le 7, 3) := by decide +kernel
theorem dX9_plan_42 : decode cX9_plan 42 = .ok (.sipush (-1002), 3) := by decide +kernel
theorem dX9_plan_45 : decode cX9_plan 45 = .ok (.ireturn, 1) := by decide +kernel
theorem dX9_plan_46 : decode cX9_plan 46 = .ok (.aload_n 0, 1) := by decide +kernel
theorem dX9_plan_47 : decode cX9_plan 47 = .ok (.invokevirtual 246, 3) := by decide +kernel
theorem dX9_plan_50 : decode cX9_plan 50 = .ok (.astore 4, 2) := by decide +kernel
theorem dX9_plan_52 : decode cX9_plan 52 = .ok (.aload 4, 2) := by decide +kernel
theorem dX9_plan_54 : decode cX9_plan 54 = .ok (.iload_n 2, 1) := by decide +kernel
theorem dX9_plan_55 : decode cX9_plan 55 = .ok (.invokevirtual 250, 3) := by decide +kernel
theorem dX9_plan_58 : decode cX9_plan 58 = .ok (.iload_n 3, 1) := by decide +kernel
theorem dX9_plan_59 : decode cX9_plan 59 = .ok (.iconst (-1), 1) := by decide +kernel
theorem dX9_plan_60 : decode cX9_plan 60 = .ok (.if_icmp .ne 12, 3) := by decide +kernel
theorem dX9_plan_63 : decode cX9_plan 63 = .ok (.aload 4, 2) := by decide +kernel
theorem dX9_plan_65 : decode cX9_plan 65 = .ok (.iload_n 1, 1) := by decide +kernel
theorem dX9_plan_66 : decode cX9_plan 66 = .ok (.invokevirtual 255, 3) := by decide +kernel
theorem dX9_plan_69 : decode cX9_plan 69 = .ok (.goto 10, 3) := by decide +kernel
theorem dX9_plan_72 : decode cX9_plan 72 = .ok (.aload 4, 2) := by decide +kernel
theorem dX9_plan_74 : decode cX9_plan 74 = .ok (.iload_n 1, 1) := by decide +kernel
theorem dX9_plan_75 : decode cX9_plan 75 = .ok (.iload_n 3, 1) := by decide +kernel
theorem dX9_plan_76 : decode cX9_plan 76 = .ok (.invokevirtual 258, 3) := by decide +kernel
theorem dX9_plan_79 : decode cX9_plan 79 = .ok (.ireturn, 1) := by decide +kernel
theorem dX9_kind_0 : decode cX9_kind 0 = .ok (.iload_n 2, 1) := by decide +kernel
theorem dX9_kind_1 : decode cX9_kind 1 = .ok (.ifCond .lt 10, 3) := by decide +kernel
theorem dX9_kind_4 : decode cX9_kind 4 = .ok (.iload_n 2, 1) := by decide +kernel
theorem dX9_kind_5 : decode cX9_kind 5 = .ok (.sipush 256, 3) := by decide +kernel
theorem dX9_kind_8 : decode cX9_kind 8 = .ok (.if_icmp .lt 7, 3) := by decide +kernel
theorem dX9_kind_11 : decode cX9_kind 11 = .ok (.sipush (-1001), 3) := by decide +kernel
theorem dX9_kind_14 : decode cX9_kind 14 = .ok (.ireturn, 1) := by decide +kernel
theorem dX9_kind_15 : decode cX9_kind 15 = .ok (.iload_n 1, 1) := by decide +kernel
theorem dX9_kind_16 : decode cX9_kind 16 = .ok (.iconst 1, 1) := by decide +kernel
theorem dX9_kind_17 : decode cX9_kind 17 = .ok (.if_icmp .lt 18, 3) := by decide +kernel
theorem dX9_kind_20 : decode cX9_kind 20 = .ok (.iload_n 1, 1) := by decide +kernel
theorem dX9_kind_21 : decode cX9_kind 21 = .ok (.bipush 12, 2) := by decide +kernel
theorem dX9_kind_23 : decode cX9_kind 23 = .ok (.if_icmp .gt 12, 3) := by decide +kernel
theorem dX9_kind_26 : decode cX9_kind 26 = .ok (.iload_n 3, 1) := by decide +kernel
theorem dX9_kind_27 : decode cX9_kind 27 = .ok (.ifCond .lt 8, 3) := by decide +kernel
theorem dX9_kind_30 : decode cX9_kind 30 = .ok (.iload_n 3, 1) := by decide +kernel
theorem dX9_kind_31 : decode cX9_kind 31 = .ok (.iconst 1, 1) := by decide +kernel
theorem dX9_kind_32 : decode cX9_kind 32 = .ok (.if_icmp .le 7, 3) := by decide +kernel
theorem dX9_kind_35 : decode cX9_kind 35 = .ok (.sipush (-1002), 3) := by decide +kernel
theorem dX9_kind_38 : decode cX9_kind 38 = .ok (.ireturn, 1) := by decide +kernel
theorem dX9_kind_39 : decode cX9_kind 39 = .ok (.aload_n 0, 1) := by decide +kernel
theorem dX9_kind_40 : decode cX9_kind 40 = .ok (.getfield 28, 3) := by decide +kernel
theorem dX9_kind_43 : decode cX9_kind 43 = .ok (.invokevirtual 145, 3) := by decide +kernel
theorem dX9_kind_46 : decode cX9_kind 46 = .ok (.aload_n 0, 1) := by decide +kernel
theorem dX9_kind_47 : decode cX9_kind 47 = .ok (.getfield 56, 3) := by decide +kernel
theorem dX9_kind_50 : decode cX9_kind 50 = .ok (.aload_n 0, 1) := by decide +kernel
theorem dX9_kind_51 : decode cX9_kind 51 = .ok (.getfield 56, 3) := by decide +kernel
theorem dX9_kind_54 : decode cX9_kind 54 = .ok (.invokevirtual 135, 3) := by decide +kernel
theorem dX9_kind_57 : decode cX9_kind 57 = .ok (.invokevirtual 212, 3) := by decide +kernel
theorem dX9_kind_60 : decode cX9_kind 60 = .ok (.iconst (-1), 1) := by decide +kernel
theorem dX9_kind_61 : decode cX9_kind 61 = .ok (.ixor, 1) := by decide +kernel
theorem dX9_kind_62 : decode cX9_kind 62 = .ok (.iand, 1) := by decide +kernel
theorem dX9_kind_63 : decode cX9_kind 63 = .ok (.aload_n 0, 1) := by decide +kernel
theorem dX9_kind_64 : decode cX9_kind 64 = .ok (.getfield 28, 3) := by decide +kernel
theorem dX9_kind_67 : decode cX9_kind 67 = .ok (.iload_n 2, 1) := by decide +kernel
theorem dX9_kind_68 : decode cX9_kind 68 = .ok (.invokevirtual 261, 3) := by decide +kernel
theorem dX9_kind_71 : decode cX9_kind 71 = .ok (.iconst (-1), 1) := by decide +kernel
theorem dX9_kind_72 : decode cX9_kind 72 = .ok (.ixor, 1) := by decide +kernel
theorem dX9_kind_73 : decode cX9_kind 73 = .ok (.iand, 1) := by decide +kernel
theorem dX9_kind_74 : decode cX9_kind 74 = .ok (.istore 4, 2) := by decide +kernel
theorem dX9_kind_76 : decode cX9_kind 76 = .ok (.aload_n 0, 1) := by decide +kernel
theorem dX9_kind_77 : decode cX9_kind 77 = .ok (.invokevirtual 246, 3) := by decide +kernel
theorem dX9_kind_80 : decode cX9_kind 80 = .ok (.astore 5, 2) := by decide +kernel
theorem dX9_kind_82 : decode cX9_kind 82 = .ok (.aload 5, 2) := by decide +kernel
theorem dX9_kind_84 : decode cX9_kind 84 = .ok (.iload 4, 2) := by decide +kernel
theorem dX9_kind_86 : decode cX9_kind 86 = .ok (.invokevirtual 264, 3) := by decide +kernel
theorem dX9_kind_89 : decode cX9_kind 89 = .ok (.aload 5, 2) := by decide +kernel
theorem dX9_kind_91 : decode cX9_kind 91 = .ok (.iload_n 1, 1) := by decide +kernel
theorem dX9_kind_92 : decode cX9_kind 92 = .ok (.iload 4, 2) := by decide +kernel
theorem dX9_kind_94 : decode cX9_kind 94 = .ok (.invokevirtual 267, 3) := by decide +kernel
theorem dX9_kind_97 : decode cX9_kind 97 = .ok (.istore 6, 2) := by decide +kernel
theorem dX9_kind_99 : decode cX9_kind 99 = .ok (.iload_n 3, 1) := by decide +kernel
theorem dX9_kind_100 : decode cX9_kind 100 = .ok (.ifCond .eq 9, 3) := by decide +kernel
theorem dX9_kind_103 : decode cX9_kind 103 = .ok (.iload 6, 2) := by decide +kernel
theorem dX9_kind_105 : decode cX9_kind 105 = .ok (.iconst (-1), 1) := by decide +kernel
theorem dX9_kind_106 : decode cX9_kind 106 = .ok (.if_icmp .ne 8, 3) := by decide +kernel
theorem dX9_kind_109 : decode cX9_kind 109 = .ok (.iload 6, 2) := by decide +kernel
theorem dX9_kind_111 : decode cX9_kind 111 = .ok (.goto 11, 3) := by decide +kernel
theorem dX9_kind_114 : decode cX9_kind 114 = .ok (.aload 5, 2) := by decide +kernel
theorem dX9_kind_116 : decode cX9_kind 116 = .ok (.iload_n 1, 1) := by decide +kernel
theorem dX9_kind_117 : decode cX9_kind 117 = .ok (.iload 6, 2) := by decide +kernel
theorem dX9_kind_119 : decode cX9_kind 119 = .ok (.invokevirtual 270, 3) := by decide +kernel
theorem dX9_kind_122 : decode cX9_kind 122 = .ok (.ireturn, 1) := by decide +kernel
theorem dX9_chapter_0 : decode cX9_chapter 0 = .ok (.iload_n 1, 1) := by decide +kernel
theorem dX9_chapter_1 : decode cX9_chapter 1 = .ok (.iconst 1, 1) := by decide +kernel
theorem dX9_chapter_2 : decode cX9_chapter 2 = .ok (.if_icmp .lt 9, 3) := by decide +kernel
theorem dX9_chapter_5 : decode cX9_chapter 5 = .ok (.iload_n 1, 1) := by decide +kernel
theorem dX9_chapter_6 : decode cX9_chapter 6 = .ok (.bipush 8, 2) := by decide +kernel
theorem dX9_chapter_8 : decode cX9_chapter 8 = .ok (.if_icmp .le 7, 3) := by decide +kernel
theorem dX9_chapter_11 : decode cX9_chapter 11 = .ok (.sipush (-1002), 3) := by decide +kernel
theorem dX9_chapter_14 : decode cX9_chapter 14 = .ok (.ireturn, 1) := by decide +kernel
theorem dX9_chapter_15 : decode cX9_chapter 15 = .ok (.aload_n 0, 1) := by decide +kernel
theorem dX9_chapter_16 : decode cX9_chapter 16 = .ok (.getfield 56, 3) := by decide +kernel
theorem dX9_chapter_19 : decode cX9_chapter 19 = .ok (.invokevirtual 135, 3) := by decide +kernel
theorem dX9_chapter_22 : decode cX9_chapter 22 = .ok (.iload_n 1, 1) := by decide +kernel
theorem dX9_chapter_23 : decode cX9_chapter 23 = .ok (.if_icmp .ge 7, 3) := by decide +kernel
theorem dX9_chapter_26 : decode cX9_chapter 26 = .ok (.sipush (-1003), 3) := by decide +kernel
theorem dX9_chapter_29 : decode cX9_chapter 29 = .ok (.ireturn, 1) := by decide +kernel
theorem dX9_chapter_30 : decode cX9_chapter 30 = .ok (.iload_n 2, 1) := by decide +kernel
theorem dX9_chapter_31 : decode cX9_chapter 31 = .ok (.iconst (-1), 1) := by decide +kernel
theorem dX9_chapter_32 : decode cX9_chapter 32 = .ok (.if_icmp .eq 16, 3) := by decide +kernel
theorem dX9_chapter_35 : decode cX9_chapter 35 = .ok (.iload_n 2, 1) := by decide +kernel
theorem dX9_chapter_36 : decode cX9_chapter 36 = .ok (.ifCond .lt 8, 3) := by decide +kernel
theorem dX9_chapter_39 : decode cX9_chapter 39 = .ok (.iload_n 2, 1) := by decide +kernel
theorem dX9_chapter_40 : decode cX9_chapter 40 = .ok (.iload_n 1, 1) := by decide +kernel
theorem dX9_chapter_41 : decode cX9_chapter 41 = .ok (.if_icmp .lt 7, 3) := by decide +kernel
theorem dX9_chapter_44 : decode cX9_chapter 44 = .ok (.sipush (-1001), 3) := by decide +kernel
theorem dX9_chapter_47 : decode cX9_chapter 47 = .ok (.ireturn, 1) := by decide +kernel
theorem dX9_chapter_48 : decode cX9_chapter 48 = .ok (.aload_n 0, 1) := by decide +kernel
theorem dX9_chapter_49 : decode cX9_chapter 49 = .ok (.getfield 72, 3) := by decide +kernel
theorem dX9_chapter_52 : decode cX9_chapter 52 = .ok (.iload_n 1, 1) := by decide +kernel
theorem dX9_chapter_53 : decode cX9_chapter 53 = .ok (.invokevirtual 273, 3) := by decide +kernel
theorem dX9_chapter_56 : decode cX9_chapter 56 = .ok (.iload_n 2, 1) := by decide +kernel
theorem dX9_chapter_57 : decode cX9_chapter 57 = .ok (.iconst (-1), 1) := by decide +kernel
theorem dX9_chapter_58 : decode cX9_chapter 58 = .ok (.if_icmp .ne 14, 3) := by decide +kernel
theorem dX9_chapter_61 : decode cX9_chapter 61 = .ok (.aload_n 0, 1) := by decide +kernel
theorem dX9_chapter_62 : decode cX9_chapter 62 = .ok (.getfield 72, 3) := by decide +kernel
theorem dX9_chapter_65 : decode cX9_chapter 65 = .ok (.iload_n 1, 1) := by decide +kernel
theorem dX9_chapter_66 : decode cX9_chapter 66 = .ok (.invokevirtual 276, 3) := by decide +kernel
theorem dX9_chapter_69 : decode cX9_chapter 69 = .ok (.goto 12, 3) := by decide +kernel
theorem dX9_chapter_72 : decode cX9_chapter 72 = .ok (.aload_n 0, 1) := by decide +kernel
theorem dX9_chapter_73 : decode cX9_chapter 73 = .ok (.getfield 72, 3) := by decide +kernel
theorem dX9_chapter_76 : decode cX9_chapter 76 = .ok (.iload_n 1, 1) := by decide +kernel
theorem dX9_chapter_77 : decode cX9_chapter 77 = .ok (.iload_n 2, 1) := by decide +kernel
theorem dX9_chapter_78 : decode cX9_chapter 78 = .ok (.invokevirtual 279, 3) := by decide +kernel
theorem dX9_chapter_81 : decode cX9_chapter 81 = .ok (.ireturn, 1) := by decide +kernel
theorem dX9_keep_0 : decode cX9_keep 0 = .ok (.iload_n 1, 1) := by decide +kernel
theorem dX9_keep_1 : decode cX9_keep 1 = .ok (.ifCond .lt 8, 3) := by decide +kernel
theorem dX9_keep_4 : decode cX9_keep 4 = .ok (.iload_n 1, 1) := by decide +kernel
theorem dX9_keep_5 : decode cX9_keep 5 = .ok (.iconst 2, 1) := by decide +kernel
theorem dX9_keep_6 : decode cX9_keep 6 = .ok (.if_icmp .lt 7, 3) := by decide +kernel
theorem dX9_keep_9 : decode cX9_keep 9 = .ok (.sipush (-1001), 3) := by decide +kernel
theorem dX9_keep_12 : decode cX9_keep 12 = .ok (.ireturn, 1) := by decide +kernel
theorem dX9_keep_13 : decode cX9_keep 13 = .ok (.aload_n 0, 1) := by decide +kernel
end
section
theorem dX9_keep_14 : decode cX9_keep 14 = .ok (.getfield 76, 3) := by decide +kernel
theorem dX9_keep_17 : decode cX9_keep 17 = .ok (.iload_n 1, 1) := by decide +kernel
theorem dX9_keep_18 : decode cX9_keep 18 = .ok (.aaload, 1) := by decide +kernel
theorem dX9_keep_19 : decode cX9_keep 19 = .ok (.aload_n 0, 1) := by decide +kernel
theorem dX9_keep_20 : decode cX9_keep 20 = .ok (.getfield 56, 3) := by decide +kernel
theorem dX9_keep_23 : decode cX9_keep 23 = .ok (.invokevirtual 282, 3) := by decide +kernel
theorem dX9_keep_26 : decode cX9_keep 26 = .ok (.aload_n 0, 1) := by decide +kernel
theorem dX9_keep_27 : decode cX9_keep 27 = .ok (.getfield 80, 3) := by decide +kernel
theorem dX9_keep_30 : decode cX9_keep 30 = .ok (.iload_n 1, 1) := by decide +kernel
theorem dX9_keep_31 : decode cX9_keep 31 = .ok (.iconst 1, 1) := by decide +kernel
theorem dX9_keep_32 : decode cX9_keep 32 = .ok (.bastore, 1) := by decide +kernel
theorem dX9_keep_33 : decode cX9_keep 33 = .ok (.iconst 1, 1) := by decide +kernel
theorem dX9_keep_34 : decode cX9_keep 34 = .ok (.ireturn, 1) := by decide +kernel
theorem dX9_goBack_0 : decode cX9_goBack 0 = .ok (.iload_n 1, 1) := by decide +kernel
theorem dX9_goBack_1 : decode cX9_goBack 1 = .ok (.ifCond .lt 8, 3) := by decide +kernel
theorem dX9_goBack_4 : decode cX9_goBack 4 = .ok (.iload_n 1, 1) := by decide +kernel
theorem dX9_goBack_5 : decode cX9_goBack 5 = .ok (.iconst 2, 1) := by decide +kernel
theorem dX9_goBack_6 : decode cX9_goBack 6 = .ok (.if_icmp .lt 7, 3) := by decide +kernel
theorem dX9_goBack_9 : decode cX9_goBack 9 = .ok (.sipush (-1001), 3) := by decide +kernel
theorem dX9_goBack_12 : decode cX9_goBack 12 = .ok (.ireturn, 1) := by decide +kernel
theorem dX9_goBack_13 : decode cX9_goBack 13 = .ok (.aload_n 0, 1) := by decide +kernel
theorem dX9_goBack_14 : decode cX9_goBack 14 = .ok (.getfield 80, 3) := by decide +kernel
theorem dX9_goBack_17 : decode cX9_goBack 17 = .ok (.iload_n 1, 1) := by decide +kernel
theorem dX9_goBack_18 : decode cX9_goBack 18 = .ok (.baload, 1) := by decide +kernel
theorem dX9_goBack_19 : decode cX9_goBack 19 = .ok (.ifCond .ne 7, 3) := by decide +kernel
theorem dX9_goBack_22 : decode cX9_goBack 22 = .ok (.sipush (-1003), 3) := by decide +kernel
theorem dX9_goBack_25 : decode cX9_goBack 25 = .ok (.ireturn, 1) := by decide +kernel
theorem dX9_goBack_26 : decode cX9_goBack 26 = .ok (.aload_n 0, 1) := by decide +kernel
theorem dX9_goBack_27 : decode cX9_goBack 27 = .ok (.getfield 56, 3) := by decide +kernel
theorem dX9_goBack_30 : decode cX9_goBack 30 = .ok (.aload_n 0, 1) := by decide +kernel
theorem dX9_goBack_31 : decode cX9_goBack 31 = .ok (.getfield 76, 3) := by decide +kernel
theorem dX9_goBack_34 : decode cX9_goBack 34 = .ok (.iload_n 1, 1) := by decide +kernel
theorem dX9_goBack_35 : decode cX9_goBack 35 = .ok (.aaload, 1) := by decide +kernel
theorem dX9_goBack_36 : decode cX9_goBack 36 = .ok (.invokevirtual 282, 3) := by decide +kernel
theorem dX9_goBack_39 : decode cX9_goBack 39 = .ok (.aload_n 0, 1) := by decide +kernel
theorem dX9_goBack_40 : decode cX9_goBack 40 = .ok (.invokevirtual 106, 3) := by decide +kernel
theorem dX9_goBack_43 : decode cX9_goBack 43 = .ok (.iconst 1, 1) := by decide +kernel
theorem dX9_goBack_44 : decode cX9_goBack 44 = .ok (.ireturn, 1) := by decide +kernel
theorem dX9_isScene_0 : decode cX9_isScene 0 = .ok (.iload_n 1, 1) := by decide +kernel
theorem dX9_isScene_1 : decode cX9_isScene 1 = .ok (.ifCond .lt 18, 3) := by decide +kernel
theorem dX9_isScene_4 : decode cX9_isScene 4 = .ok (.iload_n 1, 1) := by decide +kernel
theorem dX9_isScene_5 : decode cX9_isScene 5 = .ok (.aload_n 0, 1) := by decide +kernel
theorem dX9_isScene_6 : decode cX9_isScene 6 = .ok (.getfield 28, 3) := by decide +kernel
theorem dX9_isScene_9 : decode cX9_isScene 9 = .ok (.getfield 109, 3) := by decide +kernel
theorem dX9_isScene_12 : decode cX9_isScene 12 = .ok (.if_icmp .ge 7, 3) := by decide +kernel
theorem dX9_isScene_15 : decode cX9_isScene 15 = .ok (.iconst 1, 1) := by decide +kernel
theorem dX9_isScene_16 : decode cX9_isScene 16 = .ok (.goto 4, 3) := by decide +kernel
theorem dX9_isScene_19 : decode cX9_isScene 19 = .ok (.iconst 0, 1) := by decide +kernel
theorem dX9_isScene_20 : decode cX9_isScene 20 = .ok (.ireturn, 1) := by decide +kernel
theorem dX9_areScenes_0 : decode cX9_areScenes 0 = .ok (.iload_n 1, 1) := by decide +kernel
theorem dX9_areScenes_1 : decode cX9_areScenes 1 = .ok (.aload_n 0, 1) := by decide +kernel
theorem dX9_areScenes_2 : decode cX9_areScenes 2 = .ok (.getfield 28, 3) := by decide +kernel
theorem dX9_areScenes_5 : decode cX9_areScenes 5 = .ok (.invokevirtual 145, 3) := by decide +kernel
theorem dX9_areScenes_8 : decode cX9_areScenes 8 = .ok (.iconst (-1), 1) := by decide +kernel
theorem dX9_areScenes_9 : decode cX9_areScenes 9 = .ok (.ixor, 1) := by decide +kernel
theorem dX9_areScenes_10 : decode cX9_areScenes 10 = .ok (.iand, 1) := by decide +kernel
theorem dX9_areScenes_11 : decode cX9_areScenes 11 = .ok (.ifCond .ne 7, 3) := by decide +kernel
theorem dX9_areScenes_14 : decode cX9_areScenes 14 = .ok (.iconst 1, 1) := by decide +kernel
theorem dX9_areScenes_15 : decode cX9_areScenes 15 = .ok (.goto 4, 3) := by decide +kernel
theorem dX9_areScenes_18 : decode cX9_areScenes 18 = .ok (.iconst 0, 1) := by decide +kernel
theorem dX9_areScenes_19 : decode cX9_areScenes 19 = .ok (.ireturn, 1) := by decide +kernel
theorem dX9_freshSets_0 : decode cX9_freshSets 0 = .ok (.aload_n 0, 1) := by decide +kernel
theorem dX9_freshSets_1 : decode cX9_freshSets 1 = .ok (.getfield 49, 3) := by decide +kernel
theorem dX9_freshSets_4 : decode cX9_freshSets 4 = .ok (.getfield 102, 3) := by decide +kernel
theorem dX9_freshSets_7 : decode cX9_freshSets 7 = .ok (.ifCond .ne 10, 3) := by decide +kernel
theorem dX9_freshSets_10 : decode cX9_freshSets 10 = .ok (.aload_n 0, 1) := by decide +kernel
theorem dX9_freshSets_11 : decode cX9_freshSets 11 = .ok (.getfield 49, 3) := by decide +kernel
theorem dX9_freshSets_14 : decode cX9_freshSets 14 = .ok (.invokevirtual 285, 3) := by decide +kernel
theorem dX9_freshSets_17 : decode cX9_freshSets 17 = .ok (.aload_n 0, 1) := by decide +kernel
theorem dX9_freshSets_18 : decode cX9_freshSets 18 = .ok (.getfield 49, 3) := by decide +kernel
theorem dX9_freshSets_21 : decode cX9_freshSets 21 = .ok (.areturn, 1) := by decide +kernel
theorem dX9_freshPlans_0 : decode cX9_freshPlans 0 = .ok (.aload_n 0, 1) := by decide +kernel
theorem dX9_freshPlans_1 : decode cX9_freshPlans 1 = .ok (.invokevirtual 168, 3) := by decide +kernel
theorem dX9_freshPlans_4 : decode cX9_freshPlans 4 = .ok (.astore_n 1, 1) := by decide +kernel
theorem dX9_freshPlans_5 : decode cX9_freshPlans 5 = .ok (.aload_n 0, 1) := by decide +kernel
theorem dX9_freshPlans_6 : decode cX9_freshPlans 6 = .ok (.getfield 288, 3) := by decide +kernel
theorem dX9_freshPlans_9 : decode cX9_freshPlans 9 = .ok (.ifnonnull 23, 3) := by decide +kernel
theorem dX9_freshPlans_12 : decode cX9_freshPlans 12 = .ok (.aload_n 0, 1) := by decide +kernel
theorem dX9_freshPlans_13 : decode cX9_freshPlans 13 = .ok (.new 251, 3) := by decide +kernel
theorem dX9_freshPlans_16 : decode cX9_freshPlans 16 = .ok (.dup, 1) := by decide +kernel
theorem dX9_freshPlans_17 : decode cX9_freshPlans 17 = .ok (.aload_n 0, 1) := by decide +kernel
theorem dX9_freshPlans_18 : decode cX9_freshPlans 18 = .ok (.getfield 28, 3) := by decide +kernel
theorem dX9_freshPlans_21 : decode cX9_freshPlans 21 = .ok (.aload_n 1, 1) := by decide +kernel
theorem dX9_freshPlans_22 : decode cX9_freshPlans 22 = .ok (.aload_n 0, 1) := by decide +kernel
theorem dX9_freshPlans_23 : decode cX9_freshPlans 23 = .ok (.getfield 56, 3) := by decide +kernel
theorem dX9_freshPlans_26 : decode cX9_freshPlans 26 = .ok (.invokespecial 292, 3) := by decide +kernel
theorem dX9_freshPlans_29 : decode cX9_freshPlans 29 = .ok (.putfield 288, 3) := by decide +kernel
theorem dX9_freshPlans_32 : decode cX9_freshPlans 32 = .ok (.aload_n 0, 1) := by decide +kernel
theorem dX9_freshPlans_33 : decode cX9_freshPlans 33 = .ok (.getfield 288, 3) := by decide +kernel
theorem dX9_freshPlans_36 : decode cX9_freshPlans 36 = .ok (.areturn, 1) := by decide +kernel
theorem dX9_forgetPlans_0 : decode cX9_forgetPlans 0 = .ok (.aload_n 0, 1) := by decide +kernel
theorem dX9_forgetPlans_1 : decode cX9_forgetPlans 1 = .ok (.getfield 288, 3) := by decide +kernel
theorem dX9_forgetPlans_4 : decode cX9_forgetPlans 4 = .ok (.ifnull 10, 3) := by decide +kernel
theorem dX9_forgetPlans_7 : decode cX9_forgetPlans 7 = .ok (.aload_n 0, 1) := by decide +kernel
theorem dX9_forgetPlans_8 : decode cX9_forgetPlans 8 = .ok (.getfield 288, 3) := by decide +kernel
theorem dX9_forgetPlans_11 : decode cX9_forgetPlans 11 = .ok (.invokevirtual 295, 3) := by decide +kernel
theorem dX9_forgetPlans_14 : decode cX9_forgetPlans 14 = .ok (.return_, 1) := by decide +kernel
theorem dX10_init_0 : decode cX10_init 0 = .ok (.aload_n 0, 1) := by decide +kernel
theorem dX10_init_1 : decode cX10_init 1 = .ok (.invokespecial 1, 3) := by decide +kernel
theorem dX10_init_4 : decode cX10_init 4 = .ok (.aload_n 0, 1) := by decide +kernel
theorem dX10_init_5 : decode cX10_init 5 = .ok (.bipush 10, 2) := by decide +kernel
theorem dX10_init_7 : decode cX10_init 7 = .ok (.newarray .int, 2) := by decide +kernel
theorem dX10_init_9 : decode cX10_init 9 = .ok (.putfield 7, 3) := by decide +kernel
theorem dX10_init_12 : decode cX10_init 12 = .ok (.aload_n 0, 1) := by decide +kernel
theorem dX10_init_13 : decode cX10_init 13 = .ok (.bipush 10, 2) := by decide +kernel
theorem dX10_init_15 : decode cX10_init 15 = .ok (.newarray .int, 2) := by decide +kernel
theorem dX10_init_17 : decode cX10_init 17 = .ok (.putfield 13, 3) := by decide +kernel
theorem dX10_init_20 : decode cX10_init 20 = .ok (.aload_n 0, 1) := by decide +kernel
theorem dX10_init_21 : decode cX10_init 21 = .ok (.bipush 80, 2) := by decide +kernel
theorem dX10_init_23 : decode cX10_init 23 = .ok (.newarray .int, 2) := by decide +kernel
theorem dX10_init_25 : decode cX10_init 25 = .ok (.putfield 16, 3) := by decide +kernel
theorem dX10_init_28 : decode cX10_init 28 = .ok (.aload_n 0, 1) := by decide +kernel
theorem dX10_init_29 : decode cX10_init 29 = .ok (.bipush 8, 2) := by decide +kernel
theorem dX10_init_31 : decode cX10_init 31 = .ok (.newarray .int, 2) := by decide +kernel
theorem dX10_init_33 : decode cX10_init 33 = .ok (.putfield 19, 3) := by decide +kernel
theorem dX10_init_36 : decode cX10_init 36 = .ok (.aload_n 0, 1) := by decide +kernel
theorem dX10_init_37 : decode cX10_init 37 = .ok (.bipush 8, 2) := by decide +kernel
theorem dX10_init_39 : decode cX10_init 39 = .ok (.newarray .int, 2) := by decide +kernel
theorem dX10_init_41 : decode cX10_init 41 = .ok (.putfield 22, 3) := by decide +kernel
theorem dX10_init_44 : decode cX10_init 44 = .ok (.aload_n 0, 1) := by decide +kernel
theorem dX10_init_45 : decode cX10_init 45 = .ok (.sipush 400, 3) := by decide +kernel
theorem dX10_init_48 : decode cX10_init 48 = .ok (.newarray .int, 2) := by decide +kernel
theorem dX10_init_50 : decode cX10_init 50 = .ok (.putfield 25, 3) := by decide +kernel
theorem dX10_init_53 : decode cX10_init 53 = .ok (.aload_n 0, 1) := by decide +kernel
theorem dX10_init_54 : decode cX10_init 54 = .ok (.iconst (-1), 1) := by decide +kernel
theorem dX10_init_55 : decode cX10_init 55 = .ok (.putfield 28, 3) := by decide +kernel
theorem dX10_init_58 : decode cX10_init 58 = .ok (.aload_n 0, 1) := by decide +kernel
theorem dX10_init_59 : decode cX10_init 59 = .ok (.bipush 10, 2) := by decide +kernel
theorem dX10_init_61 : decode cX10_init 61 = .ok (.newarray .int, 2) := by decide +kernel
theorem dX10_init_63 : decode cX10_init 63 = .ok (.putfield 32, 3) := by decide +kernel
theorem dX10_init_66 : decode cX10_init 66 = .ok (.aload_n 0, 1) := by decide +kernel
theorem dX10_init_67 : decode cX10_init 67 = .ok (.bipush 10, 2) := by decide +kernel
theorem dX10_init_69 : decode cX10_init 69 = .ok (.newarray .int, 2) := by decide +kernel
theorem dX10_init_71 : decode cX10_init 71 = .ok (.putfield 35, 3) := by decide +kernel
theorem dX10_init_74 : decode cX10_init 74 = .ok (.aload_n 0, 1) := by decide +kernel
theorem dX10_init_75 : decode cX10_init 75 = .ok (.bipush 80, 2) := by decide +kernel
theorem dX10_init_77 : decode cX10_init 77 = .ok (.newarray .int, 2) := by decide +kernel
theorem dX10_init_79 : decode cX10_init 79 = .ok (.putfield 38, 3) := by decide +kernel
theorem dX10_init_82 : decode cX10_init 82 = .ok (.aload_n 0, 1) := by decide +kernel
theorem dX10_init_83 : decode cX10_init 83 = .ok (.sipush 1024, 3) := by decide +kernel
theorem dX10_init_86 : decode cX10_init 86 = .ok (.newarray .long, 2) := by decide +kernel
theorem dX10_init_88 : decode cX10_init 88 = .ok (.putfield 41, 3) := by decide +kernel
theorem dX10_init_91 : decode cX10_init 91 = .ok (.aload_n 0, 1) := by decide +kernel
theorem dX10_init_92 : decode cX10_init 92 = .ok (.sipush 1024, 3) := by decide +kernel
theorem dX10_init_95 : decode cX10_init 95 = .ok (.newarray .boolean, 2) := by decide +kernel
theorem dX10_init_97 : decode cX10_init 97 = .ok (.putfield 45, 3) := by decide +kernel
theorem dX10_init_100 : decode cX10_init 100 = .ok (.aload_n 0, 1) := by decide +kernel
theorem dX10_init_101 : decode cX10_init 101 = .ok (.sipush 1024, 3) := by decide +kernel
theorem dX10_init_104 : decode cX10_init 104 = .ok (.newarray .int, 2) := by decide +kernel
theorem dX10_init_106 : decode cX10_init 106 = .ok (.putfield 49, 3) := by decide +kernel
theorem dX10_init_109 : decode cX10_init 109 = .ok (.aload_n 0, 1) := by decide +kernel
theorem dX10_init_110 : decode cX10_init 110 = .ok (.sipush 1024, 3) := by decide +kernel
theorem dX10_init_113 : decode cX10_init 113 = .ok (.newarray .int, 2) := by decide +kernel
theorem dX10_init_115 : decode cX10_init 115 = .ok (.putfield 52, 3) := by decide +kernel
theorem dX10_init_118 : decode cX10_init 118 = .ok (.aload_n 0, 1) := by decide +kernel
theorem dX10_init_119 : decode cX10_init 119 = .ok (.bipush 12, 2) := by decide +kernel
theorem dX10_init_121 : decode cX10_init 121 = .ok (.newarray .int, 2) := by decide +kernel
theorem dX10_init_123 : decode cX10_init 123 = .ok (.putfield 55, 3) := by decide +kernel
theorem dX10_init_126 : decode cX10_init 126 = .ok (.aload_n 0, 1) := by decide +kernel
theorem dX10_init_127 : decode cX10_init 127 = .ok (.bipush 72, 2) := by decide +kernel
theorem dX10_init_129 : decode cX10_init 129 = .ok (.newarray .int, 2) := by decide +kernel
theorem dX10_init_131 : decode cX10_init 131 = .ok (.putfield 58, 3) := by decide +kernel
theorem dX10_init_134 : decode cX10_init 134 = .ok (.aload_n 0, 1) := by decide +kernel
theorem dX10_init_135 : decode cX10_init 135 = .ok (.bipush 6, 2) := by decide +kernel
theorem dX10_init_137 : decode cX10_init 137 = .ok (.newarray .int, 2) := by decide +kernel
theorem dX10_init_139 : decode cX10_init 139 = .ok (.putfield 61, 3) := by decide +kernel
theorem dX10_init_142 : decode cX10_init 142 = .ok (.aload_n 0, 1) := by decide +kernel
theorem dX10_init_143 : decode cX10_init 143 = .ok (.sipush 1024, 3) := by decide +kernel
theorem dX10_init_146 : decode cX10_init 146 = .ok (.newarray .boolean, 2) := by decide +kernel
theorem dX10_init_148 : decode cX10_init 148 = .ok (.putfield 64, 3) := by decide +kernel
theorem dX10_init_151 : decode cX10_init 151 = .ok (.aload_n 0, 1) := by decide +kernel
theorem dX10_init_152 : decode cX10_init 152 = .ok (.sipush 1024, 3) := by decide +kernel
theorem dX10_init_155 : decode cX10_init 155 = .ok (.newarray .int, 2) := by decide +kernel
theorem dX10_init_157 : decode cX10_init 157 = .ok (.putfield 67, 3) := by decide +kernel
theorem dX10_init_160 : decode cX10_init 160 = .ok (.aload_n 0, 1) := by decide +kernel
theorem dX10_init_161 : decode cX10_init 161 = .ok (.sipush 13312, 3) := by decide +kernel
theorem dX10_init_164 : decode cX10_init 164 = .ok (.newarray .int, 2) := by decide +kernel
theorem dX10_init_166 : decode cX10_init 166 = .ok (.putfield 70, 3) := by decide +kernel
theorem dX10_init_169 : decode cX10_init 169 = .ok (.aload_n 0, 1) := by decide +kernel
theorem dX10_init_170 : decode cX10_init 170 = .ok (.sipush 13312, 3) := by decide +kernel
theorem dX10_init_173 : decode cX10_init 173 = .ok (.newarray .int, 2) := by decide +kernel
theorem dX10_init_175 : decode cX10_init 175 = .ok (.putfield 73, 3) := by decide +kernel
theorem dX10_init_178 : decode cX10_init 178 = .ok (.aload_n 0, 1) := by decide +kernel
theorem dX10_init_179 : decode cX10_init 179 = .ok (.sipush 13312, 3) := by decide +kernel
theorem dX10_init_182 : decode cX10_init 182 = .ok (.newarray .int, 2) := by decide +kernel
theorem dX10_init_184 : decode cX10_init 184 = .ok (.putfield 76, 3) := by decide +kernel
theorem dX10_init_187 : decode cX10_init 187 = .ok (.aload_n 0, 1) := by decide +kernel
theorem dX10_init_188 : decode cX10_init 188 = .ok (.bipush 10, 2) := by decide +kernel
theorem dX10_init_190 : decode cX10_init 190 = .ok (.newarray .int, 2) := by decide +kernel
theorem dX10_init_192 : decode cX10_init 192 = .ok (.putfield 79, 3) := by decide +kernel
theorem dX10_init_195 : decode cX10_init 195 = .ok (.aload_n 0, 1) := by decide +kernel
theorem dX10_init_196 : decode cX10_init 196 = .ok (.bipush 99, 2) := by decide +kernel
theorem dX10_init_198 : decode cX10_init 198 = .ok (.newarray .int, 2) := by decide +kernel
theorem dX10_init_200 : decode cX10_init 200 = .ok (.putfield 82, 3) := by decide +kernel
theorem dX10_init_203 : decode cX10_init 203 = .ok (.aload_n 0, 1) := by decide +kernel
theorem dX10_init_204 : decode cX10_init 204 = .ok (.bipush 99, 2) := by decide +kernel
theorem dX10_init_206 : decode cX10_init 206 = .ok (.newarray .int, 2) := by decide +kernel
theorem dX10_init_208 : decode cX10_init 208 = .ok (.putfield 85, 3) := by decide +kernel
theorem dX10_init_211 : decode cX10_init 211 = .ok (.aload_n 0, 1) := by decide +kernel
theorem dX10_init_212 : decode cX10_init 212 = .ok (.sipush 220, 3) := by decide +kernel
theorem dX10_init_215 : decode cX10_init 215 = .ok (.newarray .int, 2) := by decide +kernel
theorem dX10_init_217 : decode cX10_init 217 = .ok (.putfield 88, 3) := by decide +kernel
theorem dX10_init_220 : decode cX10_init 220 = .ok (.aload_n 0, 1) := by decide +kernel
theorem dX10_init_221 : decode cX10_init 221 = .ok (.iconst 2, 1) := by decide +kernel
theorem dX10_init_222 : decode cX10_init 222 = .ok (.newarray .int, 2) := by decide +kernel
theorem dX10_init_224 : decode cX10_init 224 = .ok (.putfield 91, 3) := by decide +kernel
theorem dX10_init_227 : decode cX10_init 227 = .ok (.aload_n 0, 1) := by decide +kernel
theorem dX10_init_228 : decode cX10_init 228 = .ok (.iconst 2, 1) := by decide +kernel
theorem dX10_init_229 : decode cX10_init 229 = .ok (.newarray .boolean, 2) := by decide +kernel
theorem dX10_init_231 : decode cX10_init 231 = .ok (.putfield 94, 3) := by decide +kernel
theorem dX10_init_234 : decode cX10_init 234 = .ok (.aload_n 0, 1) := by decide +kernel
theorem dX10_init_235 : decode cX10_init 235 = .ok (.getfield 22, 3) := by decide +kernel
theorem dX10_init_238 : decode cX10_init 238 = .ok (.iconst 0, 1) := by decide +kernel
theorem dX10_init_239 : decode cX10_init 239 = .ok (.iconst 1, 1) := by decide +kernel
theorem dX10_init_240 : decode cX10_init 240 = .ok (.iastore, 1) := by decide +kernel
theorem dX10_init_241 : decode cX10_init 241 = .ok (.aload_n 0, 1) := by decide +kernel
theorem dX10_init_242 : decode cX10_init 242 = .ok (.getfield 22, 3) := by decide +kernel
theorem dX10_init_245 : decode cX10_init 245 = .ok (.iconst 1, 1) := by decide +kernel
theorem dX10_init_246 : decode cX10_init 246 = .ok (.bipush 60, 2) := by decide +kernel
theorem dX10_init_248 : decode cX10_init 248 = .ok (.iastore, 1) := by decide +kernel
theorem dX10_init_249 : decode cX10_init 249 = .ok (.aload_n 0, 1) := by decide +kernel
theorem dX10_init_250 : decode cX10_init 250 = .ok (.getfield 22, 3) := by decide +kernel
theorem dX10_init_253 : decode cX10_init 253 = .ok (.iconst 2, 1) := by decide +kernel
theorem dX10_init_254 : decode cX10_init 254 = .ok (.iconst 2, 1) := by decide +kernel
theorem dX10_init_255 : decode cX10_init 255 = .ok (.iastore, 1) := by decide +kernel
theorem dX10_init_256 : decode cX10_init 256 = .ok (.aload_n 0, 1) := by decide +kernel
theorem dX10_init_257 : decode cX10_init 257 = .ok (.getfield 22, 3) := by decide +kernel
theorem dX10_init_260 : decode cX10_init 260 = .ok (.iconst 3, 1) := by decide +kernel
theorem dX10_init_261 : decode cX10_init 261 = .ok (.iconst 3, 1) := by decide +kernel
theorem dX10_init_262 : decode cX10_init 262 = .ok (.iastore, 1) := by decide +kernel
theorem dX10_init_263 : decode cX10_init 263 = .ok (.aload_n 0, 1) := by decide +kernel
theorem dX10_init_264 : decode cX10_init 264 = .ok (.getfield 22, 3) := by decide +kernel
theorem dX10_init_267 : decode cX10_init 267 = .ok (.iconst 4, 1) := by decide +kernel
theorem dX10_init_268 : decode cX10_init 268 = .ok (.iconst 4, 1) := by decide +kernel
theorem dX10_init_269 : decode cX10_init 269 = .ok (.iastore, 1) := by decide +kernel
theorem dX10_init_270 : decode cX10_init 270 = .ok (.aload_n 0, 1) := by decide +kernel
theorem dX10_init_271 : decode cX10_init 271 = .ok (.getfield 22, 3) := by decide +kernel
theorem dX10_init_274 : decode cX10_init 274 = .ok (.iconst 5, 1) := by decide +kernel
theorem dX10_init_275 : decode cX10_init 275 = .ok (.iconst 2, 1) := by decide +kernel
theorem dX10_init_276 : decode cX10_init 276 = .ok (.iastore, 1) := by decide +kernel
theorem dX10_init_277 : decode cX10_init 277 = .ok (.aload_n 0, 1) := by decide +kernel
theorem dX10_init_278 : decode cX10_init 278 = .ok (.getfield 22, 3) := by decide +kernel
theorem dX10_init_281 : decode cX10_init 281 = .ok (.bipush 6, 2) := by decide +kernel
theorem dX10_init_283 : decode cX10_init 283 = .ok (.iconst 1, 1) := by decide +kernel
theorem dX10_init_284 : decode cX10_init 284 = .ok (.iastore, 1) := by decide +kernel
theorem dX10_init_285 : decode cX10_init 285 = .ok (.aload_n 0, 1) := by decide +kernel
theorem dX10_init_286 : decode cX10_init 286 = .ok (.getfield 22, 3) := by decide +kernel
theorem dX10_init_289 : decode cX10_init 289 = .ok (.bipush 7, 2) := by decide +kernel
theorem dX10_init_291 : decode cX10_init 291 = .ok (.bipush 8, 2) := by decide +kernel
theorem dX10_init_293 : decode cX10_init 293 = .ok (.iastore, 1) := by decide +kernel
theorem dX10_init_294 : decode cX10_init 294 = .ok (.return_, 1) := by decide +kernel
theorem dX10_in_0 : decode cX10_in 0 = .ok (.lload_n 0, 1) := by decide +kernel
theorem dX10_in_1 : decode cX10_in 1 = .ok (.lload_n 2, 1) := by decide +kernel
theorem dX10_in_2 : decode cX10_in 2 = .ok (.lcmp, 1) := by decide +kernel
theorem dX10_in_3 : decode cX10_in 3 = .ok (.ifCond .lt 14, 3) := by decide +kernel
theorem dX10_in_6 : decode cX10_in 6 = .ok (.lload_n 0, 1) := by decide +kernel
theorem dX10_in_7 : decode cX10_in 7 = .ok (.lload 4, 2) := by decide +kernel
theorem dX10_in_9 : decode cX10_in 9 = .ok (.lcmp, 1) := by decide +kernel
theorem dX10_in_10 : decode cX10_in 10 = .ok (.ifCond .gt 7, 3) := by decide +kernel
theorem dX10_in_13 : decode cX10_in 13 = .ok (.iconst 1, 1) := by decide +kernel
theorem dX10_in_14 : decode cX10_in 14 = .ok (.goto 4, 3) := by decide +kernel
theorem dX10_in_17 : decode cX10_in 17 = .ok (.iconst 0, 1) := by decide +kernel
theorem dX10_in_18 : decode cX10_in 18 = .ok (.ireturn, 1) := by decide +kernel
theorem dX10_one_0 : decode cX10_one 0 = .ok (.iload_n 0, 1) := by decide +kernel
theorem dX10_one_1 : decode cX10_one 1 = .ok (.ifCond .eq 7, 3) := by decide +kernel
theorem dX10_one_4 : decode cX10_one 4 = .ok (.iconst 1, 1) := by decide +kernel
theorem dX10_one_5 : decode cX10_one 5 = .ok (.goto 4, 3) := by decide +kernel
theorem dX10_one_8 : decode cX10_one 8 = .ok (.iconst 0, 1) := by decide +kernel
theorem dX10_one_9 : decode cX10_one 9 = .ok (.ireturn, 1) := by decide +kernel
theorem dX10_ones_0 : decode cX10_ones 0 = .ok (.iconst 0, 1) := by decide +kernel
theorem dX10_ones_1 : decode cX10_ones 1 = .ok (.istore_n 1, 1) := by decide +kernel
theorem dX10_ones_2 : decode cX10_ones 2 = .ok (.iconst 0, 1) := by decide +kernel
theorem dX10_ones_3 : decode cX10_ones 3 = .ok (.istore_n 2, 1) := by decide +kernel
theorem dX10_ones_4 : decode cX10_ones 4 = .ok (.iload_n 2, 1) := by decide +kernel
theorem dX10_ones_5 : decode cX10_ones 5 = .ok (.bipush 10, 2) := by decide +kernel
theorem dX10_ones_7 : decode cX10_ones 7 = .ok (.if_icmp .ge 17, 3) := by decide +kernel
theorem dX10_ones_10 : decode cX10_ones 10 = .ok (.iload_n 1, 1) := by decide +kernel
theorem dX10_ones_11 : decode cX10_ones 11 = .ok (.iload_n 0, 1) := by decide +kernel
theorem dX10_ones_12 : decode cX10_ones 12 = .ok (.iload_n 2, 1) := by decide +kernel
theorem dX10_ones_13 : decode cX10_ones 13 = .ok (.ishr, 1) := by decide +kernel
theorem dX10_ones_14 : decode cX10_ones 14 = .ok (.iconst 1, 1) := by decide +kernel
theorem dX10_ones_15 : decode cX10_ones 15 = .ok (.iand, 1) := by decide +kernel
theorem dX10_ones_16 : decode cX10_ones 16 = .ok (.iadd, 1) := by decide +kernel
theorem dX10_ones_17 : decode cX10_ones 17 = .ok (.istore_n 1, 1) := by decide +kernel
theorem dX10_ones_18 : decode cX10_ones 18 = .ok (.iinc 2 1, 3) := by decide +kernel
theorem dX10_ones_21 : decode cX10_ones 21 = .ok (.goto (-17), 3) := by decide +kernel
theorem dX10_ones_24 : decode cX10_ones 24 = .ok (.iload_n 1, 1) := by decide +kernel
theorem dX10_ones_25 : decode cX10_ones 25 = .ok (.ireturn, 1) := by decide +kernel
theorem dX10_has_0 : decode cX10_has 0 = .ok (.iload_n 0, 1) := by decide +kernel
theorem dX10_has_1 : decode cX10_has 1 = .ok (.iload_n 1, 1) := by decide +kernel
theorem dX10_has_2 : decode cX10_has 2 = .ok (.ishr, 1) := by decide +kernel
theorem dX10_has_3 : decode cX10_has 3 = .ok (.iconst 1, 1) := by decide +kernel
theorem dX10_has_4 : decode cX10_has 4 = .ok (.iand, 1) := by decide +kernel
theorem dX10_has_5 : decode cX10_has 5 = .ok (.iconst 1, 1) := by decide +kernel
theorem dX10_has_6 : decode cX10_has 6 = .ok (.if_icmp .ne 7, 3) := by decide +kernel
theorem dX10_has_9 : decode cX10_has 9 = .ok (.iconst 1, 1) := by decide +kernel
theorem dX10_has_10 : decode cX10_has 10 = .ok (.goto 4, 3) := by decide +kernel
theorem dX10_has_13 : decode cX10_has 13 = .ok (.iconst 0, 1) := by decide +kernel
theorem dX10_has_14 : decode cX10_has 14 = .ok (.ireturn, 1) := by decide +kernel
theorem dX10_feed_0 : decode cX10_feed 0 = .ok (.iload_n 1, 1) := by decide +kernel
theorem dX10_feed_1 : decode cX10_feed 1 = .ok (.i2l, 1) := by decide +kernel
theorem dX10_feed_2 : decode cX10_feed 2 = .ok (.lconst 1, 1) := by decide +kernel
theorem dX10_feed_3 : decode cX10_feed 3 = .ok (.ldc2_w 97, 3) := by decide +kernel
theorem dX10_feed_6 : decode cX10_feed 6 = .ok (.invokestatic 99, 3) := by decide +kernel
theorem dX10_feed_9 : decode cX10_feed 9 = .ok (.ifCond .ne 7, 3) := by decide +kernel
theorem dX10_feed_12 : decode cX10_feed 12 = .ok (.sipush (-1002), 3) := by decide +kernel
theorem dX10_feed_15 : decode cX10_feed 15 = .ok (.ireturn, 1) := by decide +kernel
theorem dX10_feed_16 : decode cX10_feed 16 = .ok (.aload_n 0, 1) := by decide +kernel
theorem dX10_feed_17 : decode cX10_feed 17 = .ok (.getfield 103, 3) := by decide +kernel
theorem dX10_feed_20 : decode cX10_feed 20 = .ok (.iload_n 1, 1) := by decide +kernel
theorem dX10_feed_21 : decode cX10_feed 21 = .ok (.iadd, 1) := by decide +kernel
theorem dX10_feed_22 : decode cX10_feed 22 = .ok (.sipush 400, 3) := by decide +kernel
theorem dX10_feed_25 : decode cX10_feed 25 = .ok (.if_icmp .le 7, 3) := by decide +kernel
theorem dX10_feed_28 : decode cX10_feed 28 = .ok (.sipush (-1004), 3) := by decide +kernel
theorem dX10_feed_31 : decode cX10_feed 31 = .ok (.ireturn, 1) := by decide +kernel
theorem dX10_feed_32 : decode cX10_feed 32 = .ok (.iload_n 1, 1) := by decide +kernel
theorem dX10_feed_33 : decode cX10_feed 33 = .ok (.iconst 1, 1) := by decide +kernel
theorem dX10_feed_34 : decode cX10_feed 34 = .ok (.isub, 1) := by decide +kernel
theorem dX10_feed_35 : decode cX10_feed 35 = .ok (.istore 4, 2) := by decide +kernel
theorem dX10_feed_37 : decode cX10_feed 37 = .ok (.iload 4, 2) := by decide +kernel
theorem dX10_feed_39 : decode cX10_feed 39 = .ok (.ifCond .lt 40, 3) := by decide +kernel
theorem dX10_feed_42 : decode cX10_feed 42 = .ok (.aload_n 0, 1) := by decide +kernel
theorem dX10_feed_43 : decode cX10_feed 43 = .ok (.getfield 25, 3) := by decide +kernel
theorem dX10_feed_46 : decode cX10_feed 46 = .ok (.aload_n 0, 1) := by decide +kernel
theorem dX10_feed_47 : decode cX10_feed 47 = .ok (.getfield 103, 3) := by decide +kernel
theorem dX10_feed_50 : decode cX10_feed 50 = .ok (.lload_n 2, 1) := by decide +kernel
theorem dX10_feed_51 : decode cX10_feed 51 = .ok (.bipush 8, 2) := by decide +kernel
theorem dX10_feed_53 : decode cX10_feed 53 = .ok (.iload 4, 2) := by decide +kernel
theorem dX10_feed_55 : decode cX10_feed 55 = .ok (.imul, 1) := by decide +kernel
theorem dX10_feed_56 : decode cX10_feed 56 = .ok (.lshr, 1) := by decide +kernel
theorem dX10_feed_57 : decode cX10_feed 57 = .ok (.ldc2_w 106, 3) := by decide +kernel
theorem dX10_feed_60 : decode cX10_feed 60 = .ok (.land, 1) := by decide +kernel
theorem dX10_feed_61 : decode cX10_feed 61 = .ok (.l2i, 1) := by decide +kernel
theorem dX10_feed_62 : decode cX10_feed 62 = .ok (.iastore, 1) := by decide +kernel
theorem dX10_feed_63 : decode cX10_feed 63 = .ok (.aload_n 0, 1) := by decide +kernel
theorem dX10_feed_64 : decode cX10_feed 64 = .ok (.dup, 1) := by decide +kernel
theorem dX10_feed_65 : decode cX10_feed 65 = .ok (.getfield 103, 3) := by decide +kernel
theorem dX10_feed_68 : decode cX10_feed 68 = .ok (.iconst 1, 1) := by decide +kernel
theorem dX10_feed_69 : decode cX10_feed 69 = .ok (.iadd, 1) := by decide +kernel
theorem dX10_feed_70 : decode cX10_feed 70 = .ok (.putfield 103, 3) := by decide +kernel
theorem dX10_feed_73 : decode cX10_feed 73 = .ok (.iinc 4 (-1), 3) := by decide +kernel
theorem dX10_feed_76 : decode cX10_feed 76 = .ok (.goto (-39), 3) := by decide +kernel
theorem dX10_feed_79 : decode cX10_feed 79 = .ok (.aload_n 0, 1) := by decide +kernel
theorem dX10_feed_80 : decode cX10_feed 80 = .ok (.getfield 103, 3) := by decide +kernel
theorem dX10_feed_83 : decode cX10_feed 83 = .ok (.ireturn, 1) := by decide +kernel
theorem dX10_here_0 : decode cX10_here 0 = .ok (.aload_n 0, 1) := by decide +kernel
theorem dX10_here_1 : decode cX10_here 1 = .ok (.getfield 108, 3) := by decide +kernel
theorem dX10_here_4 : decode cX10_here 4 = .ok (.aload_n 0, 1) := by decide +kernel
theorem dX10_here_5 : decode cX10_here 5 = .ok (.getfield 103, 3) := by decide +kernel
theorem dX10_here_8 : decode cX10_here 8 = .ok (.if_icmp .ge 30, 3) := by decide +kernel
theorem dX10_here_11 : decode cX10_here 11 = .ok (.aload_n 0, 1) := by decide +kernel
theorem dX10_here_12 : decode cX10_here 12 = .ok (.getfield 25, 3) := by decide +kernel
theorem dX10_here_15 : decode cX10_here 15 = .ok (.aload_n 0, 1) := by decide +kernel
theorem dX10_here_16 : decode cX10_here 16 = .ok (.getfield 108, 3) := by decide +kernel
theorem dX10_here_19 : decode cX10_here 19 = .ok (.iaload, 1) := by decide +kernel
theorem dX10_here_20 : decode cX10_here 20 = .ok (.bipush 32, 2) := by decide +kernel
theorem dX10_here_22 : decode cX10_here 22 = .ok (.if_icmp .ne 16, 3) := by decide +kernel
theorem dX10_here_25 : decode cX10_here 25 = .ok (.aload_n 0, 1) := by decide +kernel
theorem dX10_here_26 : decode cX10_here 26 = .ok (.dup, 1) := by decide +kernel
theorem dX10_here_27 : decode cX10_here 27 = .ok (.getfield 108, 3) := by decide +kernel
theorem dX10_here_30 : decode cX10_here 30 = .ok (.iconst 1, 1) := by decide +kernel
theorem dX10_here_31 : decode cX10_here 31 = .ok (.iadd, 1) := by decide +kernel
theorem dX10_here_32 : decode cX10_here 32 = .ok (.putfield 108, 3) := by decide +kernel
theorem dX10_here_35 : decode cX10_here 35 = .ok (.goto (-35), 3) := by decide +kernel
theorem dX10_here_38 : decode cX10_here 38 = .ok (.aload_n 0, 1) := by decide +kernel
theorem dX10_here_39 : decode cX10_here 39 = .ok (.getfield 108, 3) := by decide +kernel
theorem dX10_here_42 : decode cX10_here 42 = .ok (.aload_n 0, 1) := by decide +kernel
theorem dX10_here_43 : decode cX10_here 43 = .ok (.getfield 103, 3) := by decide +kernel
theorem dX10_here_46 : decode cX10_here 46 = .ok (.if_icmp .ge 15, 3) := by decide +kernel
theorem dX10_here_49 : decode cX10_here 49 = .ok (.aload_n 0, 1) := by decide +kernel
theorem dX10_here_50 : decode cX10_here 50 = .ok (.getfield 25, 3) := by decide +kernel
theorem dX10_here_53 : decode cX10_here 53 = .ok (.aload_n 0, 1) := by decide +kernel
theorem dX10_here_54 : decode cX10_here 54 = .ok (.getfield 108, 3) := by decide +kernel
theorem dX10_here_57 : decode cX10_here 57 = .ok (.iaload, 1) := by decide +kernel
theorem dX10_here_58 : decode cX10_here 58 = .ok (.goto 4, 3) := by decide +kernel
theorem dX10_here_61 : decode cX10_here 61 = .ok (.iconst (-1), 1) := by decide +kernel
theorem dX10_here_62 : decode cX10_here 62 = .ok (.ireturn, 1) := by decide +kernel
theorem dX10_want_0 : decode cX10_want 0 = .ok (.iload_n 1, 1) := by decide +kernel
theorem dX10_want_1 : decode cX10_want 1 = .ok (.ifCond .ne 20, 3) := by decide +kernel
theorem dX10_want_4 : decode cX10_want 4 = .ok (.aload_n 0, 1) := by decide +kernel
theorem dX10_want_5 : decode cX10_want 5 = .ok (.getfield 111, 3) := by decide +kernel
theorem dX10_want_8 : decode cX10_want 8 = .ok (.ifCond .ne 13, 3) := by decide +kernel
theorem dX10_want_11 : decode cX10_want 11 = .ok (.aload_n 0, 1) := by decide +kernel
theorem dX10_want_12 : decode cX10_want 12 = .ok (.iload_n 2, 1) := by decide +kernel
theorem dX10_want_13 : decode cX10_want 13 = .ok (.putfield 111, 3) := by decide +kernel
theorem dX10_want_16 : decode cX10_want 16 = .ok (.aload_n 0, 1) := by decide +kernel
theorem dX10_want_17 : decode cX10_want 17 = .ok (.iload_n 3, 1) := by decide +kernel
theorem dX10_want_18 : decode cX10_want 18 = .ok (.putfield 28, 3) := by decide +kernel
theorem dX10_want_21 : decode cX10_want 21 = .ok (.aload_n 0, 1) := by decide +kernel
theorem dX10_want_22 : decode cX10_want 22 = .ok (.getfield 111, 3) := by decide +kernel
theorem dX10_want_25 : decode cX10_want 25 = .ok (.ifCond .ne 7, 3) := by decide +kernel
theorem dX10_want_28 : decode cX10_want 28 = .ok (.iconst 1, 1) := by decide +kernel
theorem dX10_want_29 : decode cX10_want 29 = .ok (.goto 4, 3) := by decide +kernel
theorem dX10_want_32 : decode cX10_want 32 = .ok (.iconst 0, 1) := by decide +kernel
theorem dX10_want_33 : decode cX10_want 33 = .ok (.ireturn, 1) := by decide +kernel
theorem dX10_takeWord_0 : decode cX10_takeWord 0 = .ok (.aload_n 0, 1) := by decide +kernel
theorem dX10_takeWord_1 : decode cX10_takeWord 1 = .ok (.invokevirtual 114, 3) := by decide +kernel
theorem dX10_takeWord_4 : decode cX10_takeWord 4 = .ok (.istore_n 1, 1) := by decide +kernel
theorem dX10_takeWord_5 : decode cX10_takeWord 5 = .ok (.aload_n 0, 1) := by decide +kernel
theorem dX10_takeWord_6 : decode cX10_takeWord 6 = .ok (.aload_n 0, 1) := by decide +kernel
theorem dX10_takeWord_7 : decode cX10_takeWord 7 = .ok (.getfield 108, 3) := by decide +kernel
theorem dX10_takeWord_10 : decode cX10_takeWord 10 = .ok (.putfield 118, 3) := by decide +kernel
theorem dX10_takeWord_13 : decode cX10_takeWord 13 = .ok (.aload_n 0, 1) := by decide +kernel
theorem dX10_takeWord_14 : decode cX10_takeWord 14 = .ok (.getfield 108, 3) := by decide +kernel
theorem dX10_takeWord_17 : decode cX10_takeWord 17 = .ok (.aload_n 0, 1) := by decide +kernel
theorem dX10_takeWord_18 : decode cX10_takeWord 18 = .ok (.getfield 103, 3) := by decide +kernel
theorem dX10_takeWord_21 : decode cX10_takeWord 21 = .ok (.if_icmp .ge 38, 3) := by decide +kernel
theorem dX10_takeWord_24 : decode cX10_takeWord 24 = .ok (.aload_n 0, 1) := by decide +kernel
theorem dX10_takeWord_25 : decode cX10_takeWord 25 = .ok (.getfield 25, 3) := by decide +kernel
theorem dX10_takeWord_28 : decode cX10_takeWord 28 = .ok (.aload_n 0, 1) := by decide +kernel
theorem dX10_takeWord_29 : decode cX10_takeWord 29 = .ok (.getfield 108, 3) := by decide +kernel
theorem dX10_takeWord_32 : decode cX10_takeWord 32 = .ok (.iaload, 1) := by decide +kernel
theorem dX10_takeWord_33 : decode cX10_takeWord 33 = .ok (.i2l, 1) := by decide +kernel
theorem dX10_takeWord_34 : decode cX10_takeWord 34 = .ok (.ldc2_w 121, 3) := by decide +kernel
theorem dX10_takeWord_37 : decode cX10_takeWord 37 = .ok (.ldc2_w 123, 3) := by decide +kernel
theorem dX10_takeWord_40 : decode cX10_takeWord 40 = .ok (.invokestatic 99, 3) := by decide +kernel
theorem dX10_takeWord_43 : decode cX10_takeWord 43 = .ok (.ifCond .eq 16, 3) := by decide +kernel
theorem dX10_takeWord_46 : decode cX10_takeWord 46 = .ok (.aload_n 0, 1) := by decide +kernel
theorem dX10_takeWord_47 : decode cX10_takeWord 47 = .ok (.dup, 1) := by decide +kernel
theorem dX10_takeWord_48 : decode cX10_takeWord 48 = .ok (.getfield 108, 3) := by decide +kernel
theorem dX10_takeWord_51 : decode cX10_takeWord 51 = .ok (.iconst 1, 1) := by decide +kernel
theorem dX10_takeWord_52 : decode cX10_takeWord 52 = .ok (.iadd, 1) := by decide +kernel
theorem dX10_takeWord_53 : decode cX10_takeWord 53 = .ok (.putfield 108, 3) := by decide +kernel
theorem dX10_takeWord_56 : decode cX10_takeWord 56 = .ok (.goto (-43), 3) := by decide +kernel
theorem dX10_takeWord_59 : decode cX10_takeWord 59 = .ok (.aload_n 0, 1) := by decide +kernel
theorem dX10_takeWord_60 : decode cX10_takeWord 60 = .ok (.aload_n 0, 1) := by decide +kernel
theorem dX10_takeWord_61 : decode cX10_takeWord 61 = .ok (.getfield 108, 3) := by decide +kernel
theorem dX10_takeWord_64 : decode cX10_takeWord 64 = .ok (.aload_n 0, 1) := by decide +kernel
theorem dX10_takeWord_65 : decode cX10_takeWord 65 = .ok (.getfield 118, 3) := by decide +kernel
theorem dX10_takeWord_68 : decode cX10_takeWord 68 = .ok (.isub, 1) := by decide +kernel
theorem dX10_takeWord_69 : decode cX10_takeWord 69 = .ok (.putfield 125, 3) := by decide +kernel
theorem dX10_takeWord_72 : decode cX10_takeWord 72 = .ok (.return_, 1) := by decide +kernel
theorem dX10_isWord_0 : decode cX10_isWord 0 = .ok (.aload_n 0, 1) := by decide +kernel
theorem dX10_isWord_1 : decode cX10_isWord 1 = .ok (.getfield 125, 3) := by decide +kernel
theorem dX10_isWord_4 : decode cX10_isWord 4 = .ok (.iload_n 1, 1) := by decide +kernel
theorem dX10_isWord_5 : decode cX10_isWord 5 = .ok (.if_icmp .ne 7, 3) := by decide +kernel
theorem dX10_isWord_8 : decode cX10_isWord 8 = .ok (.iconst 1, 1) := by decide +kernel
theorem dX10_isWord_9 : decode cX10_isWord 9 = .ok (.goto 4, 3) := by decide +kernel
theorem dX10_isWord_12 : decode cX10_isWord 12 = .ok (.iconst 0, 1) := by decide +kernel
theorem dX10_isWord_13 : decode cX10_isWord 13 = .ok (.istore 7, 2) := by decide +kernel
theorem dX10_isWord_15 : decode cX10_isWord 15 = .ok (.iconst 0, 1) := by decide +kernel
theorem dX10_isWord_16 : decode cX10_isWord 16 = .ok (.istore 8, 2) := by decide +kernel
theorem dX10_isWord_18 : decode cX10_isWord 18 = .ok (.iload 8, 2) := by decide +kernel
theorem dX10_isWord_20 : decode cX10_isWord 20 = .ok (.iload_n 1, 1) := by decide +kernel
theorem dX10_isWord_21 : decode cX10_isWord 21 = .ok (.if_icmp .ge 79, 3) := by decide +kernel
theorem dX10_isWord_24 : decode cX10_isWord 24 = .ok (.iload 7, 2) := by decide +kernel
theorem dX10_isWord_26 : decode cX10_isWord 26 = .ok (.ifCond .eq 74, 3) := by decide +kernel
theorem dX10_isWord_29 : decode cX10_isWord 29 = .ok (.aload_n 0, 1) := by decide +kernel
theorem dX10_isWord_30 : decode cX10_isWord 30 = .ok (.getfield 25, 3) := by decide +kernel
theorem dX10_isWord_33 : decode cX10_isWord 33 = .ok (.aload_n 0, 1) := by decide +kernel
theorem dX10_isWord_34 : decode cX10_isWord 34 = .ok (.getfield 118, 3) := by decide +kernel
theorem dX10_isWord_37 : decode cX10_isWord 37 = .ok (.iload 8, 2) := by decide +kernel
theorem dX10_isWord_39 : decode cX10_isWord 39 = .ok (.iadd, 1) := by decide +kernel
theorem dX10_isWord_40 : decode cX10_isWord 40 = .ok (.iaload, 1) := by decide +kernel
theorem dX10_isWord_41 : decode cX10_isWord 41 = .ok (.iload 8, 2) := by decide +kernel
theorem dX10_isWord_43 : decode cX10_isWord 43 = .ok (.ifCond .ne 7, 3) := by decide +kernel
theorem dX10_isWord_46 : decode cX10_isWord 46 = .ok (.iload_n 2, 1) := by decide +kernel
theorem dX10_isWord_47 : decode cX10_isWord 47 = .ok (.goto 37, 3) := by decide +kernel
theorem dX10_isWord_50 : decode cX10_isWord 50 = .ok (.iload 8, 2) := by decide +kernel
theorem dX10_isWord_52 : decode cX10_isWord 52 = .ok (.iconst 1, 1) := by decide +kernel
theorem dX10_isWord_53 : decode cX10_isWord 53 = .ok (.if_icmp .ne 7, 3) := by decide +kernel
theorem dX10_isWord_56 : decode cX10_isWord 56 = .ok (.iload_n 3, 1) := by decide +kernel
theorem dX10_isWord_57 : decode cX10_isWord 57 = .ok (.goto 27, 3) := by decide +kernel
theorem dX10_isWord_60 : decode cX10_isWord 60 = .ok (.iload 8, 2) := by decide +kernel
theorem dX10_isWord_62 : decode cX10_isWord 62 = .ok (.iconst 2, 1) := by decide +kernel
theorem dX10_isWord_63 : decode cX10_isWord 63 = .ok (.if_icmp .ne 8, 3) := by decide +kernel
theorem dX10_isWord_66 : decode cX10_isWord 66 = .ok (.iload 4, 2) := by decide +kernel
theorem dX10_isWord_68 : decode cX10_isWord 68 = .ok (.goto 16, 3) := by decide +kernel
theorem dX10_isWord_71 : decode cX10_isWord 71 = .ok (.iload 8, 2) := by decide +kernel
theorem dX10_isWord_73 : decode cX10_isWord 73 = .ok (.iconst 3, 1) := by decide +kernel
theorem dX10_isWord_74 : decode cX10_isWord 74 = .ok (.if_icmp .ne 8, 3) := by decide +kernel
theorem dX10_isWord_77 : decode cX10_isWord 77 = .ok (.iload 5, 2) := by decide +kernel
theorem dX10_isWord_79 : decode cX10_isWord 79 = .ok (.goto 5, 3) := by decide +kernel
theorem dX10_isWord_82 : decode cX10_isWord 82 = .ok (.iload 6, 2) := by decide +kernel
theorem dX10_isWord_84 : decode cX10_isWord 84 = .ok (.if_icmp .ne 7, 3) := by decide +kernel
theorem dX10_isWord_87 : decode cX10_isWord 87 = .ok (.iconst 1, 1) := by decide +kernel
theorem dX10_isWord_88 : decode cX10_isWord 88 = .ok (.goto 4, 3) := by decide +kernel
theorem dX10_isWord_91 : decode cX10_isWord 91 = .ok (.iconst 0, 1) := by decide +kernel
theorem dX10_isWord_92 : decode cX10_isWord 92 = .ok (.istore 7, 2) := by decide +kernel
theorem dX10_isWord_94 : decode cX10_isWord 94 = .ok (.iinc 8 1, 3) := by decide +kernel
theorem dX10_isWord_97 : decode cX10_isWord 97 = .ok (.goto (-79), 3) := by decide +kernel
theorem dX10_isWord_100 : decode cX10_isWord 100 = .ok (.iload 7, 2) := by decide +kernel
theorem dX10_isWord_102 : decode cX10_isWord 102 = .ok (.ireturn, 1) := by decide +kernel
theorem dX10_kindOf_0 : decode cX10_kindOf 0 = .ok (.aload_n 0, 1) := by decide +kernel
theorem dX10_kindOf_1 : decode cX10_kindOf 1 = .ok (.iconst 3, 1) := by decide +kernel
theorem dX10_kindOf_2 : decode cX10_kindOf 2 = .ok (.bipush 106, 2) := by decide +kernel
theorem dX10_kindOf_4 : decode cX10_kindOf 4 = .ok (.bipush 111, 2) := by decide +kernel
theorem dX10_kindOf_6 : decode cX10_kindOf 6 = .ok (.bipush 121, 2) := by decide +kernel
theorem dX10_kindOf_8 : decode cX10_kindOf 8 = .ok (.iconst 0, 1) := by decide +kernel
theorem dX10_kindOf_9 : decode cX10_kindOf 9 = .ok (.iconst 0, 1) := by decide +kernel
theorem dX10_kindOf_10 : decode cX10_kindOf 10 = .ok (.invokevirtual 128, 3) := by decide +kernel
theorem dX10_kindOf_13 : decode cX10_kindOf 13 = .ok (.ifCond .eq 5, 3) := by decide +kernel
theorem dX10_kindOf_16 : decode cX10_kindOf 16 = .ok (.iconst 0, 1) := by decide +kernel
theorem dX10_kindOf_17 : decode cX10_kindOf 17 = .ok (.ireturn, 1) := by decide +kernel
theorem dX10_kindOf_18 : decode cX10_kindOf 18 = .ok (.aload_n 0, 1) := by decide +kernel
theorem dX10_kindOf_19 : decode cX10_kindOf 19 = .ok (.iconst 4, 1) := by decide +kernel
theorem dX10_kindOf_20 : decode cX10_kindOf 20 = .ok (.bipush 119, 2) := by decide +kernel
theorem dX10_kindOf_22 : decode cX10_kindOf 22 = .ok (.bipush 105, 2) := by decide +kernel
theorem dX10_kindOf_24 : decode cX10_kindOf 24 = .ok (.bipush 116, 2) := by decide +kernel
theorem dX10_kindOf_26 : decode cX10_kindOf 26 = .ok (.bipush 104, 2) := by decide +kernel
theorem dX10_kindOf_28 : decode cX10_kindOf 28 = .ok (.iconst 0, 1) := by decide +kernel
theorem dX10_kindOf_29 : decode cX10_kindOf 29 = .ok (.invokevirtual 128, 3) := by decide +kernel
theorem dX10_kindOf_32 : decode cX10_kindOf 32 = .ok (.ifCond .eq 5, 3) := by decide +kernel
theorem dX10_kindOf_35 : decode cX10_kindOf 35 = .ok (.iconst 1, 1) := by decide +kernel
theorem dX10_kindOf_36 : decode cX10_kindOf 36 = .ok (.ireturn, 1) := by decide +kernel
theorem dX10_kindOf_37 : decode cX10_kindOf 37 = .ok (.aload_n 0, 1) := by decide +kernel
theorem dX10_kindOf_38 : decode cX10_kindOf 38 = .ok (.iconst 5, 1) := by decide +kernel
theorem dX10_kindOf_39 : decode cX10_kindOf 39 = .ok (.bipush 97, 2) := by decide +kernel
theorem dX10_kindOf_41 : decode cX10_kindOf 41 = .ok (.bipush 102, 2) := by decide +kernel
theorem dX10_kindOf_43 : decode cX10_kindOf 43 = .ok (.bipush 116, 2) := by decide +kernel
theorem dX10_kindOf_45 : decode cX10_kindOf 45 = .ok (.bipush 101, 2) := by decide +kernel
theorem dX10_kindOf_47 : decode cX10_kindOf 47 = .ok (.bipush 114, 2) := by decide +kernel
theorem dX10_kindOf_49 : decode cX10_kindOf 49 = .ok (.invokevirtual 128, 3) := by decide +kernel
theorem dX10_kindOf_52 : decode cX10_kindOf 52 = .ok (.ifCond .eq 5, 3) := by decide +kernel
theorem dX10_kindOf_55 : decode cX10_kindOf 55 = .ok (.iconst 2, 1) := by decide +kernel
theorem dX10_kindOf_56 : decode cX10_kindOf 56 = .ok (.ireturn, 1) := by decide +kernel
theorem dX10_kindOf_57 : decode cX10_kindOf 57 = .ok (.aload_n 0, 1) := by decide +kernel
theorem dX10_kindOf_58 : decode cX10_kindOf 58 = .ok (.iconst 5, 1) := by decide +kernel
theorem dX10_kindOf_59 : decode cX10_kindOf 59 = .ok (.bipush 111, 2) := by decide +kernel
theorem dX10_kindOf_61 : decode cX10_kindOf 61 = .ok (.bipush 112, 2) := by decide +kernel
theorem dX10_kindOf_63 : decode cX10_kindOf 63 = .ok (.bipush 101, 2) := by decide +kernel
theorem dX10_kindOf_65 : decode cX10_kindOf 65 = .ok (.bipush 110, 2) := by decide +kernel
theorem dX10_kindOf_67 : decode cX10_kindOf 67 = .ok (.bipush 115, 2) := by decide +kernel
theorem dX10_kindOf_69 : decode cX10_kindOf 69 = .ok (.invokevirtual 128, 3) := by decide +kernel
theorem dX10_kindOf_72 : decode cX10_kindOf 72 = .ok (.ifCond .eq 5, 3) := by decide +kernel
theorem dX10_kindOf_75 : decode cX10_kindOf 75 = .ok (.iconst 3, 1) := by decide +kernel
theorem dX10_kindOf_76 : decode cX10_kindOf 76 = .ok (.ireturn, 1) := by decide +kernel
theorem dX10_kindOf_77 : decode cX10_kindOf 77 = .ok (.aload_n 0, 1) := by decide +kernel
theorem dX10_kindOf_78 : decode cX10_kindOf 78 = .ok (.iconst 5, 1) := by decide +kernel
theorem dX10_kindOf_79 : decode cX10_kindOf 79 = .ok (.bipush 115, 2) := by decide +kernel
theorem dX10_kindOf_81 : decode cX10_kindOf 81 = .ok (.bipush 104, 2) := by decide +kernel
theorem dX10_kindOf_83 : decode cX10_kindOf 83 = .ok (.bipush 117, 2) := by decide +kernel
theorem dX10_kindOf_85 : decode cX10_kindOf 85 = .ok (.bipush 116, 2) := by decide +kernel
theorem dX10_kindOf_87 : decode cX10_kindOf 87 = .ok (.bipush 115, 2) := by decide +kernel
theorem dX10_kindOf_89 : decode cX10_kindOf 89 = .ok (.invokevirtual 128, 3) := by decide +kernel
theorem dX10_kindOf_92 : decode cX10_kindOf 92 = .ok (.ifCond .eq 5, 3) := by decide +kernel
theorem dX10_kindOf_95 : decode cX10_kindOf 95 = .ok (.iconst 4, 1) := by decide +kernel
theorem dX10_kindOf_96 : decode cX10_kindOf 96 = .ok (.ireturn, 1) := by decide +kernel
theorem dX10_kindOf_97 : decode cX10_kindOf 97 = .ok (.aload_n 0, 1) := by decide +kernel
theorem dX10_kindOf_98 : decode cX10_kindOf 98 = .ok (.iconst 5, 1) := by decide +kernel
theorem dX10_kindOf_99 : decode cX10_kindOf 99 = .ok (.bipush 116, 2) := by decide +kernel
theorem dX10_kindOf_101 : decode cX10_kindOf 101 = .ok (.bipush 101, 2) := by decide +kernel
theorem dX10_kindOf_103 : decode cX10_kindOf 103 = .ok (.bipush 108, 2) := by decide +kernel
theorem dX10_kindOf_105 : decode cX10_kindOf 105 = .ok (.bipush 108, 2) := by decide +kernel
theorem dX10_kindOf_107 : decode cX10_kindOf 107 = .ok (.bipush 115, 2) := by decide +kernel
theorem dX10_kindOf_109 : decode cX10_kindOf 109 = .ok (.invokevirtual 128, 3) := by decide +kernel
theorem dX10_kindOf_112 : decode cX10_kindOf 112 = .ok (.ifCond .eq 5, 3) := by decide +kernel
theorem dX10_kindOf_115 : decode cX10_kindOf 115 = .ok (.iconst 5, 1) := by decide +kernel
theorem dX10_kindOf_116 : decode cX10_kindOf 116 = .ok (.ireturn, 1) := by decide +kernel
theorem dX10_kindOf_117 : decode cX10_kindOf 117 = .ok (.aload_n 0, 1) := by decide +kernel
theorem dX10_kindOf_118 : decode cX10_kindOf 118 = .ok (.iconst 5, 1) := by decide +kernel
theorem dX10_kindOf_119 : decode cX10_kindOf 119 = .ok (.bipush 110, 2) := by decide +kernel
theorem dX10_kindOf_121 : decode cX10_kindOf 121 = .ok (.bipush 101, 2) := by decide +kernel
theorem dX10_kindOf_123 : decode cX10_kindOf 123 = .ok (.bipush 101, 2) := by decide +kernel
theorem dX10_kindOf_125 : decode cX10_kindOf 125 = .ok (.bipush 100, 2) := by decide +kernel
theorem dX10_kindOf_127 : decode cX10_kindOf 127 = .ok (.bipush 115, 2) := by decide +kernel
theorem dX10_kindOf_129 : decode cX10_kindOf 129 = .ok (.invokevirtual 128, 3) := by decide +kernel
theorem dX10_kindOf_132 : decode cX10_kindOf 132 = .ok (.ifCond .eq 6, 3) := by decide +kernel
theorem dX10_kindOf_135 : decode cX10_kindOf 135 = .ok (.bipush 6, 2) := by decide +kernel
theorem dX10_kindOf_137 : decode cX10_kindOf 137 = .ok (.ireturn, 1) := by decide +kernel
theorem dX10_kindOf_138 : decode cX10_kindOf 138 = .ok (.aload_n 0, 1) := by decide +kernel
theorem dX10_kindOf_139 : decode cX10_kindOf 139 = .ok (.iconst 4, 1) := by decide +kernel
theorem dX10_kindOf_140 : decode cX10_kindOf 140 = .ok (.bipush 100, 2) := by decide +kernel
theorem dX10_kindOf_142 : decode cX10_kindOf 142 = .ok (.bipush 105, 2) := by decide +kernel
theorem dX10_kindOf_144 : decode cX10_kindOf 144 = .ok (.bipush 101, 2) := by decide +kernel
theorem dX10_kindOf_146 : decode cX10_kindOf 146 = .ok (.bipush 115, 2) := by decide +kernel
theorem dX10_kindOf_148 : decode cX10_kindOf 148 = .ok (.iconst 0, 1) := by decide +kernel
theorem dX10_kindOf_149 : decode cX10_kindOf 149 = .ok (.invokevirtual 128, 3) := by decide +kernel
theorem dX10_kindOf_152 : decode cX10_kindOf 152 = .ok (.ifCond .eq 8, 3) := by decide +kernel
theorem dX10_kindOf_155 : decode cX10_kindOf 155 = .ok (.bipush 7, 2) := by decide +kernel
theorem dX10_kindOf_157 : decode cX10_kindOf 157 = .ok (.goto 4, 3) := by decide +kernel
theorem dX10_kindOf_160 : decode cX10_kindOf 160 = .ok (.iconst (-1), 1) := by decide +kernel
theorem dX10_kindOf_161 : decode cX10_kindOf 161 = .ok (.ireturn, 1) := by decide +kernel
theorem dX10_takeNumber_0 : decode cX10_takeNumber 0 = .ok (.aload_n 0, 1) := by decide +kernel
theorem dX10_takeNumber_1 : decode cX10_takeNumber 1 = .ok (.getfield 111, 3) := by decide +kernel
theorem dX10_takeNumber_4 : decode cX10_takeNumber 4 = .ok (.ifCond .le 5, 3) := by decide +kernel
theorem dX10_takeNumber_7 : decode cX10_takeNumber 7 = .ok (.iconst 0, 1) := by decide +kernel
theorem dX10_takeNumber_8 : decode cX10_takeNumber 8 = .ok (.ireturn, 1) := by decide +kernel
theorem dX10_takeNumber_9 : decode cX10_takeNumber 9 = .ok (.aload_n 0, 1) := by decide +kernel
theorem dX10_takeNumber_10 : decode cX10_takeNumber 10 = .ok (.invokevirtual 114, 3) := by decide +kernel
theorem dX10_takeNumber_13 : decode cX10_takeNumber 13 = .ok (.istore_n 3, 1) := by decide +kernel
theorem dX10_takeNumber_14 : decode cX10_takeNumber 14 = .ok (.aload_n 0, 1) := by decide +kernel
theorem dX10_takeNumber_15 : decode cX10_takeNumber 15 = .ok (.aload_n 0, 1) := by decide +kernel
theorem dX10_takeNumber_16 : decode cX10_takeNumber 16 = .ok (.getfield 108, 3) := by decide +kernel
theorem dX10_takeNumber_19 : decode cX10_takeNumber 19 = .ok (.putfield 118, 3) := by decide +kernel
theorem dX10_takeNumber_22 : decode cX10_takeNumber 22 = .ok (.aload_n 0, 1) := by decide +kernel
theorem dX10_takeNumber_23 : decode cX10_takeNumber 23 = .ok (.iload_n 3, 1) := by decide +kernel
theorem dX10_takeNumber_24 : decode cX10_takeNumber 24 = .ok (.i2l, 1) := by decide +kernel
theorem dX10_takeNumber_25 : decode cX10_takeNumber 25 = .ok (.ldc2_w 132, 3) := by decide +kernel
theorem dX10_takeNumber_28 : decode cX10_takeNumber 28 = .ok (.ldc2_w 134, 3) := by decide +kernel
theorem dX10_takeNumber_31 : decode cX10_takeNumber 31 = .ok (.invokestatic 99, 3) := by decide +kernel
theorem dX10_takeNumber_34 : decode cX10_takeNumber 34 = .ok (.iconst 1, 1) := by decide +kernel
theorem dX10_takeNumber_35 : decode cX10_takeNumber 35 = .ok (.aload_n 0, 1) := by decide +kernel
theorem dX10_takeNumber_36 : decode cX10_takeNumber 36 = .ok (.getfield 108, 3) := by decide +kernel
theorem dX10_takeNumber_39 : decode cX10_takeNumber 39 = .ok (.invokevirtual 136, 3) := by decide +kernel
theorem dX10_takeNumber_42 : decode cX10_takeNumber 42 = .ok (.ifCond .ne 5, 3) := by decide +kernel
theorem dX10_takeNumber_45 : decode cX10_takeNumber 45 = .ok (.iconst 0, 1) := by decide +kernel
theorem dX10_takeNumber_46 : decode cX10_takeNumber 46 = .ok (.ireturn, 1) := by decide +kernel
theorem dX10_takeNumber_47 : decode cX10_takeNumber 47 = .ok (.iconst 0, 1) := by decide +kernel
theorem dX10_takeNumber_48 : decode cX10_takeNumber 48 = .ok (.istore 4, 2) := by decide +kernel
theorem dX10_takeNumber_50 : decode cX10_takeNumber 50 = .ok (.aload_n 0, 1) := by decide +kernel
theorem dX10_takeNumber_51 : decode cX10_takeNumber 51 = .ok (.getfield 108, 3) := by decide +kernel
theorem dX10_takeNumber_54 : decode cX10_takeNumber 54 = .ok (.aload_n 0, 1) := by decide +kernel
theorem dX10_takeNumber_55 : decode cX10_takeNumber 55 = .ok (.getfield 103, 3) := by decide +kernel
theorem dX10_takeNumber_58 : decode cX10_takeNumber 58 = .ok (.if_icmp .ge 71, 3) := by decide +kernel
theorem dX10_takeNumber_61 : decode cX10_takeNumber 61 = .ok (.aload_n 0, 1) := by decide +kernel
theorem dX10_takeNumber_62 : decode cX10_takeNumber 62 = .ok (.getfield 25, 3) := by decide +kernel
theorem dX10_takeNumber_65 : decode cX10_takeNumber 65 = .ok (.aload_n 0, 1) := by decide +kernel
theorem dX10_takeNumber_66 : decode cX10_takeNumber 66 = .ok (.getfield 108, 3) := by decide +kernel
theorem dX10_takeNumber_69 : decode cX10_takeNumber 69 = .ok (.iaload, 1) := by decide +kernel
theorem dX10_takeNumber_70 : decode cX10_takeNumber 70 = .ok (.i2l, 1) := by decide +kernel
theorem dX10_takeNumber_71 : decode cX10_takeNumber 71 = .ok (.ldc2_w 132, 3) := by decide +kernel
theorem dX10_takeNumber_74 : decode cX10_takeNumber 74 = .ok (.ldc2_w 134, 3) := by decide +kernel
theorem dX10_takeNumber_77 : decode cX10_takeNumber 77 = .ok (.invokestatic 99, 3) := by decide +kernel
theorem dX10_takeNumber_80 : decode cX10_takeNumber 80 = .ok (.ifCond .eq 49, 3) := by decide +kernel
theorem dX10_takeNumber_83 : decode cX10_takeNumber 83 = .ok (.iload 4, 2) := by decide +kernel
theorem dX10_takeNumber_85 : decode cX10_takeNumber 85 = .ok (.sipush 999, 3) := by decide +kernel
theorem dX10_takeNumber_88 : decode cX10_takeNumber 88 = .ok (.if_icmp .le 8, 3) := by decide +kernel
theorem dX10_takeNumber_91 : decode cX10_takeNumber 91 = .ok (.iload 4, 2) := by decide +kernel
theorem dX10_takeNumber_93 : decode cX10_takeNumber 93 = .ok (.goto 21, 3) := by decide +kernel
theorem dX10_takeNumber_96 : decode cX10_takeNumber 96 = .ok (.bipush 10, 2) := by decide +kernel
theorem dX10_takeNumber_98 : decode cX10_takeNumber 98 = .ok (.iload 4, 2) := by decide +kernel
theorem dX10_takeNumber_100 : decode cX10_takeNumber 100 = .ok (.imul, 1) := by decide +kernel
theorem dX10_takeNumber_101 : decode cX10_takeNumber 101 = .ok (.aload_n 0, 1) := by decide +kernel
theorem dX10_takeNumber_102 : decode cX10_takeNumber 102 = .ok (.getfield 25, 3) := by decide +kernel
theorem dX10_takeNumber_105 : decode cX10_takeNumber 105 = .ok (.aload_n 0, 1) := by decide +kernel
theorem dX10_takeNumber_106 : decode cX10_takeNumber 106 = .ok (.getfield 108, 3) := by decide +kernel
theorem dX10_takeNumber_109 : decode cX10_takeNumber 109 = .ok (.iaload, 1) := by decide +kernel
theorem dX10_takeNumber_110 : decode cX10_takeNumber 110 = .ok (.iadd, 1) := by decide +kernel
theorem dX10_takeNumber_111 : decode cX10_takeNumber 111 = .ok (.bipush 48, 2) := by decide +kernel
theorem dX10_takeNumber_113 : decode cX10_takeNumber 113 = .ok (.isub, 1) := by decide +kernel
theorem dX10_takeNumber_114 : decode cX10_takeNumber 114 = .ok (.istore 4, 2) := by decide +kernel
theorem dX10_takeNumber_116 : decode cX10_takeNumber 116 = .ok (.aload_n 0, 1) := by decide +kernel
theorem dX10_takeNumber_117 : decode cX10_takeNumber 117 = .ok (.dup, 1) := by decide +kernel
theorem dX10_takeNumber_118 : decode cX10_takeNumber 118 = .ok (.getfield 108, 3) := by decide +kernel
theorem dX10_takeNumber_121 : decode cX10_takeNumber 121 = .ok (.iconst 1, 1) := by decide +kernel
theorem dX10_takeNumber_122 : decode cX10_takeNumber 122 = .ok (.iadd, 1) := by decide +kernel
theorem dX10_takeNumber_123 : decode cX10_takeNumber 123 = .ok (.putfield 108, 3) := by decide +kernel
theorem dX10_takeNumber_126 : decode cX10_takeNumber 126 = .ok (.goto (-76), 3) := by decide +kernel
theorem dX10_takeNumber_129 : decode cX10_takeNumber 129 = .ok (.aload_n 0, 1) := by decide +kernel
theorem dX10_takeNumber_130 : decode cX10_takeNumber 130 = .ok (.aload_n 0, 1) := by decide +kernel
theorem dX10_takeNumber_131 : decode cX10_takeNumber 131 = .ok (.getfield 108, 3) := by decide +kernel
theorem dX10_takeNumber_134 : decode cX10_takeNumber 134 = .ok (.aload_n 0, 1) := by decide +kernel
theorem dX10_takeNumber_135 : decode cX10_takeNumber 135 = .ok (.getfield 118, 3) := by decide +kernel
theorem dX10_takeNumber_138 : decode cX10_takeNumber 138 = .ok (.isub, 1) := by decide +kernel
theorem dX10_takeNumber_139 : decode cX10_takeNumber 139 = .ok (.iconst 3, 1) := by decide +kernel
theorem dX10_takeNumber_140 : decode cX10_takeNumber 140 = .ok (.if_icmp .ge 20, 3) := by decide +kernel
theorem dX10_takeNumber_143 : decode cX10_takeNumber 143 = .ok (.iload 4, 2) := by decide +kernel
theorem dX10_takeNumber_145 : decode cX10_takeNumber 145 = .ok (.i2l, 1) := by decide +kernel
theorem dX10_takeNumber_146 : decode cX10_takeNumber 146 = .ok (.iload_n 1, 1) := by decide +kernel
theorem dX10_takeNumber_147 : decode cX10_takeNumber 147 = .ok (.i2l, 1) := by decide +kernel
theorem dX10_takeNumber_148 : decode cX10_takeNumber 148 = .ok (.iload_n 2, 1) := by decide +kernel
theorem dX10_takeNumber_149 : decode cX10_takeNumber 149 = .ok (.i2l, 1) := by decide +kernel
theorem dX10_takeNumber_150 : decode cX10_takeNumber 150 = .ok (.invokestatic 99, 3) := by decide +kernel
theorem dX10_takeNumber_153 : decode cX10_takeNumber 153 = .ok (.ifCond .eq 7, 3) := by decide +kernel
theorem dX10_takeNumber_156 : decode cX10_takeNumber 156 = .ok (.iconst 1, 1) := by decide +kernel
theorem dX10_takeNumber_157 : decode cX10_takeNumber 157 = .ok (.goto 4, 3) := by decide +kernel
theorem dX10_takeNumber_160 : decode cX10_takeNumber 160 = .ok (.iconst 0, 1) := by decide +kernel
theorem dX10_takeNumber_161 : decode cX10_takeNumber 161 = .ok (.iconst 2, 1) := by decide +kernel
theorem dX10_takeNumber_162 : decode cX10_takeNumber 162 = .ok (.aload_n 0, 1) := by decide +kernel
theorem dX10_takeNumber_163 : decode cX10_takeNumber 163 = .ok (.getfield 118, 3) := by decide +kernel
theorem dX10_takeNumber_166 : decode cX10_takeNumber 166 = .ok (.invokevirtual 136, 3) := by decide +kernel
theorem dX10_takeNumber_169 : decode cX10_takeNumber 169 = .ok (.istore 5, 2) := by decide +kernel
theorem dX10_takeNumber_171 : decode cX10_takeNumber 171 = .ok (.iload 4, 2) := by decide +kernel
theorem dX10_takeNumber_173 : decode cX10_takeNumber 173 = .ok (.ireturn, 1) := by decide +kernel
theorem dX10_isAhead_0 : decode cX10_isAhead 0 = .ok (.iconst 0, 1) := by decide +kernel
theorem dX10_isAhead_1 : decode cX10_isAhead 1 = .ok (.istore_n 3, 1) := by decide +kernel
theorem dX10_isAhead_2 : decode cX10_isAhead 2 = .ok (.iconst 0, 1) := by decide +kernel
theorem dX10_isAhead_3 : decode cX10_isAhead 3 = .ok (.istore 4, 2) := by decide +kernel
theorem dX10_isAhead_5 : decode cX10_isAhead 5 = .ok (.iload 4, 2) := by decide +kernel
theorem dX10_isAhead_7 : decode cX10_isAhead 7 = .ok (.aload_n 0, 1) := by decide +kernel
theorem dX10_isAhead_8 : decode cX10_isAhead 8 = .ok (.getfield 140, 3) := by decide +kernel
theorem dX10_isAhead_11 : decode cX10_isAhead 11 = .ok (.if_icmp .ge 38, 3) := by decide +kernel
theorem dX10_isAhead_14 : decode cX10_isAhead 14 = .ok (.iload_n 3, 1) := by decide +kernel
theorem dX10_isAhead_15 : decode cX10_isAhead 15 = .ok (.ifCond .ne 22, 3) := by decide +kernel
theorem dX10_isAhead_18 : decode cX10_isAhead 18 = .ok (.aload_n 0, 1) := by decide +kernel
theorem dX10_isAhead_19 : decode cX10_isAhead 19 = .ok (.getfield 38, 3) := by decide +kernel
theorem dX10_isAhead_22 : decode cX10_isAhead 22 = .ok (.bipush 8, 2) := by decide +kernel
theorem dX10_isAhead_24 : decode cX10_isAhead 24 = .ok (.iload 4, 2) := by decide +kernel
theorem dX10_isAhead_26 : decode cX10_isAhead 26 = .ok (.imul, 1) := by decide +kernel
theorem dX10_isAhead_27 : decode cX10_isAhead 27 = .ok (.iload_n 1, 1) := by decide +kernel
theorem dX10_isAhead_28 : decode cX10_isAhead 28 = .ok (.iadd, 1) := by decide +kernel
theorem dX10_isAhead_29 : decode cX10_isAhead 29 = .ok (.iaload, 1) := by decide +kernel
theorem dX10_isAhead_30 : decode cX10_isAhead 30 = .ok (.iload_n 2, 1) := by decide +kernel
theorem dX10_isAhead_31 : decode cX10_isAhead 31 = .ok (.invokestatic 143, 3) := by decide +kernel
theorem dX10_isAhead_34 : decode cX10_isAhead 34 = .ok (.ifCond .eq 7, 3) := by decide +kernel
theorem dX10_isAhead_37 : decode cX10_isAhead 37 = .ok (.iconst 1, 1) := by decide +kernel
theorem dX10_isAhead_38 : decode cX10_isAhead 38 = .ok (.goto 4, 3) := by decide +kernel
theorem dX10_isAhead_41 : decode cX10_isAhead 41 = .ok (.iconst 0, 1) := by decide +kernel
theorem dX10_isAhead_42 : decode cX10_isAhead 42 = .ok (.istore_n 3, 1) := by decide +kernel
theorem dX10_isAhead_43 : decode cX10_isAhead 43 = .ok (.iinc 4 1, 3) := by decide +kernel
theorem dX10_isAhead_46 : decode cX10_isAhead 46 = .ok (.goto (-41), 3) := by decide +kernel
theorem dX10_isAhead_49 : decode cX10_isAhead 49 = .ok (.iload_n 3, 1) := by decide +kernel
theorem dX10_isAhead_50 : decode cX10_isAhead 50 = .ok (.ireturn, 1) := by decide +kernel
theorem dX10_takeList_0 : decode cX10_takeList 0 = .ok (.iconst 1, 1) := by decide +kernel
theorem dX10_takeList_1 : decode cX10_takeList 1 = .ok (.istore_n 2, 1) := by decide +kernel
theorem dX10_takeList_2 : decode cX10_takeList 2 = .ok (.iconst 0, 1) := by decide +kernel
theorem dX10_takeList_3 : decode cX10_takeList 3 = .ok (.istore_n 3, 1) := by decide +kernel
theorem dX10_takeList_4 : decode cX10_takeList 4 = .ok (.iload_n 2, 1) := by decide +kernel
theorem dX10_takeList_5 : decode cX10_takeList 5 = .ok (.ifCond .eq 214, 3) := by decide +kernel
theorem dX10_takeList_8 : decode cX10_takeList 8 = .ok (.aload_n 0, 1) := by decide +kernel
theorem dX10_takeList_9 : decode cX10_takeList 9 = .ok (.getfield 111, 3) := by decide +kernel
theorem dX10_takeList_12 : decode cX10_takeList 12 = .ok (.ifCond .ne 207, 3) := by decide +kernel
theorem dX10_takeList_15 : decode cX10_takeList 15 = .ok (.aload_n 0, 1) := by decide +kernel
theorem dX10_takeList_16 : decode cX10_takeList 16 = .ok (.iconst 0, 1) := by decide +kernel
theorem dX10_takeList_17 : decode cX10_takeList 17 = .ok (.iload_n 1, 1) := by decide +kernel
theorem dX10_takeList_18 : decode cX10_takeList 18 = .ok (.iconst 2, 1) := by decide +kernel
theorem dX10_takeList_19 : decode cX10_takeList 19 = .ok (.if_icmp .ne 8, 3) := by decide +kernel
theorem dX10_takeList_22 : decode cX10_takeList 22 = .ok (.bipush 9, 2) := by decide +kernel
theorem dX10_takeList_24 : decode cX10_takeList 24 = .ok (.goto 5, 3) := by decide +kernel
theorem dX10_takeList_27 : decode cX10_takeList 27 = .ok (.bipush 7, 2) := by decide +kernel
theorem dX10_takeList_29 : decode cX10_takeList 29 = .ok (.invokevirtual 147, 3) := by decide +kernel
theorem dX10_takeList_32 : decode cX10_takeList 32 = .ok (.istore 4, 2) := by decide +kernel
theorem dX10_takeList_34 : decode cX10_takeList 34 = .ok (.aload_n 0, 1) := by decide +kernel
theorem dX10_takeList_35 : decode cX10_takeList 35 = .ok (.getfield 111, 3) := by decide +kernel
theorem dX10_takeList_38 : decode cX10_takeList 38 = .ok (.ifCond .ne 33, 3) := by decide +kernel
theorem dX10_takeList_41 : decode cX10_takeList 41 = .ok (.aload_n 0, 1) := by decide +kernel
theorem dX10_takeList_42 : decode cX10_takeList 42 = .ok (.iload_n 3, 1) := by decide +kernel
theorem dX10_takeList_43 : decode cX10_takeList 43 = .ok (.iload 4, 2) := by decide +kernel
theorem dX10_takeList_45 : decode cX10_takeList 45 = .ok (.invokestatic 143, 3) := by decide +kernel
theorem dX10_takeList_48 : decode cX10_takeList 48 = .ok (.ifCond .ne 7, 3) := by decide +kernel
theorem dX10_takeList_51 : decode cX10_takeList 51 = .ok (.iconst 1, 1) := by decide +kernel
theorem dX10_takeList_52 : decode cX10_takeList 52 = .ok (.goto 4, 3) := by decide +kernel
theorem dX10_takeList_55 : decode cX10_takeList 55 = .ok (.iconst 0, 1) := by decide +kernel
theorem dX10_takeList_56 : decode cX10_takeList 56 = .ok (.iconst 3, 1) := by decide +kernel
theorem dX10_takeList_57 : decode cX10_takeList 57 = .ok (.aload_n 0, 1) := by decide +kernel
theorem dX10_takeList_58 : decode cX10_takeList 58 = .ok (.getfield 118, 3) := by decide +kernel
theorem dX10_takeList_61 : decode cX10_takeList 61 = .ok (.invokevirtual 136, 3) := by decide +kernel
theorem dX10_takeList_64 : decode cX10_takeList 64 = .ok (.ifCond .eq 7, 3) := by decide +kernel
theorem dX10_takeList_67 : decode cX10_takeList 67 = .ok (.iconst 1, 1) := by decide +kernel
theorem dX10_takeList_68 : decode cX10_takeList 68 = .ok (.goto 4, 3) := by decide +kernel
theorem dX10_takeList_71 : decode cX10_takeList 71 = .ok (.iconst 0, 1) := by decide +kernel
theorem dX10_takeList_72 : decode cX10_takeList 72 = .ok (.istore 5, 2) := by decide +kernel
theorem dX10_takeList_74 : decode cX10_takeList 74 = .ok (.iload 5, 2) := by decide +kernel
theorem dX10_takeList_76 : decode cX10_takeList 76 = .ok (.ifCond .eq 38, 3) := by decide +kernel
theorem dX10_takeList_79 : decode cX10_takeList 79 = .ok (.aload_n 0, 1) := by decide +kernel
theorem dX10_takeList_80 : decode cX10_takeList 80 = .ok (.iload_n 1, 1) := by decide +kernel
theorem dX10_takeList_81 : decode cX10_takeList 81 = .ok (.iconst 2, 1) := by decide +kernel
theorem dX10_takeList_82 : decode cX10_takeList 82 = .ok (.if_icmp .ne 12, 3) := by decide +kernel
theorem dX10_takeList_85 : decode cX10_takeList 85 = .ok (.iload 4, 2) := by decide +kernel
theorem dX10_takeList_87 : decode cX10_takeList 87 = .ok (.aload_n 0, 1) := by decide +kernel
theorem dX10_takeList_88 : decode cX10_takeList 88 = .ok (.getfield 140, 3) := by decide +kernel
theorem dX10_takeList_91 : decode cX10_takeList 91 = .ok (.if_icmp .ge 7, 3) := by decide +kernel
theorem dX10_takeList_94 : decode cX10_takeList 94 = .ok (.iconst 1, 1) := by decide +kernel
theorem dX10_takeList_95 : decode cX10_takeList 95 = .ok (.goto 4, 3) := by decide +kernel
theorem dX10_takeList_98 : decode cX10_takeList 98 = .ok (.iconst 0, 1) := by decide +kernel
theorem dX10_takeList_99 : decode cX10_takeList 99 = .ok (.iconst 4, 1) := by decide +kernel
theorem dX10_takeList_100 : decode cX10_takeList 100 = .ok (.aload_n 0, 1) := by decide +kernel
theorem dX10_takeList_101 : decode cX10_takeList 101 = .ok (.getfield 118, 3) := by decide +kernel
theorem dX10_takeList_104 : decode cX10_takeList 104 = .ok (.invokevirtual 136, 3) := by decide +kernel
theorem dX10_takeList_107 : decode cX10_takeList 107 = .ok (.ifCond .eq 7, 3) := by decide +kernel
theorem dX10_takeList_110 : decode cX10_takeList 110 = .ok (.iconst 1, 1) := by decide +kernel
theorem dX10_takeList_111 : decode cX10_takeList 111 = .ok (.goto 4, 3) := by decide +kernel
theorem dX10_takeList_114 : decode cX10_takeList 114 = .ok (.iconst 0, 1) := by decide +kernel
theorem dX10_takeList_115 : decode cX10_takeList 115 = .ok (.istore 5, 2) := by decide +kernel
theorem dX10_takeList_117 : decode cX10_takeList 117 = .ok (.iload 5, 2) := by decide +kernel
theorem dX10_takeList_119 : decode cX10_takeList 119 = .ok (.ifCond .eq 45, 3) := by decide +kernel
theorem dX10_takeList_122 : decode cX10_takeList 122 = .ok (.aload_n 0, 1) := by decide +kernel
theorem dX10_takeList_123 : decode cX10_takeList 123 = .ok (.iload_n 1, 1) := by decide +kernel
theorem dX10_takeList_124 : decode cX10_takeList 124 = .ok (.iconst 3, 1) := by decide +kernel
theorem dX10_takeList_125 : decode cX10_takeList 125 = .ok (.if_icmp .eq 8, 3) := by decide +kernel
theorem dX10_takeList_128 : decode cX10_takeList 128 = .ok (.iload_n 1, 1) := by decide +kernel
theorem dX10_takeList_129 : decode cX10_takeList 129 = .ok (.iconst 4, 1) := by decide +kernel
theorem dX10_takeList_130 : decode cX10_takeList 130 = .ok (.if_icmp .ne 13, 3) := by decide +kernel
theorem dX10_takeList_133 : decode cX10_takeList 133 = .ok (.aload_n 0, 1) := by decide +kernel
theorem dX10_takeList_134 : decode cX10_takeList 134 = .ok (.iload_n 1, 1) := by decide +kernel
theorem dX10_takeList_135 : decode cX10_takeList 135 = .ok (.iload 4, 2) := by decide +kernel
theorem dX10_takeList_137 : decode cX10_takeList 137 = .ok (.invokevirtual 151, 3) := by decide +kernel
theorem dX10_takeList_140 : decode cX10_takeList 140 = .ok (.ifCond .ne 7, 3) := by decide +kernel
theorem dX10_takeList_143 : decode cX10_takeList 143 = .ok (.iconst 1, 1) := by decide +kernel
theorem dX10_takeList_144 : decode cX10_takeList 144 = .ok (.goto 4, 3) := by decide +kernel
theorem dX10_takeList_147 : decode cX10_takeList 147 = .ok (.iconst 0, 1) := by decide +kernel
theorem dX10_takeList_148 : decode cX10_takeList 148 = .ok (.bipush 6, 2) := by decide +kernel
theorem dX10_takeList_150 : decode cX10_takeList 150 = .ok (.aload_n 0, 1) := by decide +kernel
theorem dX10_takeList_151 : decode cX10_takeList 151 = .ok (.getfield 118, 3) := by decide +kernel
theorem dX10_takeList_154 : decode cX10_takeList 154 = .ok (.invokevirtual 136, 3) := by decide +kernel
theorem dX10_takeList_157 : decode cX10_takeList 157 = .ok (.ifCond .eq 7, 3) := by decide +kernel
theorem dX10_takeList_160 : decode cX10_takeList 160 = .ok (.iconst 1, 1) := by decide +kernel
theorem dX10_takeList_161 : decode cX10_takeList 161 = .ok (.goto 4, 3) := by decide +kernel
theorem dX10_takeList_164 : decode cX10_takeList 164 = .ok (.iconst 0, 1) := by decide +kernel
theorem dX10_takeList_165 : decode cX10_takeList 165 = .ok (.istore 5, 2) := by decide +kernel
theorem dX10_takeList_167 : decode cX10_takeList 167 = .ok (.iload_n 3, 1) := by decide +kernel
theorem dX10_takeList_168 : decode cX10_takeList 168 = .ok (.iload 5, 2) := by decide +kernel
theorem dX10_takeList_170 : decode cX10_takeList 170 = .ok (.ifCond .eq 10, 3) := by decide +kernel
theorem dX10_takeList_173 : decode cX10_takeList 173 = .ok (.iconst 1, 1) := by decide +kernel
theorem dX10_takeList_174 : decode cX10_takeList 174 = .ok (.iload 4, 2) := by decide +kernel
theorem dX10_takeList_176 : decode cX10_takeList 176 = .ok (.ishl, 1) := by decide +kernel
theorem dX10_takeList_177 : decode cX10_takeList 177 = .ok (.goto 4, 3) := by decide +kernel
theorem dX10_takeList_180 : decode cX10_takeList 180 = .ok (.iconst 0, 1) := by decide +kernel
theorem dX10_takeList_181 : decode cX10_takeList 181 = .ok (.ior, 1) := by decide +kernel
theorem dX10_takeList_182 : decode cX10_takeList 182 = .ok (.istore_n 3, 1) := by decide +kernel
theorem dX10_takeList_183 : decode cX10_takeList 183 = .ok (.iload 5, 2) := by decide +kernel
theorem dX10_takeList_185 : decode cX10_takeList 185 = .ok (.ifCond .eq 16, 3) := by decide +kernel
theorem dX10_takeList_188 : decode cX10_takeList 188 = .ok (.aload_n 0, 1) := by decide +kernel
theorem dX10_takeList_189 : decode cX10_takeList 189 = .ok (.invokevirtual 114, 3) := by decide +kernel
theorem dX10_takeList_192 : decode cX10_takeList 192 = .ok (.bipush 44, 2) := by decide +kernel
theorem dX10_takeList_194 : decode cX10_takeList 194 = .ok (.if_icmp .ne 7, 3) := by decide +kernel
theorem dX10_takeList_197 : decode cX10_takeList 197 = .ok (.iconst 1, 1) := by decide +kernel
theorem dX10_takeList_198 : decode cX10_takeList 198 = .ok (.goto 4, 3) := by decide +kernel
theorem dX10_takeList_201 : decode cX10_takeList 201 = .ok (.iconst 0, 1) := by decide +kernel
theorem dX10_takeList_202 : decode cX10_takeList 202 = .ok (.istore_n 2, 1) := by decide +kernel
theorem dX10_takeList_203 : decode cX10_takeList 203 = .ok (.aload_n 0, 1) := by decide +kernel
theorem dX10_takeList_204 : decode cX10_takeList 204 = .ok (.dup, 1) := by decide +kernel
theorem dX10_takeList_205 : decode cX10_takeList 205 = .ok (.getfield 108, 3) := by decide +kernel
theorem dX10_takeList_208 : decode cX10_takeList 208 = .ok (.iload_n 2, 1) := by decide +kernel
theorem dX10_takeList_209 : decode cX10_takeList 209 = .ok (.invokestatic 154, 3) := by decide +kernel
theorem dX10_takeList_212 : decode cX10_takeList 212 = .ok (.iadd, 1) := by decide +kernel
theorem dX10_takeList_213 : decode cX10_takeList 213 = .ok (.putfield 108, 3) := by decide +kernel
theorem dX10_takeList_216 : decode cX10_takeList 216 = .ok (.goto (-212), 3) := by decide +kernel
theorem dX10_takeList_219 : decode cX10_takeList 219 = .ok (.aload_n 0, 1) := by decide +kernel
theorem dX10_takeList_220 : decode cX10_takeList 220 = .ok (.getfield 38, 3) := by decide +kernel
theorem dX10_takeList_223 : decode cX10_takeList 223 = .ok (.bipush 8, 2) := by decide +kernel
theorem dX10_takeList_225 : decode cX10_takeList 225 = .ok (.aload_n 0, 1) := by decide +kernel
theorem dX10_takeList_226 : decode cX10_takeList 226 = .ok (.getfield 140, 3) := by decide +kernel
theorem dX10_takeList_229 : decode cX10_takeList 229 = .ok (.imul, 1) := by decide +kernel
theorem dX10_takeList_230 : decode cX10_takeList 230 = .ok (.iload_n 1, 1) := by decide +kernel
theorem dX10_takeList_231 : decode cX10_takeList 231 = .ok (.iadd, 1) := by decide +kernel
theorem dX10_takeList_232 : decode cX10_takeList 232 = .ok (.iload_n 3, 1) := by decide +kernel
theorem dX10_takeList_233 : decode cX10_takeList 233 = .ok (.iastore, 1) := by decide +kernel
theorem dX10_takeList_234 : decode cX10_takeList 234 = .ok (.return_, 1) := by decide +kernel
theorem dX10_takeDying_0 : decode cX10_takeDying 0 = .ok (.aload_n 0, 1) := by decide +kernel
theorem dX10_takeDying_1 : decode cX10_takeDying 1 = .ok (.iconst 0, 1) := by decide +kernel
theorem dX10_takeDying_2 : decode cX10_takeDying 2 = .ok (.bipush 7, 2) := by decide +kernel
theorem dX10_takeDying_4 : decode cX10_takeDying 4 = .ok (.invokevirtual 147, 3) := by decide +kernel
theorem dX10_takeDying_7 : decode cX10_takeDying 7 = .ok (.istore_n 1, 1) := by decide +kernel
theorem dX10_takeDying_8 : decode cX10_takeDying 8 = .ok (.iconst 1, 1) := by decide +kernel
theorem dX10_takeDying_9 : decode cX10_takeDying 9 = .ok (.istore_n 2, 1) := by decide +kernel
theorem dX10_takeDying_10 : decode cX10_takeDying 10 = .ok (.iconst 0, 1) := by decide +kernel
theorem dX10_takeDying_11 : decode cX10_takeDying 11 = .ok (.istore_n 3, 1) := by decide +kernel
theorem dX10_takeDying_12 : decode cX10_takeDying 12 = .ok (.iload_n 3, 1) := by decide +kernel
theorem dX10_takeDying_13 : decode cX10_takeDying 13 = .ok (.aload_n 0, 1) := by decide +kernel
theorem dX10_takeDying_14 : decode cX10_takeDying 14 = .ok (.getfield 140, 3) := by decide +kernel
theorem dX10_takeDying_17 : decode cX10_takeDying 17 = .ok (.if_icmp .ge 29, 3) := by decide +kernel
theorem dX10_takeDying_20 : decode cX10_takeDying 20 = .ok (.iload_n 2, 1) := by decide +kernel
theorem dX10_takeDying_21 : decode cX10_takeDying 21 = .ok (.ifCond .eq 17, 3) := by decide +kernel
theorem dX10_takeDying_24 : decode cX10_takeDying 24 = .ok (.aload_n 0, 1) := by decide +kernel
theorem dX10_takeDying_25 : decode cX10_takeDying 25 = .ok (.getfield 35, 3) := by decide +kernel
theorem dX10_takeDying_28 : decode cX10_takeDying 28 = .ok (.iload_n 3, 1) := by decide +kernel
theorem dX10_takeDying_29 : decode cX10_takeDying 29 = .ok (.iaload, 1) := by decide +kernel
theorem dX10_takeDying_30 : decode cX10_takeDying 30 = .ok (.iload_n 1, 1) := by decide +kernel
theorem dX10_takeDying_31 : decode cX10_takeDying 31 = .ok (.if_icmp .eq 7, 3) := by decide +kernel
theorem dX10_takeDying_34 : decode cX10_takeDying 34 = .ok (.iconst 1, 1) := by decide +kernel
theorem dX10_takeDying_35 : decode cX10_takeDying 35 = .ok (.goto 4, 3) := by decide +kernel
theorem dX10_takeDying_38 : decode cX10_takeDying 38 = .ok (.iconst 0, 1) := by decide +kernel
theorem dX10_takeDying_39 : decode cX10_takeDying 39 = .ok (.istore_n 2, 1) := by decide +kernel
theorem dX10_takeDying_40 : decode cX10_takeDying 40 = .ok (.iinc 3 1, 3) := by decide +kernel
theorem dX10_takeDying_43 : decode cX10_takeDying 43 = .ok (.goto (-31), 3) := by decide +kernel
theorem dX10_takeDying_46 : decode cX10_takeDying 46 = .ok (.aload_n 0, 1) := by decide +kernel
theorem dX10_takeDying_47 : decode cX10_takeDying 47 = .ok (.getfield 111, 3) := by decide +kernel
theorem dX10_takeDying_50 : decode cX10_takeDying 50 = .ok (.ifCond .ne 47, 3) := by decide +kernel
theorem dX10_takeDying_53 : decode cX10_takeDying 53 = .ok (.aload_n 0, 1) := by decide +kernel
theorem dX10_takeDying_54 : decode cX10_takeDying 54 = .ok (.iload_n 2, 1) := by decide +kernel
theorem dX10_takeDying_55 : decode cX10_takeDying 55 = .ok (.bipush 7, 2) := by decide +kernel
theorem dX10_takeDying_57 : decode cX10_takeDying 57 = .ok (.aload_n 0, 1) := by decide +kernel
theorem dX10_takeDying_58 : decode cX10_takeDying 58 = .ok (.getfield 118, 3) := by decide +kernel
theorem dX10_takeDying_61 : decode cX10_takeDying 61 = .ok (.invokevirtual 136, 3) := by decide +kernel
theorem dX10_takeDying_64 : decode cX10_takeDying 64 = .ok (.ifCond .eq 33, 3) := by decide +kernel
theorem dX10_takeDying_67 : decode cX10_takeDying 67 = .ok (.aload_n 0, 1) := by decide +kernel
theorem dX10_takeDying_68 : decode cX10_takeDying 68 = .ok (.getfield 35, 3) := by decide +kernel
theorem dX10_takeDying_71 : decode cX10_takeDying 71 = .ok (.aload_n 0, 1) := by decide +kernel
theorem dX10_takeDying_72 : decode cX10_takeDying 72 = .ok (.getfield 140, 3) := by decide +kernel
theorem dX10_takeDying_75 : decode cX10_takeDying 75 = .ok (.iload_n 1, 1) := by decide +kernel
theorem dX10_takeDying_76 : decode cX10_takeDying 76 = .ok (.iastore, 1) := by decide +kernel
theorem dX10_takeDying_77 : decode cX10_takeDying 77 = .ok (.aload_n 0, 1) := by decide +kernel
theorem dX10_takeDying_78 : decode cX10_takeDying 78 = .ok (.getfield 38, 3) := by decide +kernel
theorem dX10_takeDying_81 : decode cX10_takeDying 81 = .ok (.bipush 8, 2) := by decide +kernel
theorem dX10_takeDying_83 : decode cX10_takeDying 83 = .ok (.aload_n 0, 1) := by decide +kernel
theorem dX10_takeDying_84 : decode cX10_takeDying 84 = .ok (.getfield 140, 3) := by decide +kernel
theorem dX10_takeDying_87 : decode cX10_takeDying 87 = .ok (.imul, 1) := by decide +kernel
theorem dX10_takeDying_88 : decode cX10_takeDying 88 = .ok (.iconst 1, 1) := by decide +kernel
theorem dX10_takeDying_89 : decode cX10_takeDying 89 = .ok (.iadd, 1) := by decide +kernel
theorem dX10_takeDying_90 : decode cX10_takeDying 90 = .ok (.dup2, 1) := by decide +kernel
theorem dX10_takeDying_91 : decode cX10_takeDying 91 = .ok (.iaload, 1) := by decide +kernel
theorem dX10_takeDying_92 : decode cX10_takeDying 92 = .ok (.iconst 1, 1) := by decide +kernel
theorem dX10_takeDying_93 : decode cX10_takeDying 93 = .ok (.iload_n 1, 1) := by decide +kernel
theorem dX10_takeDying_94 : decode cX10_takeDying 94 = .ok (.ishl, 1) := by decide +kernel
theorem dX10_takeDying_95 : decode cX10_takeDying 95 = .ok (.ior, 1) := by decide +kernel
theorem dX10_takeDying_96 : decode cX10_takeDying 96 = .ok (.iastore, 1) := by decide +kernel
theorem dX10_takeDying_97 : decode cX10_takeDying 97 = .ok (.return_, 1) := by decide +kernel
theorem dX10_takeScene_0 : decode cX10_takeScene 0 = .ok (.aload_n 0, 1) := by decide +kernel
theorem dX10_takeScene_1 : decode cX10_takeScene 1 = .ok (.invokevirtual 158, 3) := by decide +kernel
theorem dX10_takeScene_4 : decode cX10_takeScene 4 = .ok (.aload_n 0, 1) := by decide +kernel
theorem dX10_takeScene_5 : decode cX10_takeScene 5 = .ok (.aload_n 0, 1) := by decide +kernel
theorem dX10_takeScene_6 : decode cX10_takeScene 6 = .ok (.iconst 5, 1) := by decide +kernel
theorem dX10_takeScene_7 : decode cX10_takeScene 7 = .ok (.bipush 115, 2) := by decide +kernel
theorem dX10_takeScene_9 : decode cX10_takeScene 9 = .ok (.bipush 99, 2) := by decide +kernel
theorem dX10_takeScene_11 : decode cX10_takeScene 11 = .ok (.bipush 101, 2) := by decide +kernel
theorem dX10_takeScene_13 : decode cX10_takeScene 13 = .ok (.bipush 110, 2) := by decide +kernel
theorem dX10_takeScene_15 : decode cX10_takeScene 15 = .ok (.bipush 101, 2) := by decide +kernel
theorem dX10_takeScene_17 : decode cX10_takeScene 17 = .ok (.invokevirtual 128, 3) := by decide +kernel
theorem dX10_takeScene_20 : decode cX10_takeScene 20 = .ok (.iconst 1, 1) := by decide +kernel
theorem dX10_takeScene_21 : decode cX10_takeScene 21 = .ok (.aload_n 0, 1) := by decide +kernel
theorem dX10_takeScene_22 : decode cX10_takeScene 22 = .ok (.getfield 118, 3) := by decide +kernel
theorem dX10_takeScene_25 : decode cX10_takeScene 25 = .ok (.invokevirtual 136, 3) := by decide +kernel
theorem dX10_takeScene_28 : decode cX10_takeScene 28 = .ok (.ifCond .eq 216, 3) := by decide +kernel
theorem dX10_takeScene_31 : decode cX10_takeScene 31 = .ok (.aload_n 0, 1) := by decide +kernel
theorem dX10_takeScene_32 : decode cX10_takeScene 32 = .ok (.aload_n 0, 1) := by decide +kernel
theorem dX10_takeScene_33 : decode cX10_takeScene 33 = .ok (.getfield 140, 3) := by decide +kernel
theorem dX10_takeScene_36 : decode cX10_takeScene 36 = .ok (.bipush 10, 2) := by decide +kernel
theorem dX10_takeScene_38 : decode cX10_takeScene 38 = .ok (.if_icmp .ge 7, 3) := by decide +kernel
theorem dX10_takeScene_41 : decode cX10_takeScene 41 = .ok (.iconst 1, 1) := by decide +kernel
theorem dX10_takeScene_42 : decode cX10_takeScene 42 = .ok (.goto 4, 3) := by decide +kernel
theorem dX10_takeScene_45 : decode cX10_takeScene 45 = .ok (.iconst 0, 1) := by decide +kernel
theorem dX10_takeScene_46 : decode cX10_takeScene 46 = .ok (.iconst 5, 1) := by decide +kernel
theorem dX10_takeScene_47 : decode cX10_takeScene 47 = .ok (.aload_n 0, 1) := by decide +kernel
theorem dX10_takeScene_48 : decode cX10_takeScene 48 = .ok (.getfield 118, 3) := by decide +kernel
theorem dX10_takeScene_51 : decode cX10_takeScene 51 = .ok (.invokevirtual 136, 3) := by decide +kernel
theorem dX10_takeScene_54 : decode cX10_takeScene 54 = .ok (.ifCond .eq 190, 3) := by decide +kernel
theorem dX10_takeScene_57 : decode cX10_takeScene 57 = .ok (.aload_n 0, 1) := by decide +kernel
theorem dX10_takeScene_58 : decode cX10_takeScene 58 = .ok (.getfield 32, 3) := by decide +kernel
theorem dX10_takeScene_61 : decode cX10_takeScene 61 = .ok (.aload_n 0, 1) := by decide +kernel
theorem dX10_takeScene_62 : decode cX10_takeScene 62 = .ok (.getfield 140, 3) := by decide +kernel
theorem dX10_takeScene_65 : decode cX10_takeScene 65 = .ok (.aload_n 0, 1) := by decide +kernel
theorem dX10_takeScene_66 : decode cX10_takeScene 66 = .ok (.iconst 1, 1) := by decide +kernel
theorem dX10_takeScene_67 : decode cX10_takeScene 67 = .ok (.bipush 99, 2) := by decide +kernel
theorem dX10_takeScene_69 : decode cX10_takeScene 69 = .ok (.invokevirtual 147, 3) := by decide +kernel
theorem dX10_takeScene_72 : decode cX10_takeScene 72 = .ok (.iastore, 1) := by decide +kernel
theorem dX10_takeScene_73 : decode cX10_takeScene 73 = .ok (.aload_n 0, 1) := by decide +kernel
theorem dX10_takeScene_74 : decode cX10_takeScene 74 = .ok (.getfield 35, 3) := by decide +kernel
theorem dX10_takeScene_77 : decode cX10_takeScene 77 = .ok (.aload_n 0, 1) := by decide +kernel
theorem dX10_takeScene_78 : decode cX10_takeScene 78 = .ok (.getfield 140, 3) := by decide +kernel
theorem dX10_takeScene_81 : decode cX10_takeScene 81 = .ok (.iconst (-1), 1) := by decide +kernel
theorem dX10_takeScene_82 : decode cX10_takeScene 82 = .ok (.iastore, 1) := by decide +kernel
theorem dX10_takeScene_83 : decode cX10_takeScene 83 = .ok (.iconst 0, 1) := by decide +kernel
theorem dX10_takeScene_84 : decode cX10_takeScene 84 = .ok (.istore_n 1, 1) := by decide +kernel
theorem dX10_takeScene_85 : decode cX10_takeScene 85 = .ok (.iload_n 1, 1) := by decide +kernel
theorem dX10_takeScene_86 : decode cX10_takeScene 86 = .ok (.bipush 8, 2) := by decide +kernel
theorem dX10_takeScene_88 : decode cX10_takeScene 88 = .ok (.if_icmp .ge 24, 3) := by decide +kernel
theorem dX10_takeScene_91 : decode cX10_takeScene 91 = .ok (.aload_n 0, 1) := by decide +kernel
theorem dX10_takeScene_92 : decode cX10_takeScene 92 = .ok (.getfield 38, 3) := by decide +kernel
theorem dX10_takeScene_95 : decode cX10_takeScene 95 = .ok (.bipush 8, 2) := by decide +kernel
theorem dX10_takeScene_97 : decode cX10_takeScene 97 = .ok (.aload_n 0, 1) := by decide +kernel
theorem dX10_takeScene_98 : decode cX10_takeScene 98 = .ok (.getfield 140, 3) := by decide +kernel
theorem dX10_takeScene_101 : decode cX10_takeScene 101 = .ok (.imul, 1) := by decide +kernel
theorem dX10_takeScene_102 : decode cX10_takeScene 102 = .ok (.iload_n 1, 1) := by decide +kernel
theorem dX10_takeScene_103 : decode cX10_takeScene 103 = .ok (.iadd, 1) := by decide +kernel
theorem dX10_takeScene_104 : decode cX10_takeScene 104 = .ok (.iconst 0, 1) := by decide +kernel
theorem dX10_takeScene_105 : decode cX10_takeScene 105 = .ok (.iastore, 1) := by decide +kernel
theorem dX10_takeScene_106 : decode cX10_takeScene 106 = .ok (.iinc 1 1, 3) := by decide +kernel
theorem dX10_takeScene_109 : decode cX10_takeScene 109 = .ok (.goto (-24), 3) := by decide +kernel
theorem dX10_takeScene_112 : decode cX10_takeScene 112 = .ok (.iconst (-1), 1) := by decide +kernel
theorem dX10_takeScene_113 : decode cX10_takeScene 113 = .ok (.istore_n 1, 1) := by decide +kernel
theorem dX10_takeScene_114 : decode cX10_takeScene 114 = .ok (.aload_n 0, 1) := by decide +kernel
theorem dX10_takeScene_115 : decode cX10_takeScene 115 = .ok (.getfield 111, 3) := by decide +kernel
theorem dX10_takeScene_118 : decode cX10_takeScene 118 = .ok (.ifCond .ne 92, 3) := by decide +kernel
theorem dX10_takeScene_121 : decode cX10_takeScene 121 = .ok (.aload_n 0, 1) := by decide +kernel
theorem dX10_takeScene_122 : decode cX10_takeScene 122 = .ok (.invokevirtual 114, 3) := by decide +kernel
theorem dX10_takeScene_125 : decode cX10_takeScene 125 = .ok (.bipush 59, 2) := by decide +kernel
theorem dX10_takeScene_127 : decode cX10_takeScene 127 = .ok (.if_icmp .eq 83, 3) := by decide +kernel
theorem dX10_takeScene_130 : decode cX10_takeScene 130 = .ok (.aload_n 0, 1) := by decide +kernel
theorem dX10_takeScene_131 : decode cX10_takeScene 131 = .ok (.invokevirtual 158, 3) := by decide +kernel
theorem dX10_takeScene_134 : decode cX10_takeScene 134 = .ok (.aload_n 0, 1) := by decide +kernel
theorem dX10_takeScene_135 : decode cX10_takeScene 135 = .ok (.invokevirtual 161, 3) := by decide +kernel
theorem dX10_takeScene_138 : decode cX10_takeScene 138 = .ok (.istore_n 2, 1) := by decide +kernel
theorem dX10_takeScene_139 : decode cX10_takeScene 139 = .ok (.aload_n 0, 1) := by decide +kernel
theorem dX10_takeScene_140 : decode cX10_takeScene 140 = .ok (.iload_n 2, 1) := by decide +kernel
theorem dX10_takeScene_141 : decode cX10_takeScene 141 = .ok (.iload_n 1, 1) := by decide +kernel
theorem dX10_takeScene_142 : decode cX10_takeScene 142 = .ok (.if_icmp .le 7, 3) := by decide +kernel
theorem dX10_takeScene_145 : decode cX10_takeScene 145 = .ok (.iconst 1, 1) := by decide +kernel
theorem dX10_takeScene_146 : decode cX10_takeScene 146 = .ok (.goto 4, 3) := by decide +kernel
theorem dX10_takeScene_149 : decode cX10_takeScene 149 = .ok (.iconst 0, 1) := by decide +kernel
theorem dX10_takeScene_150 : decode cX10_takeScene 150 = .ok (.iconst 1, 1) := by decide +kernel
theorem dX10_takeScene_151 : decode cX10_takeScene 151 = .ok (.aload_n 0, 1) := by decide +kernel
theorem dX10_takeScene_152 : decode cX10_takeScene 152 = .ok (.getfield 118, 3) := by decide +kernel
theorem dX10_takeScene_155 : decode cX10_takeScene 155 = .ok (.invokevirtual 136, 3) := by decide +kernel
theorem dX10_takeScene_158 : decode cX10_takeScene 158 = .ok (.ifCond .eq 49, 3) := by decide +kernel
theorem dX10_takeScene_161 : decode cX10_takeScene 161 = .ok (.iload_n 2, 1) := by decide +kernel
theorem dX10_takeScene_162 : decode cX10_takeScene 162 = .ok (.istore_n 1, 1) := by decide +kernel
theorem dX10_takeScene_163 : decode cX10_takeScene 163 = .ok (.iload_n 2, 1) := by decide +kernel
theorem dX10_takeScene_164 : decode cX10_takeScene 164 = .ok (.ifCond .ne 25, 3) := by decide +kernel
theorem dX10_takeScene_167 : decode cX10_takeScene 167 = .ok (.aload_n 0, 1) := by decide +kernel
theorem dX10_takeScene_168 : decode cX10_takeScene 168 = .ok (.getfield 38, 3) := by decide +kernel
theorem dX10_takeScene_171 : decode cX10_takeScene 171 = .ok (.bipush 8, 2) := by decide +kernel
theorem dX10_takeScene_173 : decode cX10_takeScene 173 = .ok (.aload_n 0, 1) := by decide +kernel
theorem dX10_takeScene_174 : decode cX10_takeScene 174 = .ok (.getfield 140, 3) := by decide +kernel
theorem dX10_takeScene_177 : decode cX10_takeScene 177 = .ok (.imul, 1) := by decide +kernel
theorem dX10_takeScene_178 : decode cX10_takeScene 178 = .ok (.aload_n 0, 1) := by decide +kernel
theorem dX10_takeScene_179 : decode cX10_takeScene 179 = .ok (.iconst 0, 1) := by decide +kernel
theorem dX10_takeScene_180 : decode cX10_takeScene 180 = .ok (.bipush 9, 2) := by decide +kernel
theorem dX10_takeScene_182 : decode cX10_takeScene 182 = .ok (.invokevirtual 147, 3) := by decide +kernel
theorem dX10_takeScene_185 : decode cX10_takeScene 185 = .ok (.iastore, 1) := by decide +kernel
theorem dX10_takeScene_186 : decode cX10_takeScene 186 = .ok (.goto 21, 3) := by decide +kernel
theorem dX10_takeScene_189 : decode cX10_takeScene 189 = .ok (.iload_n 2, 1) := by decide +kernel
theorem dX10_takeScene_190 : decode cX10_takeScene 190 = .ok (.bipush 7, 2) := by decide +kernel
theorem dX10_takeScene_192 : decode cX10_takeScene 192 = .ok (.if_icmp .ne 10, 3) := by decide +kernel
theorem dX10_takeScene_195 : decode cX10_takeScene 195 = .ok (.aload_n 0, 1) := by decide +kernel
theorem dX10_takeScene_196 : decode cX10_takeScene 196 = .ok (.invokevirtual 164, 3) := by decide +kernel
theorem dX10_takeScene_199 : decode cX10_takeScene 199 = .ok (.goto 8, 3) := by decide +kernel
theorem dX10_takeScene_202 : decode cX10_takeScene 202 = .ok (.aload_n 0, 1) := by decide +kernel
theorem dX10_takeScene_203 : decode cX10_takeScene 203 = .ok (.iload_n 2, 1) := by decide +kernel
theorem dX10_takeScene_204 : decode cX10_takeScene 204 = .ok (.invokevirtual 167, 3) := by decide +kernel
theorem dX10_takeScene_207 : decode cX10_takeScene 207 = .ok (.goto (-93), 3) := by decide +kernel
theorem dX10_takeScene_210 : decode cX10_takeScene 210 = .ok (.aload_n 0, 1) := by decide +kernel
theorem dX10_takeScene_211 : decode cX10_takeScene 211 = .ok (.dup, 1) := by decide +kernel
theorem dX10_takeScene_212 : decode cX10_takeScene 212 = .ok (.getfield 108, 3) := by decide +kernel
theorem dX10_takeScene_215 : decode cX10_takeScene 215 = .ok (.aload_n 0, 1) := by decide +kernel
theorem dX10_takeScene_216 : decode cX10_takeScene 216 = .ok (.getfield 111, 3) := by decide +kernel
theorem dX10_takeScene_219 : decode cX10_takeScene 219 = .ok (.ifCond .ne 7, 3) := by decide +kernel
theorem dX10_takeScene_222 : decode cX10_takeScene 222 = .ok (.iconst 1, 1) := by decide +kernel
theorem dX10_takeScene_223 : decode cX10_takeScene 223 = .ok (.goto 4, 3) := by decide +kernel
theorem dX10_takeScene_226 : decode cX10_takeScene 226 = .ok (.iconst 0, 1) := by decide +kernel
theorem dX10_takeScene_227 : decode cX10_takeScene 227 = .ok (.invokestatic 154, 3) := by decide +kernel
theorem dX10_takeScene_230 : decode cX10_takeScene 230 = .ok (.iadd, 1) := by decide +kernel
theorem dX10_takeScene_231 : decode cX10_takeScene 231 = .ok (.putfield 108, 3) := by decide +kernel
theorem dX10_takeScene_234 : decode cX10_takeScene 234 = .ok (.aload_n 0, 1) := by decide +kernel
theorem dX10_takeScene_235 : decode cX10_takeScene 235 = .ok (.dup, 1) := by decide +kernel
theorem dX10_takeScene_236 : decode cX10_takeScene 236 = .ok (.getfield 140, 3) := by decide +kernel
theorem dX10_takeScene_239 : decode cX10_takeScene 239 = .ok (.iconst 1, 1) := by decide +kernel
theorem dX10_takeScene_240 : decode cX10_takeScene 240 = .ok (.iadd, 1) := by decide +kernel
theorem dX10_takeScene_241 : decode cX10_takeScene 241 = .ok (.putfield 140, 3) := by decide +kernel
theorem dX10_takeScene_244 : decode cX10_takeScene 244 = .ok (.return_, 1) := by decide +kernel
theorem dX10_story_0 : decode cX10_story 0 = .ok (.aload_n 0, 1) := by decide +kernel
theorem dX10_story_1 : decode cX10_story 1 = .ok (.iconst 0, 1) := by decide +kernel
theorem dX10_story_2 : decode cX10_story 2 = .ok (.putfield 108, 3) := by decide +kernel
theorem dX10_story_5 : decode cX10_story 5 = .ok (.aload_n 0, 1) := by decide +kernel
theorem dX10_story_6 : decode cX10_story 6 = .ok (.iconst 0, 1) := by decide +kernel
theorem dX10_story_7 : decode cX10_story 7 = .ok (.putfield 111, 3) := by decide +kernel
theorem dX10_story_10 : decode cX10_story 10 = .ok (.aload_n 0, 1) := by decide +kernel
theorem dX10_story_11 : decode cX10_story 11 = .ok (.iconst (-1), 1) := by decide +kernel
theorem dX10_story_12 : decode cX10_story 12 = .ok (.putfield 28, 3) := by decide +kernel
theorem dX10_story_15 : decode cX10_story 15 = .ok (.aload_n 0, 1) := by decide +kernel
theorem dX10_story_16 : decode cX10_story 16 = .ok (.iconst 0, 1) := by decide +kernel
theorem dX10_story_17 : decode cX10_story 17 = .ok (.putfield 140, 3) := by decide +kernel
theorem dX10_story_20 : decode cX10_story 20 = .ok (.aload_n 0, 1) := by decide +kernel
theorem dX10_story_21 : decode cX10_story 21 = .ok (.getfield 111, 3) := by decide +kernel
theorem dX10_story_24 : decode cX10_story 24 = .ok (.ifCond .ne 17, 3) := by decide +kernel
theorem dX10_story_27 : decode cX10_story 27 = .ok (.aload_n 0, 1) := by decide +kernel
theorem dX10_story_28 : decode cX10_story 28 = .ok (.invokevirtual 114, 3) := by decide +kernel
theorem dX10_story_31 : decode cX10_story 31 = .ok (.ifCond .lt 10, 3) := by decide +kernel
theorem dX10_story_34 : decode cX10_story 34 = .ok (.aload_n 0, 1) := by decide +kernel
theorem dX10_story_35 : decode cX10_story 35 = .ok (.invokevirtual 171, 3) := by decide +kernel
theorem dX10_story_38 : decode cX10_story 38 = .ok (.goto (-18), 3) := by decide +kernel
theorem dX10_story_41 : decode cX10_story 41 = .ok (.aload_n 0, 1) := by decide +kernel
theorem dX10_story_42 : decode cX10_story 42 = .ok (.iconst 0, 1) := by decide +kernel
theorem dX10_story_43 : decode cX10_story 43 = .ok (.putfield 103, 3) := by decide +kernel
theorem dX10_story_46 : decode cX10_story 46 = .ok (.aload_n 0, 1) := by decide +kernel
theorem dX10_story_47 : decode cX10_story 47 = .ok (.getfield 111, 3) := by decide +kernel
theorem dX10_story_50 : decode cX10_story 50 = .ok (.ifCond .le 11, 3) := by decide +kernel
theorem dX10_story_53 : decode cX10_story 53 = .ok (.bipush (-10), 2) := by decide +kernel
theorem dX10_story_55 : decode cX10_story 55 = .ok (.aload_n 0, 1) := by decide +kernel
theorem dX10_story_56 : decode cX10_story 56 = .ok (.getfield 111, 3) := by decide +kernel
theorem dX10_story_59 : decode cX10_story 59 = .ok (.isub, 1) := by decide +kernel
theorem dX10_story_60 : decode cX10_story 60 = .ok (.ireturn, 1) := by decide +kernel
theorem dX10_story_61 : decode cX10_story 61 = .ok (.aload_n 0, 1) := by decide +kernel
theorem dX10_story_62 : decode cX10_story 62 = .ok (.aload_n 0, 1) := by decide +kernel
theorem dX10_story_63 : decode cX10_story 63 = .ok (.getfield 140, 3) := by decide +kernel
theorem dX10_story_66 : decode cX10_story 66 = .ok (.putfield 174, 3) := by decide +kernel
theorem dX10_story_69 : decode cX10_story 69 = .ok (.iconst 0, 1) := by decide +kernel
theorem dX10_story_70 : decode cX10_story 70 = .ok (.istore_n 1, 1) := by decide +kernel
theorem dX10_story_71 : decode cX10_story 71 = .ok (.iload_n 1, 1) := by decide +kernel
theorem dX10_story_72 : decode cX10_story 72 = .ok (.aload_n 0, 1) := by decide +kernel
theorem dX10_story_73 : decode cX10_story 73 = .ok (.getfield 174, 3) := by decide +kernel
theorem dX10_story_76 : decode cX10_story 76 = .ok (.if_icmp .ge 33, 3) := by decide +kernel
theorem dX10_story_79 : decode cX10_story 79 = .ok (.aload_n 0, 1) := by decide +kernel
theorem dX10_story_80 : decode cX10_story 80 = .ok (.getfield 7, 3) := by decide +kernel
theorem dX10_story_83 : decode cX10_story 83 = .ok (.iload_n 1, 1) := by decide +kernel
theorem dX10_story_84 : decode cX10_story 84 = .ok (.aload_n 0, 1) := by decide +kernel
theorem dX10_story_85 : decode cX10_story 85 = .ok (.getfield 32, 3) := by decide +kernel
theorem dX10_story_88 : decode cX10_story 88 = .ok (.iload_n 1, 1) := by decide +kernel
theorem dX10_story_89 : decode cX10_story 89 = .ok (.iaload, 1) := by decide +kernel
theorem dX10_story_90 : decode cX10_story 90 = .ok (.iastore, 1) := by decide +kernel
theorem dX10_story_91 : decode cX10_story 91 = .ok (.aload_n 0, 1) := by decide +kernel
theorem dX10_story_92 : decode cX10_story 92 = .ok (.getfield 13, 3) := by decide +kernel
theorem dX10_story_95 : decode cX10_story 95 = .ok (.iload_n 1, 1) := by decide +kernel
theorem dX10_story_96 : decode cX10_story 96 = .ok (.aload_n 0, 1) := by decide +kernel
theorem dX10_story_97 : decode cX10_story 97 = .ok (.getfield 35, 3) := by decide +kernel
theorem dX10_story_100 : decode cX10_story 100 = .ok (.iload_n 1, 1) := by decide +kernel
theorem dX10_story_101 : decode cX10_story 101 = .ok (.iaload, 1) := by decide +kernel
theorem dX10_story_102 : decode cX10_story 102 = .ok (.iastore, 1) := by decide +kernel
theorem dX10_story_103 : decode cX10_story 103 = .ok (.iinc 1 1, 3) := by decide +kernel
theorem dX10_story_106 : decode cX10_story 106 = .ok (.goto (-35), 3) := by decide +kernel
theorem dX10_story_109 : decode cX10_story 109 = .ok (.iconst 0, 1) := by decide +kernel
theorem dX10_story_110 : decode cX10_story 110 = .ok (.istore_n 1, 1) := by decide +kernel
theorem dX10_story_111 : decode cX10_story 111 = .ok (.iload_n 1, 1) := by decide +kernel
theorem dX10_story_112 : decode cX10_story 112 = .ok (.bipush 80, 2) := by decide +kernel
theorem dX10_story_114 : decode cX10_story 114 = .ok (.if_icmp .ge 21, 3) := by decide +kernel
theorem dX10_story_117 : decode cX10_story 117 = .ok (.aload_n 0, 1) := by decide +kernel
theorem dX10_story_118 : decode cX10_story 118 = .ok (.getfield 16, 3) := by decide +kernel
theorem dX10_story_121 : decode cX10_story 121 = .ok (.iload_n 1, 1) := by decide +kernel
theorem dX10_story_122 : decode cX10_story 122 = .ok (.aload_n 0, 1) := by decide +kernel
theorem dX10_story_123 : decode cX10_story 123 = .ok (.getfield 38, 3) := by decide +kernel
theorem dX10_story_126 : decode cX10_story 126 = .ok (.iload_n 1, 1) := by decide +kernel
theorem dX10_story_127 : decode cX10_story 127 = .ok (.iaload, 1) := by decide +kernel
theorem dX10_story_128 : decode cX10_story 128 = .ok (.iastore, 1) := by decide +kernel
theorem dX10_story_129 : decode cX10_story 129 = .ok (.iinc 1 1, 3) := by decide +kernel
theorem dX10_story_132 : decode cX10_story 132 = .ok (.goto (-21), 3) := by decide +kernel
theorem dX10_story_135 : decode cX10_story 135 = .ok (.aload_n 0, 1) := by decide +kernel
theorem dX10_story_136 : decode cX10_story 136 = .ok (.iconst 0, 1) := by decide +kernel
theorem dX10_story_137 : decode cX10_story 137 = .ok (.putfield 177, 3) := by decide +kernel
theorem dX10_story_140 : decode cX10_story 140 = .ok (.aload_n 0, 1) := by decide +kernel
theorem dX10_story_141 : decode cX10_story 141 = .ok (.iconst 0, 1) := by decide +kernel
theorem dX10_story_142 : decode cX10_story 142 = .ok (.putfield 180, 3) := by decide +kernel
theorem dX10_story_145 : decode cX10_story 145 = .ok (.aload_n 0, 1) := by decide +kernel
theorem dX10_story_146 : decode cX10_story 146 = .ok (.iconst 0, 1) := by decide +kernel
theorem dX10_story_147 : decode cX10_story 147 = .ok (.putfield 183, 3) := by decide +kernel
theorem dX10_story_150 : decode cX10_story 150 = .ok (.aload_n 0, 1) := by decide +kernel
theorem dX10_story_151 : decode cX10_story 151 = .ok (.iconst 0, 1) := by decide +kernel
theorem dX10_story_152 : decode cX10_story 152 = .ok (.putfield 186, 3) := by decide +kernel
theorem dX10_story_155 : decode cX10_story 155 = .ok (.aload_n 0, 1) := by decide +kernel
theorem dX10_story_156 : decode cX10_story 156 = .ok (.dup, 1) := by decide +kernel
theorem dX10_story_157 : decode cX10_story 157 = .ok (.getfield 189, 3) := by decide +kernel
theorem dX10_story_160 : decode cX10_story 160 = .ok (.iconst 1, 1) := by decide +kernel
theorem dX10_story_161 : decode cX10_story 161 = .ok (.iadd, 1) := by decide +kernel
theorem dX10_story_162 : decode cX10_story 162 = .ok (.putfield 189, 3) := by decide +kernel
theorem dX10_story_165 : decode cX10_story 165 = .ok (.aload_n 0, 1) := by decide +kernel
theorem dX10_story_166 : decode cX10_story 166 = .ok (.getfield 174, 3) := by decide +kernel
theorem dX10_story_169 : decode cX10_story 169 = .ok (.ireturn, 1) := by decide +kernel
theorem dX10_fault_0 : decode cX10_fault 0 = .ok (.aload_n 0, 1) := by decide +kernel
theorem dX10_fault_1 : decode cX10_fault 1 = .ok (.getfield 28, 3) := by decide +kernel
theorem dX10_fault_4 : decode cX10_fault 4 = .ok (.ireturn, 1) := by decide +kernel
theorem dX10_setOf_0 : decode cX10_setOf 0 = .ok (.aload_n 0, 1) := by decide +kernel
theorem dX10_setOf_1 : decode cX10_setOf 1 = .ok (.getfield 16, 3) := by decide +kernel
theorem dX10_setOf_4 : decode cX10_setOf 4 = .ok (.bipush 8, 2) := by decide +kernel
theorem dX10_setOf_6 : decode cX10_setOf 6 = .ok (.iload_n 1, 1) := by decide +kernel
theorem dX10_setOf_7 : decode cX10_setOf 7 = .ok (.imul, 1) := by decide +kernel
theorem dX10_setOf_8 : decode cX10_setOf 8 = .ok (.iload_n 2, 1) := by decide +kernel
theorem dX10_setOf_9 : decode cX10_setOf 9 = .ok (.iadd, 1) := by decide +kernel
theorem dX10_setOf_10 : decode cX10_setOf 10 = .ok (.iaload, 1) := by decide +kernel
theorem dX10_setOf_11 : decode cX10_setOf 11 = .ok (.ireturn, 1) := by decide +kernel
theorem dX10_noScene_0 : decode cX10_noScene 0 = .ok (.iload_n 1, 1) := by decide +kernel
theorem dX10_noScene_1 : decode cX10_noScene 1 = .ok (.i2l, 1) := by decide +kernel
theorem dX10_noScene_2 : decode cX10_noScene 2 = .ok (.lconst 0, 1) := by decide +kernel
theorem dX10_noScene_3 : decode cX10_noScene 3 = .ok (.aload_n 0, 1) := by decide +kernel
theorem dX10_noScene_4 : decode cX10_noScene 4 = .ok (.getfield 174, 3) := by decide +kernel
theorem dX10_noScene_7 : decode cX10_noScene 7 = .ok (.iconst 1, 1) := by decide +kernel
theorem dX10_noScene_8 : decode cX10_noScene 8 = .ok (.isub, 1) := by decide +kernel
theorem dX10_noScene_9 : decode cX10_noScene 9 = .ok (.i2l, 1) := by decide +kernel
theorem dX10_noScene_10 : decode cX10_noScene 10 = .ok (.invokestatic 99, 3) := by decide +kernel
theorem dX10_noScene_13 : decode cX10_noScene 13 = .ok (.ifCond .ne 7, 3) := by decide +kernel
theorem dX10_noScene_16 : decode cX10_noScene 16 = .ok (.iconst 1, 1) := by decide +kernel
theorem dX10_noScene_17 : decode cX10_noScene 17 = .ok (.goto 4, 3) := by decide +kernel
theorem dX10_noScene_20 : decode cX10_noScene 20 = .ok (.iconst 0, 1) := by decide +kernel
theorem dX10_noScene_21 : decode cX10_noScene 21 = .ok (.ireturn, 1) := by decide +kernel
theorem dX10_all_0 : decode cX10_all 0 = .ok (.iconst 1, 1) := by decide +kernel
theorem dX10_all_1 : decode cX10_all 1 = .ok (.aload_n 0, 1) := by decide +kernel
theorem dX10_all_2 : decode cX10_all 2 = .ok (.getfield 174, 3) := by decide +kernel
theorem dX10_all_5 : decode cX10_all 5 = .ok (.ishl, 1) := by decide +kernel
theorem dX10_all_6 : decode cX10_all 6 = .ok (.iconst 1, 1) := by decide +kernel
theorem dX10_all_7 : decode cX10_all 7 = .ok (.isub, 1) := by decide +kernel
theorem dX10_all_8 : decode cX10_all 8 = .ok (.ireturn, 1) := by decide +kernel
theorem dX10_noSet_0 : decode cX10_noSet 0 = .ok (.iload_n 1, 1) := by decide +kernel
theorem dX10_noSet_1 : decode cX10_noSet 1 = .ok (.i2l, 1) := by decide +kernel
theorem dX10_noSet_2 : decode cX10_noSet 2 = .ok (.lconst 0, 1) := by decide +kernel
theorem dX10_noSet_3 : decode cX10_noSet 3 = .ok (.aload_n 0, 1) := by decide +kernel
theorem dX10_noSet_4 : decode cX10_noSet 4 = .ok (.invokevirtual 192, 3) := by decide +kernel
theorem dX10_noSet_7 : decode cX10_noSet 7 = .ok (.i2l, 1) := by decide +kernel
theorem dX10_noSet_8 : decode cX10_noSet 8 = .ok (.invokestatic 99, 3) := by decide +kernel
theorem dX10_noSet_11 : decode cX10_noSet 11 = .ok (.ifCond .ne 7, 3) := by decide +kernel
theorem dX10_noSet_14 : decode cX10_noSet 14 = .ok (.iconst 1, 1) := by decide +kernel
theorem dX10_noSet_15 : decode cX10_noSet 15 = .ok (.goto 4, 3) := by decide +kernel
theorem dX10_noSet_18 : decode cX10_noSet 18 = .ok (.iconst 0, 1) := by decide +kernel
theorem dX10_noSet_19 : decode cX10_noSet 19 = .ok (.ireturn, 1) := by decide +kernel
theorem dX10_scene_0 : decode cX10_scene 0 = .ok (.aload_n 0, 1) := by decide +kernel
theorem dX10_scene_1 : decode cX10_scene 1 = .ok (.iload_n 1, 1) := by decide +kernel
theorem dX10_scene_2 : decode cX10_scene 2 = .ok (.invokevirtual 195, 3) := by decide +kernel
theorem dX10_scene_5 : decode cX10_scene 5 = .ok (.ifCond .eq 7, 3) := by decide +kernel
theorem dX10_scene_8 : decode cX10_scene 8 = .ok (.sipush (-1001), 3) := by decide +kernel
theorem dX10_scene_11 : decode cX10_scene 11 = .ok (.ireturn, 1) := by decide +kernel
theorem dX10_scene_12 : decode cX10_scene 12 = .ok (.iload_n 2, 1) := by decide +kernel
theorem dX10_scene_13 : decode cX10_scene 13 = .ok (.tableswitch 84 0 9 #[55, 62, 62, 62, 62, 62, 62, 62, 71, 78], 55) := by decide +kernel
theorem dX10_scene_68 : decode cX10_scene 68 = .ok (.aload_n 0, 1) := by decide +kernel
theorem dX10_scene_69 : decode cX10_scene 69 = .ok (.getfield 7, 3) := by decide +kernel
theorem dX10_scene_72 : decode cX10_scene 72 = .ok (.iload_n 1, 1) := by decide +kernel
theorem dX10_scene_73 : decode cX10_scene 73 = .ok (.iaload, 1) := by decide +kernel
theorem dX10_scene_74 : decode cX10_scene 74 = .ok (.ireturn, 1) := by decide +kernel
theorem dX10_scene_75 : decode cX10_scene 75 = .ok (.aload_n 0, 1) := by decide +kernel
theorem dX10_scene_76 : decode cX10_scene 76 = .ok (.iload_n 1, 1) := by decide +kernel
theorem dX10_scene_77 : decode cX10_scene 77 = .ok (.iload_n 2, 1) := by decide +kernel
theorem dX10_scene_78 : decode cX10_scene 78 = .ok (.iconst 1, 1) := by decide +kernel
theorem dX10_scene_79 : decode cX10_scene 79 = .ok (.isub, 1) := by decide +kernel
theorem dX10_scene_80 : decode cX10_scene 80 = .ok (.invokevirtual 199, 3) := by decide +kernel
theorem dX10_scene_83 : decode cX10_scene 83 = .ok (.ireturn, 1) := by decide +kernel
theorem dX10_scene_84 : decode cX10_scene 84 = .ok (.aload_n 0, 1) := by decide +kernel
theorem dX10_scene_85 : decode cX10_scene 85 = .ok (.getfield 13, 3) := by decide +kernel
theorem dX10_scene_88 : decode cX10_scene 88 = .ok (.iload_n 1, 1) := by decide +kernel
theorem dX10_scene_89 : decode cX10_scene 89 = .ok (.iaload, 1) := by decide +kernel
theorem dX10_scene_90 : decode cX10_scene 90 = .ok (.ireturn, 1) := by decide +kernel
theorem dX10_scene_91 : decode cX10_scene 91 = .ok (.aload_n 0, 1) := by decide +kernel
theorem dX10_scene_92 : decode cX10_scene 92 = .ok (.iload_n 1, 1) := by decide +kernel
theorem dX10_scene_93 : decode cX10_scene 93 = .ok (.invokevirtual 202, 3) := by decide +kernel
theorem dX10_scene_96 : decode cX10_scene 96 = .ok (.ireturn, 1) := by decide +kernel
theorem dX10_scene_97 : decode cX10_scene 97 = .ok (.sipush (-1002), 3) := by decide +kernel
theorem dX10_scene_100 : decode cX10_scene 100 = .ok (.ireturn, 1) := by decide +kernel
theorem dX10_never_0 : decode cX10_never 0 = .ok (.iload_n 1, 1) := by decide +kernel
theorem dX10_never_1 : decode cX10_never 1 = .ok (.i2l, 1) := by decide +kernel
theorem dX10_never_2 : decode cX10_never 2 = .ok (.lconst 0, 1) := by decide +kernel
theorem dX10_never_3 : decode cX10_never 3 = .ok (.ldc2_w 206, 3) := by decide +kernel
theorem dX10_never_6 : decode cX10_never 6 = .ok (.invokestatic 99, 3) := by decide +kernel
theorem dX10_never_9 : decode cX10_never 9 = .ok (.ifCond .eq 20, 3) := by decide +kernel
theorem dX10_never_12 : decode cX10_never 12 = .ok (.iload_n 2, 1) := by decide +kernel
theorem dX10_never_13 : decode cX10_never 13 = .ok (.i2l, 1) := by decide +kernel
theorem dX10_never_14 : decode cX10_never 14 = .ok (.lconst 0, 1) := by decide +kernel
theorem dX10_never_15 : decode cX10_never 15 = .ok (.ldc2_w 206, 3) := by decide +kernel
theorem dX10_never_18 : decode cX10_never 18 = .ok (.invokestatic 99, 3) := by decide +kernel
theorem dX10_never_21 : decode cX10_never 21 = .ok (.ifCond .eq 8, 3) := by decide +kernel
theorem dX10_never_24 : decode cX10_never 24 = .ok (.iload_n 1, 1) := by decide +kernel
theorem dX10_never_25 : decode cX10_never 25 = .ok (.iload_n 2, 1) := by decide +kernel
theorem dX10_never_26 : decode cX10_never 26 = .ok (.if_icmp .ne 7, 3) := by decide +kernel
theorem dX10_never_29 : decode cX10_never 29 = .ok (.sipush (-1001), 3) := by decide +kernel
theorem dX10_never_32 : decode cX10_never 32 = .ok (.ireturn, 1) := by decide +kernel
theorem dX10_never_33 : decode cX10_never 33 = .ok (.aload_n 0, 1) := by decide +kernel
theorem dX10_never_34 : decode cX10_never 34 = .ok (.getfield 19, 3) := by decide +kernel
theorem dX10_never_37 : decode cX10_never 37 = .ok (.iload_n 1, 1) := by decide +kernel
theorem dX10_never_38 : decode cX10_never 38 = .ok (.iaload, 1) := by decide +kernel
theorem dX10_never_39 : decode cX10_never 39 = .ok (.iload_n 2, 1) := by decide +kernel
theorem dX10_never_40 : decode cX10_never 40 = .ok (.ishr, 1) := by decide +kernel
theorem dX10_never_41 : decode cX10_never 41 = .ok (.iconst 1, 1) := by decide +kernel
theorem dX10_never_42 : decode cX10_never 42 = .ok (.iand, 1) := by decide +kernel
theorem dX10_never_43 : decode cX10_never 43 = .ok (.istore 4, 2) := by decide +kernel
theorem dX10_never_45 : decode cX10_never 45 = .ok (.aload_n 0, 1) := by decide +kernel
theorem dX10_never_46 : decode cX10_never 46 = .ok (.getfield 19, 3) := by decide +kernel
theorem dX10_never_49 : decode cX10_never 49 = .ok (.iload_n 1, 1) := by decide +kernel
theorem dX10_never_50 : decode cX10_never 50 = .ok (.iload_n 3, 1) := by decide +kernel
theorem dX10_never_51 : decode cX10_never 51 = .ok (.ifCond .eq 16, 3) := by decide +kernel
theorem dX10_never_54 : decode cX10_never 54 = .ok (.aload_n 0, 1) := by decide +kernel
theorem dX10_never_55 : decode cX10_never 55 = .ok (.getfield 19, 3) := by decide +kernel
theorem dX10_never_58 : decode cX10_never 58 = .ok (.iload_n 1, 1) := by decide +kernel
theorem dX10_never_59 : decode cX10_never 59 = .ok (.iaload, 1) := by decide +kernel
theorem dX10_never_60 : decode cX10_never 60 = .ok (.iconst 1, 1) := by decide +kernel
theorem dX10_never_61 : decode cX10_never 61 = .ok (.iload_n 2, 1) := by decide +kernel
theorem dX10_never_62 : decode cX10_never 62 = .ok (.ishl, 1) := by decide +kernel
theorem dX10_never_63 : decode cX10_never 63 = .ok (.ior, 1) := by decide +kernel
theorem dX10_never_64 : decode cX10_never 64 = .ok (.goto 15, 3) := by decide +kernel
theorem dX10_never_67 : decode cX10_never 67 = .ok (.aload_n 0, 1) := by decide +kernel
theorem dX10_never_68 : decode cX10_never 68 = .ok (.getfield 19, 3) := by decide +kernel
theorem dX10_never_71 : decode cX10_never 71 = .ok (.iload_n 1, 1) := by decide +kernel
theorem dX10_never_72 : decode cX10_never 72 = .ok (.iaload, 1) := by decide +kernel
theorem dX10_never_73 : decode cX10_never 73 = .ok (.iconst 1, 1) := by decide +kernel
theorem dX10_never_74 : decode cX10_never 74 = .ok (.iload_n 2, 1) := by decide +kernel
theorem dX10_never_75 : decode cX10_never 75 = .ok (.ishl, 1) := by decide +kernel
theorem dX10_never_76 : decode cX10_never 76 = .ok (.iconst (-1), 1) := by decide +kernel
theorem dX10_never_77 : decode cX10_never 77 = .ok (.ixor, 1) := by decide +kernel
theorem dX10_never_78 : decode cX10_never 78 = .ok (.iand, 1) := by decide +kernel
theorem dX10_never_79 : decode cX10_never 79 = .ok (.iastore, 1) := by decide +kernel
theorem dX10_never_80 : decode cX10_never 80 = .ok (.aload_n 0, 1) := by decide +kernel
theorem dX10_never_81 : decode cX10_never 81 = .ok (.getfield 19, 3) := by decide +kernel
theorem dX10_never_84 : decode cX10_never 84 = .ok (.iload_n 2, 1) := by decide +kernel
theorem dX10_never_85 : decode cX10_never 85 = .ok (.iload_n 3, 1) := by decide +kernel
theorem dX10_never_86 : decode cX10_never 86 = .ok (.ifCond .eq 16, 3) := by decide +kernel
theorem dX10_never_89 : decode cX10_never 89 = .ok (.aload_n 0, 1) := by decide +kernel
theorem dX10_never_90 : decode cX10_never 90 = .ok (.getfield 19, 3) := by decide +kernel
theorem dX10_never_93 : decode cX10_never 93 = .ok (.iload_n 2, 1) := by decide +kernel
theorem dX10_never_94 : decode cX10_never 94 = .ok (.iaload, 1) := by decide +kernel
theorem dX10_never_95 : decode cX10_never 95 = .ok (.iconst 1, 1) := by decide +kernel
theorem dX10_never_96 : decode cX10_never 96 = .ok (.iload_n 1, 1) := by decide +kernel
theorem dX10_never_97 : decode cX10_never 97 = .ok (.ishl, 1) := by decide +kernel
theorem dX10_never_98 : decode cX10_never 98 = .ok (.ior, 1) := by decide +kernel
theorem dX10_never_99 : decode cX10_never 99 = .ok (.goto 15, 3) := by decide +kernel
theorem dX10_never_102 : decode cX10_never 102 = .ok (.aload_n 0, 1) := by decide +kernel
theorem dX10_never_103 : decode cX10_never 103 = .ok (.getfield 19, 3) := by decide +kernel
theorem dX10_never_106 : decode cX10_never 106 = .ok (.iload_n 2, 1) := by decide +kernel
theorem dX10_never_107 : decode cX10_never 107 = .ok (.iaload, 1) := by decide +kernel
theorem dX10_never_108 : decode cX10_never 108 = .ok (.iconst 1, 1) := by decide +kernel
theorem dX10_never_109 : decode cX10_never 109 = .ok (.iload_n 1, 1) := by decide +kernel
theorem dX10_never_110 : decode cX10_never 110 = .ok (.ishl, 1) := by decide +kernel
theorem dX10_never_111 : decode cX10_never 111 = .ok (.iconst (-1), 1) := by decide +kernel
theorem dX10_never_112 : decode cX10_never 112 = .ok (.ixor, 1) := by decide +kernel
theorem dX10_never_113 : decode cX10_never 113 = .ok (.iand, 1) := by decide +kernel
theorem dX10_never_114 : decode cX10_never 114 = .ok (.iastore, 1) := by decide +kernel
theorem dX10_never_115 : decode cX10_never 115 = .ok (.iload 4, 2) := by decide +kernel
theorem dX10_never_117 : decode cX10_never 117 = .ok (.ireturn, 1) := by decide +kernel
theorem dX10_linesOf_0 : decode cX10_linesOf 0 = .ok (.iconst 0, 1) := by decide +kernel
theorem dX10_linesOf_1 : decode cX10_linesOf 1 = .ok (.istore_n 2, 1) := by decide +kernel
theorem dX10_linesOf_2 : decode cX10_linesOf 2 = .ok (.iconst 0, 1) := by decide +kernel
theorem dX10_linesOf_3 : decode cX10_linesOf 3 = .ok (.istore_n 3, 1) := by decide +kernel
theorem dX10_linesOf_4 : decode cX10_linesOf 4 = .ok (.iload_n 3, 1) := by decide +kernel
theorem dX10_linesOf_5 : decode cX10_linesOf 5 = .ok (.aload_n 0, 1) := by decide +kernel
theorem dX10_linesOf_6 : decode cX10_linesOf 6 = .ok (.getfield 174, 3) := by decide +kernel
theorem dX10_linesOf_9 : decode cX10_linesOf 9 = .ok (.if_icmp .ge 30, 3) := by decide +kernel
theorem dX10_linesOf_12 : decode cX10_linesOf 12 = .ok (.iload_n 2, 1) := by decide +kernel
theorem dX10_linesOf_13 : decode cX10_linesOf 13 = .ok (.iload_n 1, 1) := by decide +kernel
theorem dX10_linesOf_14 : decode cX10_linesOf 14 = .ok (.iload_n 3, 1) := by decide +kernel
theorem dX10_linesOf_15 : decode cX10_linesOf 15 = .ok (.invokestatic 143, 3) := by decide +kernel
theorem dX10_linesOf_18 : decode cX10_linesOf 18 = .ok (.ifCond .eq 12, 3) := by decide +kernel
theorem dX10_linesOf_21 : decode cX10_linesOf 21 = .ok (.aload_n 0, 1) := by decide +kernel
theorem dX10_linesOf_22 : decode cX10_linesOf 22 = .ok (.getfield 7, 3) := by decide +kernel
theorem dX10_linesOf_25 : decode cX10_linesOf 25 = .ok (.iload_n 3, 1) := by decide +kernel
theorem dX10_linesOf_26 : decode cX10_linesOf 26 = .ok (.iaload, 1) := by decide +kernel
theorem dX10_linesOf_27 : decode cX10_linesOf 27 = .ok (.goto 4, 3) := by decide +kernel
theorem dX10_linesOf_30 : decode cX10_linesOf 30 = .ok (.iconst 0, 1) := by decide +kernel
theorem dX10_linesOf_31 : decode cX10_linesOf 31 = .ok (.iadd, 1) := by decide +kernel
theorem dX10_linesOf_32 : decode cX10_linesOf 32 = .ok (.istore_n 2, 1) := by decide +kernel
theorem dX10_linesOf_33 : decode cX10_linesOf 33 = .ok (.iinc 3 1, 3) := by decide +kernel
theorem dX10_linesOf_36 : decode cX10_linesOf 36 = .ok (.goto (-32), 3) := by decide +kernel
theorem dX10_linesOf_39 : decode cX10_linesOf 39 = .ok (.iload_n 2, 1) := by decide +kernel
theorem dX10_linesOf_40 : decode cX10_linesOf 40 = .ok (.ireturn, 1) := by decide +kernel
theorem dX10_union_0 : decode cX10_union 0 = .ok (.iconst 0, 1) := by decide +kernel
theorem dX10_union_1 : decode cX10_union 1 = .ok (.istore_n 3, 1) := by decide +kernel
theorem dX10_union_2 : decode cX10_union 2 = .ok (.iconst 0, 1) := by decide +kernel
theorem dX10_union_3 : decode cX10_union 3 = .ok (.istore 4, 2) := by decide +kernel
theorem dX10_union_5 : decode cX10_union 5 = .ok (.iload 4, 2) := by decide +kernel
theorem dX10_union_7 : decode cX10_union 7 = .ok (.aload_n 0, 1) := by decide +kernel
theorem dX10_union_8 : decode cX10_union 8 = .ok (.getfield 174, 3) := by decide +kernel
theorem dX10_union_11 : decode cX10_union 11 = .ok (.if_icmp .ge 32, 3) := by decide +kernel
theorem dX10_union_14 : decode cX10_union 14 = .ok (.iload_n 3, 1) := by decide +kernel
theorem dX10_union_15 : decode cX10_union 15 = .ok (.iload_n 1, 1) := by decide +kernel
theorem dX10_union_16 : decode cX10_union 16 = .ok (.iload 4, 2) := by decide +kernel
theorem dX10_union_18 : decode cX10_union 18 = .ok (.invokestatic 143, 3) := by decide +kernel
theorem dX10_union_21 : decode cX10_union 21 = .ok (.ifCond .eq 13, 3) := by decide +kernel
theorem dX10_union_24 : decode cX10_union 24 = .ok (.aload_n 0, 1) := by decide +kernel
end
section
theorem dX10_union_25 : decode cX10_union 25 = .ok (.iload 4, 2) := by decide +kernel
theorem dX10_union_27 : decode cX10_union 27 = .ok (.iload_n 2, 1) := by decide +kernel
theorem dX10_union_28 : decode cX10_union 28 = .ok (.invokevirtual 199, 3) := by decide +kernel
theorem dX10_union_31 : decode cX10_union 31 = .ok (.goto 4, 3) := by decide +kernel
theorem dX10_union_34 : decode cX10_union 34 = .ok (.iconst 0, 1) := by decide +kernel
theorem dX10_union_35 : decode cX10_union 35 = .ok (.ior, 1) := by decide +kernel
theorem dX10_union_36 : decode cX10_union 36 = .ok (.istore_n 3, 1) := by decide +kernel
theorem dX10_union_37 : decode cX10_union 37 = .ok (.iinc 4 1, 3) := by decide +kernel
theorem dX10_union_40 : decode cX10_union 40 = .ok (.goto (-35), 3) := by decide +kernel
theorem dX10_union_43 : decode cX10_union 43 = .ok (.iload_n 3, 1) := by decide +kernel
theorem dX10_union_44 : decode cX10_union 44 = .ok (.ireturn, 1) := by decide +kernel
theorem dX10_nevers_0 : decode cX10_nevers 0 = .ok (.iconst 0, 1) := by decide +kernel
theorem dX10_nevers_1 : decode cX10_nevers 1 = .ok (.istore_n 1, 1) := by decide +kernel
theorem dX10_nevers_2 : decode cX10_nevers 2 = .ok (.iconst 0, 1) := by decide +kernel
theorem dX10_nevers_3 : decode cX10_nevers 3 = .ok (.istore_n 2, 1) := by decide +kernel
theorem dX10_nevers_4 : decode cX10_nevers 4 = .ok (.iload_n 2, 1) := by decide +kernel
theorem dX10_nevers_5 : decode cX10_nevers 5 = .ok (.bipush 8, 2) := by decide +kernel
theorem dX10_nevers_7 : decode cX10_nevers 7 = .ok (.if_icmp .ge 21, 3) := by decide +kernel
theorem dX10_nevers_10 : decode cX10_nevers 10 = .ok (.iload_n 1, 1) := by decide +kernel
theorem dX10_nevers_11 : decode cX10_nevers 11 = .ok (.aload_n 0, 1) := by decide +kernel
theorem dX10_nevers_12 : decode cX10_nevers 12 = .ok (.getfield 19, 3) := by decide +kernel
theorem dX10_nevers_15 : decode cX10_nevers 15 = .ok (.iload_n 2, 1) := by decide +kernel
theorem dX10_nevers_16 : decode cX10_nevers 16 = .ok (.iaload, 1) := by decide +kernel
theorem dX10_nevers_17 : decode cX10_nevers 17 = .ok (.invokestatic 208, 3) := by decide +kernel
theorem dX10_nevers_20 : decode cX10_nevers 20 = .ok (.iadd, 1) := by decide +kernel
theorem dX10_nevers_21 : decode cX10_nevers 21 = .ok (.istore_n 1, 1) := by decide +kernel
theorem dX10_nevers_22 : decode cX10_nevers 22 = .ok (.iinc 2 1, 3) := by decide +kernel
theorem dX10_nevers_25 : decode cX10_nevers 25 = .ok (.goto (-21), 3) := by decide +kernel
theorem dX10_nevers_28 : decode cX10_nevers 28 = .ok (.iload_n 1, 1) := by decide +kernel
theorem dX10_nevers_29 : decode cX10_nevers 29 = .ok (.iconst 2, 1) := by decide +kernel
theorem dX10_nevers_30 : decode cX10_nevers 30 = .ok (.idiv, 1) := by decide +kernel
theorem dX10_nevers_31 : decode cX10_nevers 31 = .ok (.ireturn, 1) := by decide +kernel
theorem dX10_count_0 : decode cX10_count 0 = .ok (.iload_n 1, 1) := by decide +kernel
theorem dX10_count_1 : decode cX10_count 1 = .ok (.tableswitch 102 0 7 #[47, 52, 60, 65, 70, 79, 84, 89], 47) := by decide +kernel
theorem dX10_count_48 : decode cX10_count 48 = .ok (.aload_n 0, 1) := by decide +kernel
theorem dX10_count_49 : decode cX10_count 49 = .ok (.getfield 174, 3) := by decide +kernel
theorem dX10_count_52 : decode cX10_count 52 = .ok (.ireturn, 1) := by decide +kernel
theorem dX10_count_53 : decode cX10_count 53 = .ok (.aload_n 0, 1) := by decide +kernel
theorem dX10_count_54 : decode cX10_count 54 = .ok (.getfield 180, 3) := by decide +kernel
theorem dX10_count_57 : decode cX10_count 57 = .ok (.invokestatic 208, 3) := by decide +kernel
theorem dX10_count_60 : decode cX10_count 60 = .ok (.ireturn, 1) := by decide +kernel
theorem dX10_count_61 : decode cX10_count 61 = .ok (.aload_n 0, 1) := by decide +kernel
theorem dX10_count_62 : decode cX10_count 62 = .ok (.getfield 177, 3) := by decide +kernel
theorem dX10_count_65 : decode cX10_count 65 = .ok (.ireturn, 1) := by decide +kernel
theorem dX10_count_66 : decode cX10_count 66 = .ok (.aload_n 0, 1) := by decide +kernel
theorem dX10_count_67 : decode cX10_count 67 = .ok (.getfield 183, 3) := by decide +kernel
theorem dX10_count_70 : decode cX10_count 70 = .ok (.ireturn, 1) := by decide +kernel
theorem dX10_count_71 : decode cX10_count 71 = .ok (.aload_n 0, 1) := by decide +kernel
theorem dX10_count_72 : decode cX10_count 72 = .ok (.aload_n 0, 1) := by decide +kernel
theorem dX10_count_73 : decode cX10_count 73 = .ok (.invokevirtual 192, 3) := by decide +kernel
theorem dX10_count_76 : decode cX10_count 76 = .ok (.invokevirtual 211, 3) := by decide +kernel
theorem dX10_count_79 : decode cX10_count 79 = .ok (.ireturn, 1) := by decide +kernel
theorem dX10_count_80 : decode cX10_count 80 = .ok (.aload_n 0, 1) := by decide +kernel
theorem dX10_count_81 : decode cX10_count 81 = .ok (.getfield 103, 3) := by decide +kernel
theorem dX10_count_84 : decode cX10_count 84 = .ok (.ireturn, 1) := by decide +kernel
theorem dX10_count_85 : decode cX10_count 85 = .ok (.aload_n 0, 1) := by decide +kernel
theorem dX10_count_86 : decode cX10_count 86 = .ok (.invokevirtual 214, 3) := by decide +kernel
theorem dX10_count_89 : decode cX10_count 89 = .ok (.ireturn, 1) := by decide +kernel
theorem dX10_count_90 : decode cX10_count 90 = .ok (.aload_n 0, 1) := by decide +kernel
theorem dX10_count_91 : decode cX10_count 91 = .ok (.aload_n 0, 1) := by decide +kernel
theorem dX10_count_92 : decode cX10_count 92 = .ok (.invokevirtual 192, 3) := by decide +kernel
theorem dX10_count_95 : decode cX10_count 95 = .ok (.iconst 3, 1) := by decide +kernel
theorem dX10_count_96 : decode cX10_count 96 = .ok (.invokevirtual 217, 3) := by decide +kernel
theorem dX10_count_99 : decode cX10_count 99 = .ok (.invokestatic 208, 3) := by decide +kernel
theorem dX10_count_102 : decode cX10_count 102 = .ok (.ireturn, 1) := by decide +kernel
theorem dX10_count_103 : decode cX10_count 103 = .ok (.sipush (-1002), 3) := by decide +kernel
theorem dX10_count_106 : decode cX10_count 106 = .ok (.ireturn, 1) := by decide +kernel
theorem dX10_mayCome_0 : decode cX10_mayCome 0 = .ok (.iload_n 2, 1) := by decide +kernel
theorem dX10_mayCome_1 : decode cX10_mayCome 1 = .ok (.iload_n 1, 1) := by decide +kernel
theorem dX10_mayCome_2 : decode cX10_mayCome 2 = .ok (.invokestatic 143, 3) := by decide +kernel
theorem dX10_mayCome_5 : decode cX10_mayCome 5 = .ok (.ifCond .ne 16, 3) := by decide +kernel
theorem dX10_mayCome_8 : decode cX10_mayCome 8 = .ok (.aload_n 0, 1) := by decide +kernel
theorem dX10_mayCome_9 : decode cX10_mayCome 9 = .ok (.iload_n 1, 1) := by decide +kernel
theorem dX10_mayCome_10 : decode cX10_mayCome 10 = .ok (.iconst 2, 1) := by decide +kernel
theorem dX10_mayCome_11 : decode cX10_mayCome 11 = .ok (.invokevirtual 199, 3) := by decide +kernel
theorem dX10_mayCome_14 : decode cX10_mayCome 14 = .ok (.iload_n 2, 1) := by decide +kernel
theorem dX10_mayCome_15 : decode cX10_mayCome 15 = .ok (.iconst (-1), 1) := by decide +kernel
theorem dX10_mayCome_16 : decode cX10_mayCome 16 = .ok (.ixor, 1) := by decide +kernel
theorem dX10_mayCome_17 : decode cX10_mayCome 17 = .ok (.iand, 1) := by decide +kernel
theorem dX10_mayCome_18 : decode cX10_mayCome 18 = .ok (.ifCond .eq 5, 3) := by decide +kernel
theorem dX10_mayCome_21 : decode cX10_mayCome 21 = .ok (.iconst 0, 1) := by decide +kernel
theorem dX10_mayCome_22 : decode cX10_mayCome 22 = .ok (.ireturn, 1) := by decide +kernel
theorem dX10_mayCome_23 : decode cX10_mayCome 23 = .ok (.aload_n 0, 1) := by decide +kernel
theorem dX10_mayCome_24 : decode cX10_mayCome 24 = .ok (.iload_n 1, 1) := by decide +kernel
theorem dX10_mayCome_25 : decode cX10_mayCome 25 = .ok (.iconst 4, 1) := by decide +kernel
theorem dX10_mayCome_26 : decode cX10_mayCome 26 = .ok (.invokevirtual 199, 3) := by decide +kernel
theorem dX10_mayCome_29 : decode cX10_mayCome 29 = .ok (.aload_n 0, 1) := by decide +kernel
theorem dX10_mayCome_30 : decode cX10_mayCome 30 = .ok (.iload_n 2, 1) := by decide +kernel
theorem dX10_mayCome_31 : decode cX10_mayCome 31 = .ok (.iconst 3, 1) := by decide +kernel
theorem dX10_mayCome_32 : decode cX10_mayCome 32 = .ok (.invokevirtual 217, 3) := by decide +kernel
theorem dX10_mayCome_35 : decode cX10_mayCome 35 = .ok (.aload_n 0, 1) := by decide +kernel
theorem dX10_mayCome_36 : decode cX10_mayCome 36 = .ok (.iload_n 1, 1) := by decide +kernel
theorem dX10_mayCome_37 : decode cX10_mayCome 37 = .ok (.iconst 3, 1) := by decide +kernel
theorem dX10_mayCome_38 : decode cX10_mayCome 38 = .ok (.invokevirtual 199, 3) := by decide +kernel
theorem dX10_mayCome_41 : decode cX10_mayCome 41 = .ok (.ior, 1) := by decide +kernel
theorem dX10_mayCome_42 : decode cX10_mayCome 42 = .ok (.iconst (-1), 1) := by decide +kernel
theorem dX10_mayCome_43 : decode cX10_mayCome 43 = .ok (.ixor, 1) := by decide +kernel
theorem dX10_mayCome_44 : decode cX10_mayCome 44 = .ok (.iand, 1) := by decide +kernel
theorem dX10_mayCome_45 : decode cX10_mayCome 45 = .ok (.ifCond .ne 22, 3) := by decide +kernel
theorem dX10_mayCome_48 : decode cX10_mayCome 48 = .ok (.aload_n 0, 1) := by decide +kernel
theorem dX10_mayCome_49 : decode cX10_mayCome 49 = .ok (.iload_n 1, 1) := by decide +kernel
theorem dX10_mayCome_50 : decode cX10_mayCome 50 = .ok (.bipush 6, 2) := by decide +kernel
theorem dX10_mayCome_52 : decode cX10_mayCome 52 = .ok (.invokevirtual 199, 3) := by decide +kernel
theorem dX10_mayCome_55 : decode cX10_mayCome 55 = .ok (.aload_n 0, 1) := by decide +kernel
theorem dX10_mayCome_56 : decode cX10_mayCome 56 = .ok (.iload_n 2, 1) := by decide +kernel
theorem dX10_mayCome_57 : decode cX10_mayCome 57 = .ok (.iconst 5, 1) := by decide +kernel
theorem dX10_mayCome_58 : decode cX10_mayCome 58 = .ok (.invokevirtual 217, 3) := by decide +kernel
theorem dX10_mayCome_61 : decode cX10_mayCome 61 = .ok (.iconst (-1), 1) := by decide +kernel
theorem dX10_mayCome_62 : decode cX10_mayCome 62 = .ok (.ixor, 1) := by decide +kernel
theorem dX10_mayCome_63 : decode cX10_mayCome 63 = .ok (.iand, 1) := by decide +kernel
theorem dX10_mayCome_64 : decode cX10_mayCome 64 = .ok (.ifCond .eq 5, 3) := by decide +kernel
theorem dX10_mayCome_67 : decode cX10_mayCome 67 = .ok (.iconst 0, 1) := by decide +kernel
theorem dX10_mayCome_68 : decode cX10_mayCome 68 = .ok (.ireturn, 1) := by decide +kernel
theorem dX10_mayCome_69 : decode cX10_mayCome 69 = .ok (.aload_n 0, 1) := by decide +kernel
theorem dX10_mayCome_70 : decode cX10_mayCome 70 = .ok (.iload_n 2, 1) := by decide +kernel
theorem dX10_mayCome_71 : decode cX10_mayCome 71 = .ok (.iconst 5, 1) := by decide +kernel
theorem dX10_mayCome_72 : decode cX10_mayCome 72 = .ok (.invokevirtual 217, 3) := by decide +kernel
theorem dX10_mayCome_75 : decode cX10_mayCome 75 = .ok (.aload_n 0, 1) := by decide +kernel
theorem dX10_mayCome_76 : decode cX10_mayCome 76 = .ok (.iload_n 1, 1) := by decide +kernel
theorem dX10_mayCome_77 : decode cX10_mayCome 77 = .ok (.iconst 5, 1) := by decide +kernel
theorem dX10_mayCome_78 : decode cX10_mayCome 78 = .ok (.invokevirtual 199, 3) := by decide +kernel
theorem dX10_mayCome_81 : decode cX10_mayCome 81 = .ok (.ior, 1) := by decide +kernel
theorem dX10_mayCome_82 : decode cX10_mayCome 82 = .ok (.istore_n 3, 1) := by decide +kernel
theorem dX10_mayCome_83 : decode cX10_mayCome 83 = .ok (.iconst 0, 1) := by decide +kernel
theorem dX10_mayCome_84 : decode cX10_mayCome 84 = .ok (.istore 4, 2) := by decide +kernel
theorem dX10_mayCome_86 : decode cX10_mayCome 86 = .ok (.iload 4, 2) := by decide +kernel
theorem dX10_mayCome_88 : decode cX10_mayCome 88 = .ok (.bipush 8, 2) := by decide +kernel
theorem dX10_mayCome_90 : decode cX10_mayCome 90 = .ok (.if_icmp .ge 37, 3) := by decide +kernel
theorem dX10_mayCome_93 : decode cX10_mayCome 93 = .ok (.aload_n 0, 1) := by decide +kernel
theorem dX10_mayCome_94 : decode cX10_mayCome 94 = .ok (.iload_n 1, 1) := by decide +kernel
theorem dX10_mayCome_95 : decode cX10_mayCome 95 = .ok (.iconst 5, 1) := by decide +kernel
theorem dX10_mayCome_96 : decode cX10_mayCome 96 = .ok (.invokevirtual 199, 3) := by decide +kernel
theorem dX10_mayCome_99 : decode cX10_mayCome 99 = .ok (.iload 4, 2) := by decide +kernel
theorem dX10_mayCome_101 : decode cX10_mayCome 101 = .ok (.invokestatic 143, 3) := by decide +kernel
theorem dX10_mayCome_104 : decode cX10_mayCome 104 = .ok (.ifCond .eq 17, 3) := by decide +kernel
theorem dX10_mayCome_107 : decode cX10_mayCome 107 = .ok (.aload_n 0, 1) := by decide +kernel
theorem dX10_mayCome_108 : decode cX10_mayCome 108 = .ok (.getfield 19, 3) := by decide +kernel
theorem dX10_mayCome_111 : decode cX10_mayCome 111 = .ok (.iload 4, 2) := by decide +kernel
theorem dX10_mayCome_113 : decode cX10_mayCome 113 = .ok (.iaload, 1) := by decide +kernel
theorem dX10_mayCome_114 : decode cX10_mayCome 114 = .ok (.iload_n 3, 1) := by decide +kernel
theorem dX10_mayCome_115 : decode cX10_mayCome 115 = .ok (.iand, 1) := by decide +kernel
theorem dX10_mayCome_116 : decode cX10_mayCome 116 = .ok (.ifCond .eq 5, 3) := by decide +kernel
theorem dX10_mayCome_119 : decode cX10_mayCome 119 = .ok (.iconst 0, 1) := by decide +kernel
theorem dX10_mayCome_120 : decode cX10_mayCome 120 = .ok (.ireturn, 1) := by decide +kernel
theorem dX10_mayCome_121 : decode cX10_mayCome 121 = .ok (.iinc 4 1, 3) := by decide +kernel
theorem dX10_mayCome_124 : decode cX10_mayCome 124 = .ok (.goto (-38), 3) := by decide +kernel
theorem dX10_mayCome_127 : decode cX10_mayCome 127 = .ok (.iconst 1, 1) := by decide +kernel
theorem dX10_mayCome_128 : decode cX10_mayCome 128 = .ok (.istore 4, 2) := by decide +kernel
theorem dX10_mayCome_130 : decode cX10_mayCome 130 = .ok (.iconst 0, 1) := by decide +kernel
theorem dX10_mayCome_131 : decode cX10_mayCome 131 = .ok (.istore 5, 2) := by decide +kernel
theorem dX10_mayCome_133 : decode cX10_mayCome 133 = .ok (.iload 5, 2) := by decide +kernel
theorem dX10_mayCome_135 : decode cX10_mayCome 135 = .ok (.aload_n 0, 1) := by decide +kernel
theorem dX10_mayCome_136 : decode cX10_mayCome 136 = .ok (.getfield 174, 3) := by decide +kernel
theorem dX10_mayCome_139 : decode cX10_mayCome 139 = .ok (.if_icmp .ge 59, 3) := by decide +kernel
theorem dX10_mayCome_142 : decode cX10_mayCome 142 = .ok (.iload 4, 2) := by decide +kernel
theorem dX10_mayCome_144 : decode cX10_mayCome 144 = .ok (.ifCond .eq 45, 3) := by decide +kernel
theorem dX10_mayCome_147 : decode cX10_mayCome 147 = .ok (.iload_n 2, 1) := by decide +kernel
theorem dX10_mayCome_148 : decode cX10_mayCome 148 = .ok (.iload 5, 2) := by decide +kernel
theorem dX10_mayCome_150 : decode cX10_mayCome 150 = .ok (.invokestatic 143, 3) := by decide +kernel
theorem dX10_mayCome_153 : decode cX10_mayCome 153 = .ok (.ifCond .eq 32, 3) := by decide +kernel
theorem dX10_mayCome_156 : decode cX10_mayCome 156 = .ok (.aload_n 0, 1) := by decide +kernel
theorem dX10_mayCome_157 : decode cX10_mayCome 157 = .ok (.getfield 13, 3) := by decide +kernel
theorem dX10_mayCome_160 : decode cX10_mayCome 160 = .ok (.iload 5, 2) := by decide +kernel
theorem dX10_mayCome_162 : decode cX10_mayCome 162 = .ok (.iaload, 1) := by decide +kernel
theorem dX10_mayCome_163 : decode cX10_mayCome 163 = .ok (.ifCond .lt 22, 3) := by decide +kernel
theorem dX10_mayCome_166 : decode cX10_mayCome 166 = .ok (.aload_n 0, 1) := by decide +kernel
theorem dX10_mayCome_167 : decode cX10_mayCome 167 = .ok (.iload_n 1, 1) := by decide +kernel
theorem dX10_mayCome_168 : decode cX10_mayCome 168 = .ok (.iconst 1, 1) := by decide +kernel
theorem dX10_mayCome_169 : decode cX10_mayCome 169 = .ok (.invokevirtual 199, 3) := by decide +kernel
theorem dX10_mayCome_172 : decode cX10_mayCome 172 = .ok (.aload_n 0, 1) := by decide +kernel
theorem dX10_mayCome_173 : decode cX10_mayCome 173 = .ok (.getfield 13, 3) := by decide +kernel
theorem dX10_mayCome_176 : decode cX10_mayCome 176 = .ok (.iload 5, 2) := by decide +kernel
theorem dX10_mayCome_178 : decode cX10_mayCome 178 = .ok (.iaload, 1) := by decide +kernel
theorem dX10_mayCome_179 : decode cX10_mayCome 179 = .ok (.invokestatic 143, 3) := by decide +kernel
theorem dX10_mayCome_182 : decode cX10_mayCome 182 = .ok (.ifCond .ne 7, 3) := by decide +kernel
theorem dX10_mayCome_185 : decode cX10_mayCome 185 = .ok (.iconst 1, 1) := by decide +kernel
theorem dX10_mayCome_186 : decode cX10_mayCome 186 = .ok (.goto 4, 3) := by decide +kernel
theorem dX10_mayCome_189 : decode cX10_mayCome 189 = .ok (.iconst 0, 1) := by decide +kernel
theorem dX10_mayCome_190 : decode cX10_mayCome 190 = .ok (.istore 4, 2) := by decide +kernel
theorem dX10_mayCome_192 : decode cX10_mayCome 192 = .ok (.iinc 5 1, 3) := by decide +kernel
theorem dX10_mayCome_195 : decode cX10_mayCome 195 = .ok (.goto (-62), 3) := by decide +kernel
theorem dX10_mayCome_198 : decode cX10_mayCome 198 = .ok (.iload 4, 2) := by decide +kernel
theorem dX10_mayCome_200 : decode cX10_mayCome 200 = .ok (.ireturn, 1) := by decide +kernel
theorem dX10_may_0 : decode cX10_may 0 = .ok (.aload_n 0, 1) := by decide +kernel
theorem dX10_may_1 : decode cX10_may 1 = .ok (.iload_n 1, 1) := by decide +kernel
theorem dX10_may_2 : decode cX10_may 2 = .ok (.invokevirtual 195, 3) := by decide +kernel
theorem dX10_may_5 : decode cX10_may 5 = .ok (.ifCond .ne 11, 3) := by decide +kernel
theorem dX10_may_8 : decode cX10_may 8 = .ok (.aload_n 0, 1) := by decide +kernel
theorem dX10_may_9 : decode cX10_may 9 = .ok (.iload_n 2, 1) := by decide +kernel
theorem dX10_may_10 : decode cX10_may 10 = .ok (.invokevirtual 220, 3) := by decide +kernel
theorem dX10_may_13 : decode cX10_may 13 = .ok (.ifCond .eq 9, 3) := by decide +kernel
theorem dX10_may_16 : decode cX10_may 16 = .ok (.sipush (-1001), 3) := by decide +kernel
theorem dX10_may_19 : decode cX10_may 19 = .ok (.goto 12, 3) := by decide +kernel
theorem dX10_may_22 : decode cX10_may 22 = .ok (.aload_n 0, 1) := by decide +kernel
theorem dX10_may_23 : decode cX10_may 23 = .ok (.iload_n 1, 1) := by decide +kernel
theorem dX10_may_24 : decode cX10_may 24 = .ok (.iload_n 2, 1) := by decide +kernel
theorem dX10_may_25 : decode cX10_may 25 = .ok (.invokevirtual 223, 3) := by decide +kernel
theorem dX10_may_28 : decode cX10_may 28 = .ok (.invokestatic 154, 3) := by decide +kernel
theorem dX10_may_31 : decode cX10_may 31 = .ok (.ireturn, 1) := by decide +kernel
theorem dX10_next_0 : decode cX10_next 0 = .ok (.aload_n 0, 1) := by decide +kernel
theorem dX10_next_1 : decode cX10_next 1 = .ok (.iload_n 1, 1) := by decide +kernel
theorem dX10_next_2 : decode cX10_next 2 = .ok (.invokevirtual 220, 3) := by decide +kernel
theorem dX10_next_5 : decode cX10_next 5 = .ok (.ifCond .eq 7, 3) := by decide +kernel
theorem dX10_next_8 : decode cX10_next 8 = .ok (.sipush (-1001), 3) := by decide +kernel
theorem dX10_next_11 : decode cX10_next 11 = .ok (.ireturn, 1) := by decide +kernel
theorem dX10_next_12 : decode cX10_next 12 = .ok (.iconst 0, 1) := by decide +kernel
theorem dX10_next_13 : decode cX10_next 13 = .ok (.istore_n 2, 1) := by decide +kernel
theorem dX10_next_14 : decode cX10_next 14 = .ok (.iconst 0, 1) := by decide +kernel
theorem dX10_next_15 : decode cX10_next 15 = .ok (.istore_n 3, 1) := by decide +kernel
theorem dX10_next_16 : decode cX10_next 16 = .ok (.iload_n 3, 1) := by decide +kernel
theorem dX10_next_17 : decode cX10_next 17 = .ok (.aload_n 0, 1) := by decide +kernel
theorem dX10_next_18 : decode cX10_next 18 = .ok (.getfield 174, 3) := by decide +kernel
theorem dX10_next_21 : decode cX10_next 21 = .ok (.if_icmp .ge 23, 3) := by decide +kernel
theorem dX10_next_24 : decode cX10_next 24 = .ok (.iload_n 2, 1) := by decide +kernel
theorem dX10_next_25 : decode cX10_next 25 = .ok (.aload_n 0, 1) := by decide +kernel
theorem dX10_next_26 : decode cX10_next 26 = .ok (.iload_n 3, 1) := by decide +kernel
theorem dX10_next_27 : decode cX10_next 27 = .ok (.iload_n 1, 1) := by decide +kernel
theorem dX10_next_28 : decode cX10_next 28 = .ok (.invokevirtual 223, 3) := by decide +kernel
theorem dX10_next_31 : decode cX10_next 31 = .ok (.invokestatic 154, 3) := by decide +kernel
theorem dX10_next_34 : decode cX10_next 34 = .ok (.iload_n 3, 1) := by decide +kernel
theorem dX10_next_35 : decode cX10_next 35 = .ok (.ishl, 1) := by decide +kernel
theorem dX10_next_36 : decode cX10_next 36 = .ok (.ior, 1) := by decide +kernel
theorem dX10_next_37 : decode cX10_next 37 = .ok (.istore_n 2, 1) := by decide +kernel
theorem dX10_next_38 : decode cX10_next 38 = .ok (.iinc 3 1, 3) := by decide +kernel
theorem dX10_next_41 : decode cX10_next 41 = .ok (.goto (-25), 3) := by decide +kernel
theorem dX10_next_44 : decode cX10_next 44 = .ok (.iload_n 2, 1) := by decide +kernel
theorem dX10_next_45 : decode cX10_next 45 = .ok (.ireturn, 1) := by decide +kernel
theorem dX10_findComing_0 : decode cX10_findComing 0 = .ok (.iconst 0, 1) := by decide +kernel
theorem dX10_findComing_1 : decode cX10_findComing 1 = .ok (.istore_n 1, 1) := by decide +kernel
theorem dX10_findComing_2 : decode cX10_findComing 2 = .ok (.iload_n 1, 1) := by decide +kernel
theorem dX10_findComing_3 : decode cX10_findComing 3 = .ok (.aload_n 0, 1) := by decide +kernel
theorem dX10_findComing_4 : decode cX10_findComing 4 = .ok (.invokevirtual 192, 3) := by decide +kernel
theorem dX10_findComing_7 : decode cX10_findComing 7 = .ok (.if_icmp .gt 52, 3) := by decide +kernel
theorem dX10_findComing_10 : decode cX10_findComing 10 = .ok (.aload_n 0, 1) := by decide +kernel
theorem dX10_findComing_11 : decode cX10_findComing 11 = .ok (.getfield 49, 3) := by decide +kernel
theorem dX10_findComing_14 : decode cX10_findComing 14 = .ok (.iload_n 1, 1) := by decide +kernel
theorem dX10_findComing_15 : decode cX10_findComing 15 = .ok (.iconst 0, 1) := by decide +kernel
theorem dX10_findComing_16 : decode cX10_findComing 16 = .ok (.iastore, 1) := by decide +kernel
theorem dX10_findComing_17 : decode cX10_findComing 17 = .ok (.iconst 0, 1) := by decide +kernel
theorem dX10_findComing_18 : decode cX10_findComing 18 = .ok (.istore_n 2, 1) := by decide +kernel
theorem dX10_findComing_19 : decode cX10_findComing 19 = .ok (.iload_n 2, 1) := by decide +kernel
theorem dX10_findComing_20 : decode cX10_findComing 20 = .ok (.aload_n 0, 1) := by decide +kernel
theorem dX10_findComing_21 : decode cX10_findComing 21 = .ok (.getfield 174, 3) := by decide +kernel
theorem dX10_findComing_24 : decode cX10_findComing 24 = .ok (.if_icmp .ge 29, 3) := by decide +kernel
theorem dX10_findComing_27 : decode cX10_findComing 27 = .ok (.aload_n 0, 1) := by decide +kernel
theorem dX10_findComing_28 : decode cX10_findComing 28 = .ok (.getfield 49, 3) := by decide +kernel
theorem dX10_findComing_31 : decode cX10_findComing 31 = .ok (.iload_n 1, 1) := by decide +kernel
theorem dX10_findComing_32 : decode cX10_findComing 32 = .ok (.dup2, 1) := by decide +kernel
theorem dX10_findComing_33 : decode cX10_findComing 33 = .ok (.iaload, 1) := by decide +kernel
theorem dX10_findComing_34 : decode cX10_findComing 34 = .ok (.aload_n 0, 1) := by decide +kernel
theorem dX10_findComing_35 : decode cX10_findComing 35 = .ok (.iload_n 2, 1) := by decide +kernel
theorem dX10_findComing_36 : decode cX10_findComing 36 = .ok (.iload_n 1, 1) := by decide +kernel
theorem dX10_findComing_37 : decode cX10_findComing 37 = .ok (.invokevirtual 223, 3) := by decide +kernel
theorem dX10_findComing_40 : decode cX10_findComing 40 = .ok (.invokestatic 154, 3) := by decide +kernel
theorem dX10_findComing_43 : decode cX10_findComing 43 = .ok (.iload_n 2, 1) := by decide +kernel
theorem dX10_findComing_44 : decode cX10_findComing 44 = .ok (.ishl, 1) := by decide +kernel
theorem dX10_findComing_45 : decode cX10_findComing 45 = .ok (.ior, 1) := by decide +kernel
theorem dX10_findComing_46 : decode cX10_findComing 46 = .ok (.iastore, 1) := by decide +kernel
theorem dX10_findComing_47 : decode cX10_findComing 47 = .ok (.iinc 2 1, 3) := by decide +kernel
theorem dX10_findComing_50 : decode cX10_findComing 50 = .ok (.goto (-31), 3) := by decide +kernel
theorem dX10_findComing_53 : decode cX10_findComing 53 = .ok (.iinc 1 1, 3) := by decide +kernel
theorem dX10_findComing_56 : decode cX10_findComing 56 = .ok (.goto (-54), 3) := by decide +kernel
theorem dX10_findComing_59 : decode cX10_findComing 59 = .ok (.return_, 1) := by decide +kernel
theorem dX10_findWays_0 : decode cX10_findWays 0 = .ok (.aload_n 0, 1) := by decide +kernel
theorem dX10_findWays_1 : decode cX10_findWays 1 = .ok (.invokevirtual 226, 3) := by decide +kernel
theorem dX10_findWays_4 : decode cX10_findWays 4 = .ok (.iload_n 1, 1) := by decide +kernel
theorem dX10_findWays_5 : decode cX10_findWays 5 = .ok (.istore_n 2, 1) := by decide +kernel
theorem dX10_findWays_6 : decode cX10_findWays 6 = .ok (.iload_n 2, 1) := by decide +kernel
theorem dX10_findWays_7 : decode cX10_findWays 7 = .ok (.ifCond .lt 97, 3) := by decide +kernel
theorem dX10_findWays_10 : decode cX10_findWays 10 = .ok (.aload_n 0, 1) := by decide +kernel
theorem dX10_findWays_11 : decode cX10_findWays 11 = .ok (.getfield 41, 3) := by decide +kernel
theorem dX10_findWays_14 : decode cX10_findWays 14 = .ok (.iload_n 2, 1) := by decide +kernel
theorem dX10_findWays_15 : decode cX10_findWays 15 = .ok (.iload_n 2, 1) := by decide +kernel
theorem dX10_findWays_16 : decode cX10_findWays 16 = .ok (.iload_n 1, 1) := by decide +kernel
theorem dX10_findWays_17 : decode cX10_findWays 17 = .ok (.if_icmp .ne 7, 3) := by decide +kernel
theorem dX10_findWays_20 : decode cX10_findWays 20 = .ok (.iconst 1, 1) := by decide +kernel
theorem dX10_findWays_21 : decode cX10_findWays 21 = .ok (.goto 4, 3) := by decide +kernel
theorem dX10_findWays_24 : decode cX10_findWays 24 = .ok (.iconst 0, 1) := by decide +kernel
theorem dX10_findWays_25 : decode cX10_findWays 25 = .ok (.invokestatic 154, 3) := by decide +kernel
theorem dX10_findWays_28 : decode cX10_findWays 28 = .ok (.i2l, 1) := by decide +kernel
theorem dX10_findWays_29 : decode cX10_findWays 29 = .ok (.lastore, 1) := by decide +kernel
theorem dX10_findWays_30 : decode cX10_findWays 30 = .ok (.iconst 0, 1) := by decide +kernel
theorem dX10_findWays_31 : decode cX10_findWays 31 = .ok (.istore_n 3, 1) := by decide +kernel
theorem dX10_findWays_32 : decode cX10_findWays 32 = .ok (.iload_n 3, 1) := by decide +kernel
theorem dX10_findWays_33 : decode cX10_findWays 33 = .ok (.aload_n 0, 1) := by decide +kernel
theorem dX10_findWays_34 : decode cX10_findWays 34 = .ok (.getfield 174, 3) := by decide +kernel
theorem dX10_findWays_37 : decode cX10_findWays 37 = .ok (.if_icmp .ge 61, 3) := by decide +kernel
theorem dX10_findWays_40 : decode cX10_findWays 40 = .ok (.iload_n 2, 1) := by decide +kernel
theorem dX10_findWays_41 : decode cX10_findWays 41 = .ok (.iload_n 1, 1) := by decide +kernel
theorem dX10_findWays_42 : decode cX10_findWays 42 = .ok (.iconst (-1), 1) := by decide +kernel
theorem dX10_findWays_43 : decode cX10_findWays 43 = .ok (.ixor, 1) := by decide +kernel
theorem dX10_findWays_44 : decode cX10_findWays 44 = .ok (.iand, 1) := by decide +kernel
theorem dX10_findWays_45 : decode cX10_findWays 45 = .ok (.ifCond .ne 53, 3) := by decide +kernel
theorem dX10_findWays_48 : decode cX10_findWays 48 = .ok (.aload_n 0, 1) := by decide +kernel
theorem dX10_findWays_49 : decode cX10_findWays 49 = .ok (.getfield 41, 3) := by decide +kernel
theorem dX10_findWays_52 : decode cX10_findWays 52 = .ok (.iload_n 2, 1) := by decide +kernel
theorem dX10_findWays_53 : decode cX10_findWays 53 = .ok (.dup2, 1) := by decide +kernel
theorem dX10_findWays_54 : decode cX10_findWays 54 = .ok (.laload, 1) := by decide +kernel
theorem dX10_findWays_55 : decode cX10_findWays 55 = .ok (.aload_n 0, 1) := by decide +kernel
theorem dX10_findWays_56 : decode cX10_findWays 56 = .ok (.getfield 49, 3) := by decide +kernel
theorem dX10_findWays_59 : decode cX10_findWays 59 = .ok (.iload_n 2, 1) := by decide +kernel
theorem dX10_findWays_60 : decode cX10_findWays 60 = .ok (.iaload, 1) := by decide +kernel
theorem dX10_findWays_61 : decode cX10_findWays 61 = .ok (.iload_n 3, 1) := by decide +kernel
theorem dX10_findWays_62 : decode cX10_findWays 62 = .ok (.invokestatic 143, 3) := by decide +kernel
theorem dX10_findWays_65 : decode cX10_findWays 65 = .ok (.ifCond .eq 24, 3) := by decide +kernel
theorem dX10_findWays_68 : decode cX10_findWays 68 = .ok (.iload_n 1, 1) := by decide +kernel
theorem dX10_findWays_69 : decode cX10_findWays 69 = .ok (.iload_n 3, 1) := by decide +kernel
theorem dX10_findWays_70 : decode cX10_findWays 70 = .ok (.invokestatic 143, 3) := by decide +kernel
theorem dX10_findWays_73 : decode cX10_findWays 73 = .ok (.ifCond .eq 16, 3) := by decide +kernel
theorem dX10_findWays_76 : decode cX10_findWays 76 = .ok (.aload_n 0, 1) := by decide +kernel
theorem dX10_findWays_77 : decode cX10_findWays 77 = .ok (.getfield 41, 3) := by decide +kernel
theorem dX10_findWays_80 : decode cX10_findWays 80 = .ok (.iload_n 2, 1) := by decide +kernel
theorem dX10_findWays_81 : decode cX10_findWays 81 = .ok (.iconst 1, 1) := by decide +kernel
theorem dX10_findWays_82 : decode cX10_findWays 82 = .ok (.iload_n 3, 1) := by decide +kernel
theorem dX10_findWays_83 : decode cX10_findWays 83 = .ok (.ishl, 1) := by decide +kernel
theorem dX10_findWays_84 : decode cX10_findWays 84 = .ok (.ior, 1) := by decide +kernel
theorem dX10_findWays_85 : decode cX10_findWays 85 = .ok (.laload, 1) := by decide +kernel
theorem dX10_findWays_86 : decode cX10_findWays 86 = .ok (.goto 4, 3) := by decide +kernel
theorem dX10_findWays_89 : decode cX10_findWays 89 = .ok (.lconst 0, 1) := by decide +kernel
theorem dX10_findWays_90 : decode cX10_findWays 90 = .ok (.ladd, 1) := by decide +kernel
theorem dX10_findWays_91 : decode cX10_findWays 91 = .ok (.lastore, 1) := by decide +kernel
theorem dX10_findWays_92 : decode cX10_findWays 92 = .ok (.iinc 3 1, 3) := by decide +kernel
theorem dX10_findWays_95 : decode cX10_findWays 95 = .ok (.goto (-63), 3) := by decide +kernel
theorem dX10_findWays_98 : decode cX10_findWays 98 = .ok (.iinc 2 (-1), 3) := by decide +kernel
theorem dX10_findWays_101 : decode cX10_findWays 101 = .ok (.goto (-95), 3) := by decide +kernel
theorem dX10_findWays_104 : decode cX10_findWays 104 = .ok (.return_, 1) := by decide +kernel
theorem dX10_findGood_0 : decode cX10_findGood 0 = .ok (.aload_n 0, 1) := by decide +kernel
theorem dX10_findGood_1 : decode cX10_findGood 1 = .ok (.invokevirtual 226, 3) := by decide +kernel
theorem dX10_findGood_4 : decode cX10_findGood 4 = .ok (.iconst 0, 1) := by decide +kernel
theorem dX10_findGood_5 : decode cX10_findGood 5 = .ok (.istore_n 1, 1) := by decide +kernel
theorem dX10_findGood_6 : decode cX10_findGood 6 = .ok (.iload_n 1, 1) := by decide +kernel
theorem dX10_findGood_7 : decode cX10_findGood 7 = .ok (.aload_n 0, 1) := by decide +kernel
theorem dX10_findGood_8 : decode cX10_findGood 8 = .ok (.invokevirtual 192, 3) := by decide +kernel
theorem dX10_findGood_11 : decode cX10_findGood 11 = .ok (.if_icmp .gt 98, 3) := by decide +kernel
theorem dX10_findGood_14 : decode cX10_findGood 14 = .ok (.aload_n 0, 1) := by decide +kernel
theorem dX10_findGood_15 : decode cX10_findGood 15 = .ok (.getfield 45, 3) := by decide +kernel
theorem dX10_findGood_18 : decode cX10_findGood 18 = .ok (.iload_n 1, 1) := by decide +kernel
theorem dX10_findGood_19 : decode cX10_findGood 19 = .ok (.iload_n 1, 1) := by decide +kernel
theorem dX10_findGood_20 : decode cX10_findGood 20 = .ok (.ifCond .ne 7, 3) := by decide +kernel
theorem dX10_findGood_23 : decode cX10_findGood 23 = .ok (.iconst 1, 1) := by decide +kernel
theorem dX10_findGood_24 : decode cX10_findGood 24 = .ok (.goto 4, 3) := by decide +kernel
theorem dX10_findGood_27 : decode cX10_findGood 27 = .ok (.iconst 0, 1) := by decide +kernel
theorem dX10_findGood_28 : decode cX10_findGood 28 = .ok (.bastore, 1) := by decide +kernel
theorem dX10_findGood_29 : decode cX10_findGood 29 = .ok (.iconst 0, 1) := by decide +kernel
theorem dX10_findGood_30 : decode cX10_findGood 30 = .ok (.istore_n 2, 1) := by decide +kernel
theorem dX10_findGood_31 : decode cX10_findGood 31 = .ok (.iload_n 2, 1) := by decide +kernel
theorem dX10_findGood_32 : decode cX10_findGood 32 = .ok (.aload_n 0, 1) := by decide +kernel
theorem dX10_findGood_33 : decode cX10_findGood 33 = .ok (.getfield 174, 3) := by decide +kernel
theorem dX10_findGood_36 : decode cX10_findGood 36 = .ok (.if_icmp .ge 67, 3) := by decide +kernel
theorem dX10_findGood_39 : decode cX10_findGood 39 = .ok (.iload_n 1, 1) := by decide +kernel
theorem dX10_findGood_40 : decode cX10_findGood 40 = .ok (.iconst 1, 1) := by decide +kernel
theorem dX10_findGood_41 : decode cX10_findGood 41 = .ok (.iload_n 2, 1) := by decide +kernel
theorem dX10_findGood_42 : decode cX10_findGood 42 = .ok (.ishl, 1) := by decide +kernel
theorem dX10_findGood_43 : decode cX10_findGood 43 = .ok (.iconst (-1), 1) := by decide +kernel
theorem dX10_findGood_44 : decode cX10_findGood 44 = .ok (.ixor, 1) := by decide +kernel
theorem dX10_findGood_45 : decode cX10_findGood 45 = .ok (.iand, 1) := by decide +kernel
theorem dX10_findGood_46 : decode cX10_findGood 46 = .ok (.istore_n 3, 1) := by decide +kernel
theorem dX10_findGood_47 : decode cX10_findGood 47 = .ok (.aload_n 0, 1) := by decide +kernel
theorem dX10_findGood_48 : decode cX10_findGood 48 = .ok (.getfield 45, 3) := by decide +kernel
theorem dX10_findGood_51 : decode cX10_findGood 51 = .ok (.iload_n 1, 1) := by decide +kernel
theorem dX10_findGood_52 : decode cX10_findGood 52 = .ok (.aload_n 0, 1) := by decide +kernel
theorem dX10_findGood_53 : decode cX10_findGood 53 = .ok (.getfield 45, 3) := by decide +kernel
theorem dX10_findGood_56 : decode cX10_findGood 56 = .ok (.iload_n 1, 1) := by decide +kernel
theorem dX10_findGood_57 : decode cX10_findGood 57 = .ok (.baload, 1) := by decide +kernel
theorem dX10_findGood_58 : decode cX10_findGood 58 = .ok (.ifCond .ne 33, 3) := by decide +kernel
theorem dX10_findGood_61 : decode cX10_findGood 61 = .ok (.iload_n 1, 1) := by decide +kernel
theorem dX10_findGood_62 : decode cX10_findGood 62 = .ok (.iload_n 2, 1) := by decide +kernel
theorem dX10_findGood_63 : decode cX10_findGood 63 = .ok (.invokestatic 143, 3) := by decide +kernel
theorem dX10_findGood_66 : decode cX10_findGood 66 = .ok (.ifCond .eq 29, 3) := by decide +kernel
theorem dX10_findGood_69 : decode cX10_findGood 69 = .ok (.aload_n 0, 1) := by decide +kernel
theorem dX10_findGood_70 : decode cX10_findGood 70 = .ok (.getfield 45, 3) := by decide +kernel
theorem dX10_findGood_73 : decode cX10_findGood 73 = .ok (.iload_n 3, 1) := by decide +kernel
theorem dX10_findGood_74 : decode cX10_findGood 74 = .ok (.baload, 1) := by decide +kernel
theorem dX10_findGood_75 : decode cX10_findGood 75 = .ok (.ifCond .eq 20, 3) := by decide +kernel
theorem dX10_findGood_78 : decode cX10_findGood 78 = .ok (.aload_n 0, 1) := by decide +kernel
theorem dX10_findGood_79 : decode cX10_findGood 79 = .ok (.getfield 49, 3) := by decide +kernel
theorem dX10_findGood_82 : decode cX10_findGood 82 = .ok (.iload_n 3, 1) := by decide +kernel
theorem dX10_findGood_83 : decode cX10_findGood 83 = .ok (.iaload, 1) := by decide +kernel
theorem dX10_findGood_84 : decode cX10_findGood 84 = .ok (.iload_n 2, 1) := by decide +kernel
theorem dX10_findGood_85 : decode cX10_findGood 85 = .ok (.invokestatic 143, 3) := by decide +kernel
theorem dX10_findGood_88 : decode cX10_findGood 88 = .ok (.ifCond .eq 7, 3) := by decide +kernel
theorem dX10_findGood_91 : decode cX10_findGood 91 = .ok (.iconst 1, 1) := by decide +kernel
theorem dX10_findGood_92 : decode cX10_findGood 92 = .ok (.goto 4, 3) := by decide +kernel
theorem dX10_findGood_95 : decode cX10_findGood 95 = .ok (.iconst 0, 1) := by decide +kernel
theorem dX10_findGood_96 : decode cX10_findGood 96 = .ok (.bastore, 1) := by decide +kernel
theorem dX10_findGood_97 : decode cX10_findGood 97 = .ok (.iinc 2 1, 3) := by decide +kernel
theorem dX10_findGood_100 : decode cX10_findGood 100 = .ok (.goto (-69), 3) := by decide +kernel
theorem dX10_findGood_103 : decode cX10_findGood 103 = .ok (.iinc 1 1, 3) := by decide +kernel
theorem dX10_findGood_106 : decode cX10_findGood 106 = .ok (.goto (-100), 3) := by decide +kernel
theorem dX10_findGood_109 : decode cX10_findGood 109 = .ok (.return_, 1) := by decide +kernel
theorem dX10_orders_0 : decode cX10_orders 0 = .ok (.aload_n 0, 1) := by decide +kernel
theorem dX10_orders_1 : decode cX10_orders 1 = .ok (.iload_n 1, 1) := by decide +kernel
theorem dX10_orders_2 : decode cX10_orders 2 = .ok (.invokevirtual 220, 3) := by decide +kernel
theorem dX10_orders_5 : decode cX10_orders 5 = .ok (.ifCond .eq 7, 3) := by decide +kernel
theorem dX10_orders_8 : decode cX10_orders 8 = .ok (.ldc2_w 229, 3) := by decide +kernel
theorem dX10_orders_11 : decode cX10_orders 11 = .ok (.lreturn, 1) := by decide +kernel
theorem dX10_orders_12 : decode cX10_orders 12 = .ok (.aload_n 0, 1) := by decide +kernel
theorem dX10_orders_13 : decode cX10_orders 13 = .ok (.iload_n 1, 1) := by decide +kernel
theorem dX10_orders_14 : decode cX10_orders 14 = .ok (.invokevirtual 231, 3) := by decide +kernel
theorem dX10_orders_17 : decode cX10_orders 17 = .ok (.aload_n 0, 1) := by decide +kernel
theorem dX10_orders_18 : decode cX10_orders 18 = .ok (.getfield 41, 3) := by decide +kernel
theorem dX10_orders_21 : decode cX10_orders 21 = .ok (.iconst 0, 1) := by decide +kernel
theorem dX10_orders_22 : decode cX10_orders 22 = .ok (.laload, 1) := by decide +kernel
theorem dX10_orders_23 : decode cX10_orders 23 = .ok (.lreturn, 1) := by decide +kernel
theorem dX10_order_0 : decode cX10_order 0 = .ok (.aload_n 0, 1) := by decide +kernel
theorem dX10_order_1 : decode cX10_order 1 = .ok (.iload_n 1, 1) := by decide +kernel
theorem dX10_order_2 : decode cX10_order 2 = .ok (.invokevirtual 220, 3) := by decide +kernel
theorem dX10_order_5 : decode cX10_order 5 = .ok (.ifCond .eq 7, 3) := by decide +kernel
theorem dX10_order_8 : decode cX10_order 8 = .ok (.sipush (-1001), 3) := by decide +kernel
theorem dX10_order_11 : decode cX10_order 11 = .ok (.ireturn, 1) := by decide +kernel
theorem dX10_order_12 : decode cX10_order 12 = .ok (.lload_n 2, 1) := by decide +kernel
theorem dX10_order_13 : decode cX10_order 13 = .ok (.lconst 0, 1) := by decide +kernel
theorem dX10_order_14 : decode cX10_order 14 = .ok (.lcmp, 1) := by decide +kernel
theorem dX10_order_15 : decode cX10_order 15 = .ok (.ifCond .ge 7, 3) := by decide +kernel
theorem dX10_order_18 : decode cX10_order 18 = .ok (.sipush (-1002), 3) := by decide +kernel
theorem dX10_order_21 : decode cX10_order 21 = .ok (.ireturn, 1) := by decide +kernel
theorem dX10_order_22 : decode cX10_order 22 = .ok (.aload_n 0, 1) := by decide +kernel
theorem dX10_order_23 : decode cX10_order 23 = .ok (.iload_n 1, 1) := by decide +kernel
theorem dX10_order_24 : decode cX10_order 24 = .ok (.invokevirtual 231, 3) := by decide +kernel
theorem dX10_order_27 : decode cX10_order 27 = .ok (.aload_n 0, 1) := by decide +kernel
theorem dX10_order_28 : decode cX10_order 28 = .ok (.getfield 41, 3) := by decide +kernel
theorem dX10_order_31 : decode cX10_order 31 = .ok (.iconst 0, 1) := by decide +kernel
theorem dX10_order_32 : decode cX10_order 32 = .ok (.laload, 1) := by decide +kernel
theorem dX10_order_33 : decode cX10_order 33 = .ok (.lload_n 2, 1) := by decide +kernel
theorem dX10_order_34 : decode cX10_order 34 = .ok (.lcmp, 1) := by decide +kernel
theorem dX10_order_35 : decode cX10_order 35 = .ok (.ifCond .le 8, 3) := by decide +kernel
theorem dX10_order_38 : decode cX10_order 38 = .ok (.iload 4, 2) := by decide +kernel
theorem dX10_order_40 : decode cX10_order 40 = .ok (.ifCond .ge 5, 3) := by decide +kernel
theorem dX10_order_43 : decode cX10_order 43 = .ok (.iconst (-1), 1) := by decide +kernel
theorem dX10_order_44 : decode cX10_order 44 = .ok (.ireturn, 1) := by decide +kernel
theorem dX10_order_45 : decode cX10_order 45 = .ok (.lload_n 2, 1) := by decide +kernel
theorem dX10_order_46 : decode cX10_order 46 = .ok (.lstore 5, 2) := by decide +kernel
theorem dX10_order_48 : decode cX10_order 48 = .ok (.iconst 0, 1) := by decide +kernel
theorem dX10_order_49 : decode cX10_order 49 = .ok (.istore 7, 2) := by decide +kernel
theorem dX10_order_51 : decode cX10_order 51 = .ok (.iconst 0, 1) := by decide +kernel
theorem dX10_order_52 : decode cX10_order 52 = .ok (.istore 8, 2) := by decide +kernel
theorem dX10_order_54 : decode cX10_order 54 = .ok (.iload 7, 2) := by decide +kernel
theorem dX10_order_56 : decode cX10_order 56 = .ok (.iload_n 1, 1) := by decide +kernel
theorem dX10_order_57 : decode cX10_order 57 = .ok (.if_icmp .eq 114, 3) := by decide +kernel
theorem dX10_order_60 : decode cX10_order 60 = .ok (.iconst (-1), 1) := by decide +kernel
theorem dX10_order_61 : decode cX10_order 61 = .ok (.istore 9, 2) := by decide +kernel
theorem dX10_order_63 : decode cX10_order 63 = .ok (.iconst 0, 1) := by decide +kernel
theorem dX10_order_64 : decode cX10_order 64 = .ok (.istore 10, 2) := by decide +kernel
theorem dX10_order_66 : decode cX10_order 66 = .ok (.iload 10, 2) := by decide +kernel
theorem dX10_order_68 : decode cX10_order 68 = .ok (.aload_n 0, 1) := by decide +kernel
theorem dX10_order_69 : decode cX10_order 69 = .ok (.getfield 174, 3) := by decide +kernel
theorem dX10_order_72 : decode cX10_order 72 = .ok (.if_icmp .ge 74, 3) := by decide +kernel
theorem dX10_order_75 : decode cX10_order 75 = .ok (.iload 9, 2) := by decide +kernel
theorem dX10_order_77 : decode cX10_order 77 = .ok (.ifCond .ge 69, 3) := by decide +kernel
theorem dX10_order_80 : decode cX10_order 80 = .ok (.iload_n 1, 1) := by decide +kernel
theorem dX10_order_81 : decode cX10_order 81 = .ok (.iload 10, 2) := by decide +kernel
theorem dX10_order_83 : decode cX10_order 83 = .ok (.invokestatic 143, 3) := by decide +kernel
theorem dX10_order_86 : decode cX10_order 86 = .ok (.ifCond .eq 54, 3) := by decide +kernel
theorem dX10_order_89 : decode cX10_order 89 = .ok (.aload_n 0, 1) := by decide +kernel
theorem dX10_order_90 : decode cX10_order 90 = .ok (.getfield 49, 3) := by decide +kernel
theorem dX10_order_93 : decode cX10_order 93 = .ok (.iload 7, 2) := by decide +kernel
theorem dX10_order_95 : decode cX10_order 95 = .ok (.iaload, 1) := by decide +kernel
theorem dX10_order_96 : decode cX10_order 96 = .ok (.iload 10, 2) := by decide +kernel
theorem dX10_order_98 : decode cX10_order 98 = .ok (.invokestatic 143, 3) := by decide +kernel
theorem dX10_order_101 : decode cX10_order 101 = .ok (.ifCond .eq 39, 3) := by decide +kernel
theorem dX10_order_104 : decode cX10_order 104 = .ok (.aload_n 0, 1) := by decide +kernel
theorem dX10_order_105 : decode cX10_order 105 = .ok (.getfield 41, 3) := by decide +kernel
theorem dX10_order_108 : decode cX10_order 108 = .ok (.iload 7, 2) := by decide +kernel
theorem dX10_order_110 : decode cX10_order 110 = .ok (.iconst 1, 1) := by decide +kernel
theorem dX10_order_111 : decode cX10_order 111 = .ok (.iload 10, 2) := by decide +kernel
theorem dX10_order_113 : decode cX10_order 113 = .ok (.ishl, 1) := by decide +kernel
theorem dX10_order_114 : decode cX10_order 114 = .ok (.ior, 1) := by decide +kernel
theorem dX10_order_115 : decode cX10_order 115 = .ok (.laload, 1) := by decide +kernel
theorem dX10_order_116 : decode cX10_order 116 = .ok (.lstore 11, 2) := by decide +kernel
theorem dX10_order_118 : decode cX10_order 118 = .ok (.lload 5, 2) := by decide +kernel
theorem dX10_order_120 : decode cX10_order 120 = .ok (.lload 11, 2) := by decide +kernel
theorem dX10_order_122 : decode cX10_order 122 = .ok (.lcmp, 1) := by decide +kernel
theorem dX10_order_123 : decode cX10_order 123 = .ok (.ifCond .ge 10, 3) := by decide +kernel
theorem dX10_order_126 : decode cX10_order 126 = .ok (.iload 10, 2) := by decide +kernel
theorem dX10_order_128 : decode cX10_order 128 = .ok (.istore 9, 2) := by decide +kernel
theorem dX10_order_130 : decode cX10_order 130 = .ok (.goto 10, 3) := by decide +kernel
theorem dX10_order_133 : decode cX10_order 133 = .ok (.lload 5, 2) := by decide +kernel
theorem dX10_order_135 : decode cX10_order 135 = .ok (.lload 11, 2) := by decide +kernel
theorem dX10_order_137 : decode cX10_order 137 = .ok (.lsub, 1) := by decide +kernel
theorem dX10_order_138 : decode cX10_order 138 = .ok (.lstore 5, 2) := by decide +kernel
theorem dX10_order_140 : decode cX10_order 140 = .ok (.iinc 10 1, 3) := by decide +kernel
theorem dX10_order_143 : decode cX10_order 143 = .ok (.goto (-77), 3) := by decide +kernel
theorem dX10_order_146 : decode cX10_order 146 = .ok (.iload 8, 2) := by decide +kernel
theorem dX10_order_148 : decode cX10_order 148 = .ok (.iload 4, 2) := by decide +kernel
theorem dX10_order_150 : decode cX10_order 150 = .ok (.if_icmp .ne 6, 3) := by decide +kernel
theorem dX10_order_153 : decode cX10_order 153 = .ok (.iload 9, 2) := by decide +kernel
theorem dX10_order_155 : decode cX10_order 155 = .ok (.ireturn, 1) := by decide +kernel
theorem dX10_order_156 : decode cX10_order 156 = .ok (.iload 7, 2) := by decide +kernel
theorem dX10_order_158 : decode cX10_order 158 = .ok (.iconst 1, 1) := by decide +kernel
theorem dX10_order_159 : decode cX10_order 159 = .ok (.iload 9, 2) := by decide +kernel
theorem dX10_order_161 : decode cX10_order 161 = .ok (.ishl, 1) := by decide +kernel
theorem dX10_order_162 : decode cX10_order 162 = .ok (.ior, 1) := by decide +kernel
theorem dX10_order_163 : decode cX10_order 163 = .ok (.istore 7, 2) := by decide +kernel
theorem dX10_order_165 : decode cX10_order 165 = .ok (.iinc 8 1, 3) := by decide +kernel
theorem dX10_order_168 : decode cX10_order 168 = .ok (.goto (-114), 3) := by decide +kernel
theorem dX10_order_171 : decode cX10_order 171 = .ok (.iconst (-1), 1) := by decide +kernel
theorem dX10_order_172 : decode cX10_order 172 = .ok (.ireturn, 1) := by decide +kernel
theorem dX10_good_0 : decode cX10_good 0 = .ok (.aload_n 0, 1) := by decide +kernel
theorem dX10_good_1 : decode cX10_good 1 = .ok (.invokevirtual 234, 3) := by decide +kernel
theorem dX10_good_4 : decode cX10_good 4 = .ok (.iconst 0, 1) := by decide +kernel
theorem dX10_good_5 : decode cX10_good 5 = .ok (.istore_n 1, 1) := by decide +kernel
theorem dX10_good_6 : decode cX10_good 6 = .ok (.iconst 0, 1) := by decide +kernel
theorem dX10_good_7 : decode cX10_good 7 = .ok (.istore_n 2, 1) := by decide +kernel
theorem dX10_good_8 : decode cX10_good 8 = .ok (.iload_n 2, 1) := by decide +kernel
theorem dX10_good_9 : decode cX10_good 9 = .ok (.aload_n 0, 1) := by decide +kernel
theorem dX10_good_10 : decode cX10_good 10 = .ok (.invokevirtual 192, 3) := by decide +kernel
theorem dX10_good_13 : decode cX10_good 13 = .ok (.if_icmp .gt 21, 3) := by decide +kernel
theorem dX10_good_16 : decode cX10_good 16 = .ok (.iload_n 1, 1) := by decide +kernel
theorem dX10_good_17 : decode cX10_good 17 = .ok (.aload_n 0, 1) := by decide +kernel
theorem dX10_good_18 : decode cX10_good 18 = .ok (.getfield 45, 3) := by decide +kernel
theorem dX10_good_21 : decode cX10_good 21 = .ok (.iload_n 2, 1) := by decide +kernel
theorem dX10_good_22 : decode cX10_good 22 = .ok (.baload, 1) := by decide +kernel
theorem dX10_good_23 : decode cX10_good 23 = .ok (.invokestatic 154, 3) := by decide +kernel
theorem dX10_good_26 : decode cX10_good 26 = .ok (.iadd, 1) := by decide +kernel
theorem dX10_good_27 : decode cX10_good 27 = .ok (.istore_n 1, 1) := by decide +kernel
theorem dX10_good_28 : decode cX10_good 28 = .ok (.iinc 2 1, 3) := by decide +kernel
theorem dX10_good_31 : decode cX10_good 31 = .ok (.goto (-23), 3) := by decide +kernel
theorem dX10_good_34 : decode cX10_good 34 = .ok (.iload_n 1, 1) := by decide +kernel
theorem dX10_good_35 : decode cX10_good 35 = .ok (.ireturn, 1) := by decide +kernel
theorem dX10_place_0 : decode cX10_place 0 = .ok (.aload_n 0, 1) := by decide +kernel
theorem dX10_place_1 : decode cX10_place 1 = .ok (.iload_n 1, 1) := by decide +kernel
theorem dX10_place_2 : decode cX10_place 2 = .ok (.invokevirtual 195, 3) := by decide +kernel
theorem dX10_place_5 : decode cX10_place 5 = .ok (.ifCond .eq 7, 3) := by decide +kernel
theorem dX10_place_8 : decode cX10_place 8 = .ok (.sipush (-1001), 3) := by decide +kernel
theorem dX10_place_11 : decode cX10_place 11 = .ok (.ireturn, 1) := by decide +kernel
theorem dX10_place_12 : decode cX10_place 12 = .ok (.iload_n 2, 1) := by decide +kernel
theorem dX10_place_13 : decode cX10_place 13 = .ok (.i2l, 1) := by decide +kernel
theorem dX10_place_14 : decode cX10_place 14 = .ok (.lconst 0, 1) := by decide +kernel
theorem dX10_place_15 : decode cX10_place 15 = .ok (.lconst 1, 1) := by decide +kernel
theorem dX10_place_16 : decode cX10_place 16 = .ok (.invokestatic 99, 3) := by decide +kernel
theorem dX10_place_19 : decode cX10_place 19 = .ok (.ifCond .ne 7, 3) := by decide +kernel
theorem dX10_place_22 : decode cX10_place 22 = .ok (.sipush (-1002), 3) := by decide +kernel
theorem dX10_place_25 : decode cX10_place 25 = .ok (.ireturn, 1) := by decide +kernel
theorem dX10_place_26 : decode cX10_place 26 = .ok (.aload_n 0, 1) := by decide +kernel
theorem dX10_place_27 : decode cX10_place 27 = .ok (.aload_n 0, 1) := by decide +kernel
theorem dX10_place_28 : decode cX10_place 28 = .ok (.invokevirtual 192, 3) := by decide +kernel
theorem dX10_place_31 : decode cX10_place 31 = .ok (.invokevirtual 231, 3) := by decide +kernel
theorem dX10_place_34 : decode cX10_place 34 = .ok (.aload_n 0, 1) := by decide +kernel
theorem dX10_place_35 : decode cX10_place 35 = .ok (.invokevirtual 234, 3) := by decide +kernel
theorem dX10_place_38 : decode cX10_place 38 = .ok (.iconst (-1), 1) := by decide +kernel
theorem dX10_place_39 : decode cX10_place 39 = .ok (.istore_n 3, 1) := by decide +kernel
theorem dX10_place_40 : decode cX10_place 40 = .ok (.iconst 0, 1) := by decide +kernel
theorem dX10_place_41 : decode cX10_place 41 = .ok (.istore 4, 2) := by decide +kernel
theorem dX10_place_43 : decode cX10_place 43 = .ok (.iload 4, 2) := by decide +kernel
theorem dX10_place_45 : decode cX10_place 45 = .ok (.aload_n 0, 1) := by decide +kernel
theorem dX10_place_46 : decode cX10_place 46 = .ok (.invokevirtual 192, 3) := by decide +kernel
theorem dX10_place_49 : decode cX10_place 49 = .ok (.if_icmp .gt 86, 3) := by decide +kernel
theorem dX10_place_52 : decode cX10_place 52 = .ok (.aload_n 0, 1) := by decide +kernel
theorem dX10_place_53 : decode cX10_place 53 = .ok (.getfield 45, 3) := by decide +kernel
theorem dX10_place_56 : decode cX10_place 56 = .ok (.iload 4, 2) := by decide +kernel
theorem dX10_place_58 : decode cX10_place 58 = .ok (.baload, 1) := by decide +kernel
theorem dX10_place_59 : decode cX10_place 59 = .ok (.ifCond .eq 70, 3) := by decide +kernel
theorem dX10_place_62 : decode cX10_place 62 = .ok (.aload_n 0, 1) := by decide +kernel
theorem dX10_place_63 : decode cX10_place 63 = .ok (.getfield 49, 3) := by decide +kernel
theorem dX10_place_66 : decode cX10_place 66 = .ok (.iload 4, 2) := by decide +kernel
theorem dX10_place_68 : decode cX10_place 68 = .ok (.iaload, 1) := by decide +kernel
theorem dX10_place_69 : decode cX10_place 69 = .ok (.iload_n 1, 1) := by decide +kernel
theorem dX10_place_70 : decode cX10_place 70 = .ok (.invokestatic 143, 3) := by decide +kernel
theorem dX10_place_73 : decode cX10_place 73 = .ok (.ifCond .eq 56, 3) := by decide +kernel
theorem dX10_place_76 : decode cX10_place 76 = .ok (.aload_n 0, 1) := by decide +kernel
theorem dX10_place_77 : decode cX10_place 77 = .ok (.getfield 41, 3) := by decide +kernel
theorem dX10_place_80 : decode cX10_place 80 = .ok (.iload 4, 2) := by decide +kernel
theorem dX10_place_82 : decode cX10_place 82 = .ok (.iconst 1, 1) := by decide +kernel
theorem dX10_place_83 : decode cX10_place 83 = .ok (.iload_n 1, 1) := by decide +kernel
theorem dX10_place_84 : decode cX10_place 84 = .ok (.ishl, 1) := by decide +kernel
theorem dX10_place_85 : decode cX10_place 85 = .ok (.ior, 1) := by decide +kernel
theorem dX10_place_86 : decode cX10_place 86 = .ok (.laload, 1) := by decide +kernel
theorem dX10_place_87 : decode cX10_place 87 = .ok (.lconst 0, 1) := by decide +kernel
theorem dX10_place_88 : decode cX10_place 88 = .ok (.lcmp, 1) := by decide +kernel
theorem dX10_place_89 : decode cX10_place 89 = .ok (.ifCond .le 40, 3) := by decide +kernel
theorem dX10_place_92 : decode cX10_place 92 = .ok (.iload 4, 2) := by decide +kernel
theorem dX10_place_94 : decode cX10_place 94 = .ok (.invokestatic 208, 3) := by decide +kernel
theorem dX10_place_97 : decode cX10_place 97 = .ok (.istore 5, 2) := by decide +kernel
theorem dX10_place_99 : decode cX10_place 99 = .ok (.iload_n 3, 1) := by decide +kernel
theorem dX10_place_100 : decode cX10_place 100 = .ok (.ifCond .lt 22, 3) := by decide +kernel
theorem dX10_place_103 : decode cX10_place 103 = .ok (.iload_n 2, 1) := by decide +kernel
theorem dX10_place_104 : decode cX10_place 104 = .ok (.ifCond .ne 12, 3) := by decide +kernel
theorem dX10_place_107 : decode cX10_place 107 = .ok (.iload 5, 2) := by decide +kernel
theorem dX10_place_109 : decode cX10_place 109 = .ok (.iload_n 3, 1) := by decide +kernel
theorem dX10_place_110 : decode cX10_place 110 = .ok (.if_icmp .ge 17, 3) := by decide +kernel
theorem dX10_place_113 : decode cX10_place 113 = .ok (.goto 9, 3) := by decide +kernel
theorem dX10_place_116 : decode cX10_place 116 = .ok (.iload 5, 2) := by decide +kernel
theorem dX10_place_118 : decode cX10_place 118 = .ok (.iload_n 3, 1) := by decide +kernel
theorem dX10_place_119 : decode cX10_place 119 = .ok (.if_icmp .le 8, 3) := by decide +kernel
theorem dX10_place_122 : decode cX10_place 122 = .ok (.iload 5, 2) := by decide +kernel
theorem dX10_place_124 : decode cX10_place 124 = .ok (.goto 4, 3) := by decide +kernel
theorem dX10_place_127 : decode cX10_place 127 = .ok (.iload_n 3, 1) := by decide +kernel
theorem dX10_place_128 : decode cX10_place 128 = .ok (.istore_n 3, 1) := by decide +kernel
theorem dX10_place_129 : decode cX10_place 129 = .ok (.iinc 4 1, 3) := by decide +kernel
theorem dX10_place_132 : decode cX10_place 132 = .ok (.goto (-89), 3) := by decide +kernel
theorem dX10_place_135 : decode cX10_place 135 = .ok (.iload_n 3, 1) := by decide +kernel
theorem dX10_place_136 : decode cX10_place 136 = .ok (.ireturn, 1) := by decide +kernel
theorem dX10_openOf_0 : decode cX10_openOf 0 = .ok (.aload_n 0, 1) := by decide +kernel
theorem dX10_openOf_1 : decode cX10_openOf 1 = .ok (.iload_n 1, 1) := by decide +kernel
theorem dX10_openOf_2 : decode cX10_openOf 2 = .ok (.iconst 3, 1) := by decide +kernel
theorem dX10_openOf_3 : decode cX10_openOf 3 = .ok (.invokevirtual 217, 3) := by decide +kernel
theorem dX10_openOf_6 : decode cX10_openOf 6 = .ok (.aload_n 0, 1) := by decide +kernel
theorem dX10_openOf_7 : decode cX10_openOf 7 = .ok (.iload_n 1, 1) := by decide +kernel
theorem dX10_openOf_8 : decode cX10_openOf 8 = .ok (.iconst 4, 1) := by decide +kernel
theorem dX10_openOf_9 : decode cX10_openOf 9 = .ok (.invokevirtual 217, 3) := by decide +kernel
theorem dX10_openOf_12 : decode cX10_openOf 12 = .ok (.iconst (-1), 1) := by decide +kernel
theorem dX10_openOf_13 : decode cX10_openOf 13 = .ok (.ixor, 1) := by decide +kernel
theorem dX10_openOf_14 : decode cX10_openOf 14 = .ok (.iand, 1) := by decide +kernel
theorem dX10_openOf_15 : decode cX10_openOf 15 = .ok (.ireturn, 1) := by decide +kernel
theorem dX10_open_0 : decode cX10_open 0 = .ok (.aload_n 0, 1) := by decide +kernel
theorem dX10_open_1 : decode cX10_open 1 = .ok (.iload_n 1, 1) := by decide +kernel
theorem dX10_open_2 : decode cX10_open 2 = .ok (.invokevirtual 220, 3) := by decide +kernel
theorem dX10_open_5 : decode cX10_open 5 = .ok (.ifCond .eq 9, 3) := by decide +kernel
theorem dX10_open_8 : decode cX10_open 8 = .ok (.sipush (-1001), 3) := by decide +kernel
theorem dX10_open_11 : decode cX10_open 11 = .ok (.goto 8, 3) := by decide +kernel
theorem dX10_open_14 : decode cX10_open 14 = .ok (.aload_n 0, 1) := by decide +kernel
theorem dX10_open_15 : decode cX10_open 15 = .ok (.iload_n 1, 1) := by decide +kernel
theorem dX10_open_16 : decode cX10_open 16 = .ok (.invokevirtual 237, 3) := by decide +kernel
theorem dX10_open_19 : decode cX10_open 19 = .ok (.ireturn, 1) := by decide +kernel
theorem dX10_atOnce_0 : decode cX10_atOnce 0 = .ok (.aload_n 0, 1) := by decide +kernel
theorem dX10_atOnce_1 : decode cX10_atOnce 1 = .ok (.iload_n 1, 1) := by decide +kernel
theorem dX10_atOnce_2 : decode cX10_atOnce 2 = .ok (.invokevirtual 220, 3) := by decide +kernel
theorem dX10_atOnce_5 : decode cX10_atOnce 5 = .ok (.ifCond .eq 7, 3) := by decide +kernel
theorem dX10_atOnce_8 : decode cX10_atOnce 8 = .ok (.sipush (-1001), 3) := by decide +kernel
theorem dX10_atOnce_11 : decode cX10_atOnce 11 = .ok (.ireturn, 1) := by decide +kernel
theorem dX10_atOnce_12 : decode cX10_atOnce 12 = .ok (.aload_n 0, 1) := by decide +kernel
theorem dX10_atOnce_13 : decode cX10_atOnce 13 = .ok (.invokevirtual 234, 3) := by decide +kernel
theorem dX10_atOnce_16 : decode cX10_atOnce 16 = .ok (.iconst 0, 1) := by decide +kernel
theorem dX10_atOnce_17 : decode cX10_atOnce 17 = .ok (.istore_n 2, 1) := by decide +kernel
theorem dX10_atOnce_18 : decode cX10_atOnce 18 = .ok (.iload_n 2, 1) := by decide +kernel
theorem dX10_atOnce_19 : decode cX10_atOnce 19 = .ok (.iload_n 1, 1) := by decide +kernel
theorem dX10_atOnce_20 : decode cX10_atOnce 20 = .ok (.if_icmp .gt 145, 3) := by decide +kernel
theorem dX10_atOnce_23 : decode cX10_atOnce 23 = .ok (.iload_n 2, 1) := by decide +kernel
theorem dX10_atOnce_24 : decode cX10_atOnce 24 = .ok (.ifCond .ne 7, 3) := by decide +kernel
theorem dX10_atOnce_27 : decode cX10_atOnce 27 = .ok (.iconst 0, 1) := by decide +kernel
theorem dX10_atOnce_28 : decode cX10_atOnce 28 = .ok (.goto 5, 3) := by decide +kernel
theorem dX10_atOnce_31 : decode cX10_atOnce 31 = .ok (.ldc 240, 2) := by decide +kernel
theorem dX10_atOnce_33 : decode cX10_atOnce 33 = .ok (.istore_n 3, 1) := by decide +kernel
theorem dX10_atOnce_34 : decode cX10_atOnce 34 = .ok (.iconst 0, 1) := by decide +kernel
theorem dX10_atOnce_35 : decode cX10_atOnce 35 = .ok (.istore 4, 2) := by decide +kernel
theorem dX10_atOnce_37 : decode cX10_atOnce 37 = .ok (.iload 4, 2) := by decide +kernel
theorem dX10_atOnce_39 : decode cX10_atOnce 39 = .ok (.aload_n 0, 1) := by decide +kernel
theorem dX10_atOnce_40 : decode cX10_atOnce 40 = .ok (.getfield 174, 3) := by decide +kernel
theorem dX10_atOnce_43 : decode cX10_atOnce 43 = .ok (.if_icmp .ge 88, 3) := by decide +kernel
theorem dX10_atOnce_46 : decode cX10_atOnce 46 = .ok (.iload_n 2, 1) := by decide +kernel
theorem dX10_atOnce_47 : decode cX10_atOnce 47 = .ok (.iconst 1, 1) := by decide +kernel
theorem dX10_atOnce_48 : decode cX10_atOnce 48 = .ok (.iload 4, 2) := by decide +kernel
theorem dX10_atOnce_50 : decode cX10_atOnce 50 = .ok (.ishl, 1) := by decide +kernel
theorem dX10_atOnce_51 : decode cX10_atOnce 51 = .ok (.iconst (-1), 1) := by decide +kernel
theorem dX10_atOnce_52 : decode cX10_atOnce 52 = .ok (.ixor, 1) := by decide +kernel
theorem dX10_atOnce_53 : decode cX10_atOnce 53 = .ok (.iand, 1) := by decide +kernel
theorem dX10_atOnce_54 : decode cX10_atOnce 54 = .ok (.istore 5, 2) := by decide +kernel
theorem dX10_atOnce_56 : decode cX10_atOnce 56 = .ok (.iload_n 2, 1) := by decide +kernel
theorem dX10_atOnce_57 : decode cX10_atOnce 57 = .ok (.iload 4, 2) := by decide +kernel
theorem dX10_atOnce_59 : decode cX10_atOnce 59 = .ok (.invokestatic 143, 3) := by decide +kernel
theorem dX10_atOnce_62 : decode cX10_atOnce 62 = .ok (.ifCond .eq 32, 3) := by decide +kernel
theorem dX10_atOnce_65 : decode cX10_atOnce 65 = .ok (.aload_n 0, 1) := by decide +kernel
theorem dX10_atOnce_66 : decode cX10_atOnce 66 = .ok (.getfield 45, 3) := by decide +kernel
theorem dX10_atOnce_69 : decode cX10_atOnce 69 = .ok (.iload 5, 2) := by decide +kernel
theorem dX10_atOnce_71 : decode cX10_atOnce 71 = .ok (.baload, 1) := by decide +kernel
theorem dX10_atOnce_72 : decode cX10_atOnce 72 = .ok (.ifCond .eq 22, 3) := by decide +kernel
theorem dX10_atOnce_75 : decode cX10_atOnce 75 = .ok (.aload_n 0, 1) := by decide +kernel
theorem dX10_atOnce_76 : decode cX10_atOnce 76 = .ok (.getfield 49, 3) := by decide +kernel
theorem dX10_atOnce_79 : decode cX10_atOnce 79 = .ok (.iload 5, 2) := by decide +kernel
theorem dX10_atOnce_81 : decode cX10_atOnce 81 = .ok (.iaload, 1) := by decide +kernel
theorem dX10_atOnce_82 : decode cX10_atOnce 82 = .ok (.iload 4, 2) := by decide +kernel
theorem dX10_atOnce_84 : decode cX10_atOnce 84 = .ok (.invokestatic 143, 3) := by decide +kernel
theorem dX10_atOnce_87 : decode cX10_atOnce 87 = .ok (.ifCond .eq 7, 3) := by decide +kernel
theorem dX10_atOnce_90 : decode cX10_atOnce 90 = .ok (.iconst 1, 1) := by decide +kernel
theorem dX10_atOnce_91 : decode cX10_atOnce 91 = .ok (.goto 4, 3) := by decide +kernel
theorem dX10_atOnce_94 : decode cX10_atOnce 94 = .ok (.iconst 0, 1) := by decide +kernel
theorem dX10_atOnce_95 : decode cX10_atOnce 95 = .ok (.istore 6, 2) := by decide +kernel
theorem dX10_atOnce_97 : decode cX10_atOnce 97 = .ok (.iload 6, 2) := by decide +kernel
theorem dX10_atOnce_99 : decode cX10_atOnce 99 = .ok (.ifCond .eq 24, 3) := by decide +kernel
theorem dX10_atOnce_102 : decode cX10_atOnce 102 = .ok (.aload_n 0, 1) := by decide +kernel
theorem dX10_atOnce_103 : decode cX10_atOnce 103 = .ok (.getfield 52, 3) := by decide +kernel
theorem dX10_atOnce_106 : decode cX10_atOnce 106 = .ok (.iload 5, 2) := by decide +kernel
theorem dX10_atOnce_108 : decode cX10_atOnce 108 = .ok (.iaload, 1) := by decide +kernel
theorem dX10_atOnce_109 : decode cX10_atOnce 109 = .ok (.iload_n 3, 1) := by decide +kernel
theorem dX10_atOnce_110 : decode cX10_atOnce 110 = .ok (.if_icmp .ge 13, 3) := by decide +kernel
theorem dX10_atOnce_113 : decode cX10_atOnce 113 = .ok (.aload_n 0, 1) := by decide +kernel
theorem dX10_atOnce_114 : decode cX10_atOnce 114 = .ok (.getfield 52, 3) := by decide +kernel
theorem dX10_atOnce_117 : decode cX10_atOnce 117 = .ok (.iload 5, 2) := by decide +kernel
theorem dX10_atOnce_119 : decode cX10_atOnce 119 = .ok (.iaload, 1) := by decide +kernel
theorem dX10_atOnce_120 : decode cX10_atOnce 120 = .ok (.goto 4, 3) := by decide +kernel
theorem dX10_atOnce_123 : decode cX10_atOnce 123 = .ok (.iload_n 3, 1) := by decide +kernel
theorem dX10_atOnce_124 : decode cX10_atOnce 124 = .ok (.istore_n 3, 1) := by decide +kernel
theorem dX10_atOnce_125 : decode cX10_atOnce 125 = .ok (.iinc 4 1, 3) := by decide +kernel
theorem dX10_atOnce_128 : decode cX10_atOnce 128 = .ok (.goto (-91), 3) := by decide +kernel
theorem dX10_atOnce_131 : decode cX10_atOnce 131 = .ok (.aload_n 0, 1) := by decide +kernel
theorem dX10_atOnce_132 : decode cX10_atOnce 132 = .ok (.iload_n 2, 1) := by decide +kernel
theorem dX10_atOnce_133 : decode cX10_atOnce 133 = .ok (.invokevirtual 237, 3) := by decide +kernel
theorem dX10_atOnce_136 : decode cX10_atOnce 136 = .ok (.invokestatic 208, 3) := by decide +kernel
theorem dX10_atOnce_139 : decode cX10_atOnce 139 = .ok (.istore 4, 2) := by decide +kernel
theorem dX10_atOnce_141 : decode cX10_atOnce 141 = .ok (.aload_n 0, 1) := by decide +kernel
theorem dX10_atOnce_142 : decode cX10_atOnce 142 = .ok (.getfield 52, 3) := by decide +kernel
theorem dX10_atOnce_145 : decode cX10_atOnce 145 = .ok (.iload_n 2, 1) := by decide +kernel
theorem dX10_atOnce_146 : decode cX10_atOnce 146 = .ok (.iload_n 3, 1) := by decide +kernel
theorem dX10_atOnce_147 : decode cX10_atOnce 147 = .ok (.iload 4, 2) := by decide +kernel
theorem dX10_atOnce_149 : decode cX10_atOnce 149 = .ok (.if_icmp .le 7, 3) := by decide +kernel
theorem dX10_atOnce_152 : decode cX10_atOnce 152 = .ok (.iload_n 3, 1) := by decide +kernel
theorem dX10_atOnce_153 : decode cX10_atOnce 153 = .ok (.goto 5, 3) := by decide +kernel
theorem dX10_atOnce_156 : decode cX10_atOnce 156 = .ok (.iload 4, 2) := by decide +kernel
theorem dX10_atOnce_158 : decode cX10_atOnce 158 = .ok (.iastore, 1) := by decide +kernel
theorem dX10_atOnce_159 : decode cX10_atOnce 159 = .ok (.iinc 2 1, 3) := by decide +kernel
theorem dX10_atOnce_162 : decode cX10_atOnce 162 = .ok (.goto (-144), 3) := by decide +kernel
theorem dX10_atOnce_165 : decode cX10_atOnce 165 = .ok (.aload_n 0, 1) := by decide +kernel
theorem dX10_atOnce_166 : decode cX10_atOnce 166 = .ok (.getfield 45, 3) := by decide +kernel
theorem dX10_atOnce_169 : decode cX10_atOnce 169 = .ok (.iload_n 1, 1) := by decide +kernel
theorem dX10_atOnce_170 : decode cX10_atOnce 170 = .ok (.baload, 1) := by decide +kernel
theorem dX10_atOnce_171 : decode cX10_atOnce 171 = .ok (.ifCond .eq 12, 3) := by decide +kernel
theorem dX10_atOnce_174 : decode cX10_atOnce 174 = .ok (.aload_n 0, 1) := by decide +kernel
theorem dX10_atOnce_175 : decode cX10_atOnce 175 = .ok (.getfield 52, 3) := by decide +kernel
theorem dX10_atOnce_178 : decode cX10_atOnce 178 = .ok (.iload_n 1, 1) := by decide +kernel
theorem dX10_atOnce_179 : decode cX10_atOnce 179 = .ok (.iaload, 1) := by decide +kernel
theorem dX10_atOnce_180 : decode cX10_atOnce 180 = .ok (.goto 4, 3) := by decide +kernel
theorem dX10_atOnce_183 : decode cX10_atOnce 183 = .ok (.iconst (-1), 1) := by decide +kernel
theorem dX10_atOnce_184 : decode cX10_atOnce 184 = .ok (.ireturn, 1) := by decide +kernel
theorem dX10_along_0 : decode cX10_along 0 = .ok (.aload_n 0, 1) := by decide +kernel
theorem dX10_along_1 : decode cX10_along 1 = .ok (.iload_n 1, 1) := by decide +kernel
theorem dX10_along_2 : decode cX10_along 2 = .ok (.invokevirtual 195, 3) := by decide +kernel
theorem dX10_along_5 : decode cX10_along 5 = .ok (.ifCond .eq 7, 3) := by decide +kernel
theorem dX10_along_8 : decode cX10_along 8 = .ok (.sipush (-1001), 3) := by decide +kernel
theorem dX10_along_11 : decode cX10_along 11 = .ok (.ireturn, 1) := by decide +kernel
theorem dX10_along_12 : decode cX10_along 12 = .ok (.aload_n 0, 1) := by decide +kernel
theorem dX10_along_13 : decode cX10_along 13 = .ok (.invokevirtual 234, 3) := by decide +kernel
theorem dX10_along_16 : decode cX10_along 16 = .ok (.iconst 0, 1) := by decide +kernel
theorem dX10_along_17 : decode cX10_along 17 = .ok (.istore_n 2, 1) := by decide +kernel
theorem dX10_along_18 : decode cX10_along 18 = .ok (.iconst 0, 1) := by decide +kernel
theorem dX10_along_19 : decode cX10_along 19 = .ok (.istore_n 3, 1) := by decide +kernel
theorem dX10_along_20 : decode cX10_along 20 = .ok (.iload_n 3, 1) := by decide +kernel
theorem dX10_along_21 : decode cX10_along 21 = .ok (.aload_n 0, 1) := by decide +kernel
theorem dX10_along_22 : decode cX10_along 22 = .ok (.invokevirtual 192, 3) := by decide +kernel
theorem dX10_along_25 : decode cX10_along 25 = .ok (.if_icmp .gt 34, 3) := by decide +kernel
theorem dX10_along_28 : decode cX10_along 28 = .ok (.iload_n 2, 1) := by decide +kernel
theorem dX10_along_29 : decode cX10_along 29 = .ok (.aload_n 0, 1) := by decide +kernel
theorem dX10_along_30 : decode cX10_along 30 = .ok (.getfield 45, 3) := by decide +kernel
theorem dX10_along_33 : decode cX10_along 33 = .ok (.iload_n 3, 1) := by decide +kernel
theorem dX10_along_34 : decode cX10_along 34 = .ok (.baload, 1) := by decide +kernel
theorem dX10_along_35 : decode cX10_along 35 = .ok (.ifCond .eq 15, 3) := by decide +kernel
theorem dX10_along_38 : decode cX10_along 38 = .ok (.iload_n 3, 1) := by decide +kernel
theorem dX10_along_39 : decode cX10_along 39 = .ok (.iload_n 1, 1) := by decide +kernel
theorem dX10_along_40 : decode cX10_along 40 = .ok (.invokestatic 143, 3) := by decide +kernel
theorem dX10_along_43 : decode cX10_along 43 = .ok (.ifCond .ne 7, 3) := by decide +kernel
theorem dX10_along_46 : decode cX10_along 46 = .ok (.iload_n 3, 1) := by decide +kernel
theorem dX10_along_47 : decode cX10_along 47 = .ok (.goto 4, 3) := by decide +kernel
theorem dX10_along_50 : decode cX10_along 50 = .ok (.iconst 0, 1) := by decide +kernel
theorem dX10_along_51 : decode cX10_along 51 = .ok (.ior, 1) := by decide +kernel
theorem dX10_along_52 : decode cX10_along 52 = .ok (.istore_n 2, 1) := by decide +kernel
theorem dX10_along_53 : decode cX10_along 53 = .ok (.iinc 3 1, 3) := by decide +kernel
theorem dX10_along_56 : decode cX10_along 56 = .ok (.goto (-36), 3) := by decide +kernel
theorem dX10_along_59 : decode cX10_along 59 = .ok (.aload_n 0, 1) := by decide +kernel
theorem dX10_along_60 : decode cX10_along 60 = .ok (.invokevirtual 192, 3) := by decide +kernel
theorem dX10_along_63 : decode cX10_along 63 = .ok (.iload_n 2, 1) := by decide +kernel
theorem dX10_along_64 : decode cX10_along 64 = .ok (.iconst (-1), 1) := by decide +kernel
theorem dX10_along_65 : decode cX10_along 65 = .ok (.ixor, 1) := by decide +kernel
theorem dX10_along_66 : decode cX10_along 66 = .ok (.iand, 1) := by decide +kernel
theorem dX10_along_67 : decode cX10_along 67 = .ok (.ireturn, 1) := by decide +kernel
theorem dX10_shortest_0 : decode cX10_shortest 0 = .ok (.aload_n 0, 1) := by decide +kernel
theorem dX10_shortest_1 : decode cX10_shortest 1 = .ok (.iload_n 1, 1) := by decide +kernel
theorem dX10_shortest_2 : decode cX10_shortest 2 = .ok (.invokevirtual 195, 3) := by decide +kernel
theorem dX10_shortest_5 : decode cX10_shortest 5 = .ok (.ifCond .eq 7, 3) := by decide +kernel
theorem dX10_shortest_8 : decode cX10_shortest 8 = .ok (.sipush (-1001), 3) := by decide +kernel
theorem dX10_shortest_11 : decode cX10_shortest 11 = .ok (.ireturn, 1) := by decide +kernel
theorem dX10_shortest_12 : decode cX10_shortest 12 = .ok (.iload_n 2, 1) := by decide +kernel
theorem dX10_shortest_13 : decode cX10_shortest 13 = .ok (.i2l, 1) := by decide +kernel
theorem dX10_shortest_14 : decode cX10_shortest 14 = .ok (.lconst 0, 1) := by decide +kernel
theorem dX10_shortest_15 : decode cX10_shortest 15 = .ok (.lconst 1, 1) := by decide +kernel
theorem dX10_shortest_16 : decode cX10_shortest 16 = .ok (.invokestatic 99, 3) := by decide +kernel
theorem dX10_shortest_19 : decode cX10_shortest 19 = .ok (.ifCond .ne 7, 3) := by decide +kernel
theorem dX10_shortest_22 : decode cX10_shortest 22 = .ok (.sipush (-1002), 3) := by decide +kernel
theorem dX10_shortest_25 : decode cX10_shortest 25 = .ok (.ireturn, 1) := by decide +kernel
theorem dX10_shortest_26 : decode cX10_shortest 26 = .ok (.aload_n 0, 1) := by decide +kernel
theorem dX10_shortest_27 : decode cX10_shortest 27 = .ok (.invokevirtual 234, 3) := by decide +kernel
theorem dX10_shortest_30 : decode cX10_shortest 30 = .ok (.iconst (-1), 1) := by decide +kernel
theorem dX10_shortest_31 : decode cX10_shortest 31 = .ok (.istore_n 3, 1) := by decide +kernel
theorem dX10_shortest_32 : decode cX10_shortest 32 = .ok (.iconst 0, 1) := by decide +kernel
theorem dX10_shortest_33 : decode cX10_shortest 33 = .ok (.istore 4, 2) := by decide +kernel
theorem dX10_shortest_35 : decode cX10_shortest 35 = .ok (.iload 4, 2) := by decide +kernel
theorem dX10_shortest_37 : decode cX10_shortest 37 = .ok (.aload_n 0, 1) := by decide +kernel
theorem dX10_shortest_38 : decode cX10_shortest 38 = .ok (.invokevirtual 192, 3) := by decide +kernel
theorem dX10_shortest_41 : decode cX10_shortest 41 = .ok (.if_icmp .gt 49, 3) := by decide +kernel
theorem dX10_shortest_44 : decode cX10_shortest 44 = .ok (.aload_n 0, 1) := by decide +kernel
theorem dX10_shortest_45 : decode cX10_shortest 45 = .ok (.getfield 45, 3) := by decide +kernel
theorem dX10_shortest_48 : decode cX10_shortest 48 = .ok (.iload 4, 2) := by decide +kernel
theorem dX10_shortest_50 : decode cX10_shortest 50 = .ok (.baload, 1) := by decide +kernel
theorem dX10_shortest_51 : decode cX10_shortest 51 = .ok (.ifCond .eq 33, 3) := by decide +kernel
theorem dX10_shortest_54 : decode cX10_shortest 54 = .ok (.iload 4, 2) := by decide +kernel
theorem dX10_shortest_56 : decode cX10_shortest 56 = .ok (.iload_n 1, 1) := by decide +kernel
theorem dX10_shortest_57 : decode cX10_shortest 57 = .ok (.invokestatic 143, 3) := by decide +kernel
theorem dX10_shortest_60 : decode cX10_shortest 60 = .ok (.ifCond .eq 24, 3) := by decide +kernel
theorem dX10_shortest_63 : decode cX10_shortest 63 = .ok (.iload_n 3, 1) := by decide +kernel
theorem dX10_shortest_64 : decode cX10_shortest 64 = .ok (.ifCond .lt 17, 3) := by decide +kernel
theorem dX10_shortest_67 : decode cX10_shortest 67 = .ok (.aload_n 0, 1) := by decide +kernel
theorem dX10_shortest_68 : decode cX10_shortest 68 = .ok (.iload 4, 2) := by decide +kernel
theorem dX10_shortest_70 : decode cX10_shortest 70 = .ok (.invokevirtual 211, 3) := by decide +kernel
theorem dX10_shortest_73 : decode cX10_shortest 73 = .ok (.aload_n 0, 1) := by decide +kernel
theorem dX10_shortest_74 : decode cX10_shortest 74 = .ok (.iload_n 3, 1) := by decide +kernel
theorem dX10_shortest_75 : decode cX10_shortest 75 = .ok (.invokevirtual 211, 3) := by decide +kernel
theorem dX10_shortest_78 : decode cX10_shortest 78 = .ok (.if_icmp .ge 6, 3) := by decide +kernel
theorem dX10_shortest_81 : decode cX10_shortest 81 = .ok (.iload 4, 2) := by decide +kernel
theorem dX10_shortest_83 : decode cX10_shortest 83 = .ok (.istore_n 3, 1) := by decide +kernel
theorem dX10_shortest_84 : decode cX10_shortest 84 = .ok (.iinc 4 1, 3) := by decide +kernel
theorem dX10_shortest_87 : decode cX10_shortest 87 = .ok (.goto (-52), 3) := by decide +kernel
theorem dX10_shortest_90 : decode cX10_shortest 90 = .ok (.iload_n 3, 1) := by decide +kernel
theorem dX10_shortest_91 : decode cX10_shortest 91 = .ok (.ifCond .lt 7, 3) := by decide +kernel
theorem dX10_shortest_94 : decode cX10_shortest 94 = .ok (.iload_n 2, 1) := by decide +kernel
theorem dX10_shortest_95 : decode cX10_shortest 95 = .ok (.ifCond .ne 7, 3) := by decide +kernel
theorem dX10_shortest_98 : decode cX10_shortest 98 = .ok (.iload_n 3, 1) := by decide +kernel
theorem dX10_shortest_99 : decode cX10_shortest 99 = .ok (.goto 8, 3) := by decide +kernel
theorem dX10_shortest_102 : decode cX10_shortest 102 = .ok (.aload_n 0, 1) := by decide +kernel
theorem dX10_shortest_103 : decode cX10_shortest 103 = .ok (.iload_n 3, 1) := by decide +kernel
theorem dX10_shortest_104 : decode cX10_shortest 104 = .ok (.invokevirtual 211, 3) := by decide +kernel
theorem dX10_shortest_107 : decode cX10_shortest 107 = .ok (.ireturn, 1) := by decide +kernel
theorem dX10_numberOf_0 : decode cX10_numberOf 0 = .ok (.iconst 0, 1) := by decide +kernel
theorem dX10_numberOf_1 : decode cX10_numberOf 1 = .ok (.istore_n 2, 1) := by decide +kernel
theorem dX10_numberOf_2 : decode cX10_numberOf 2 = .ok (.iload_n 2, 1) := by decide +kernel
theorem dX10_numberOf_3 : decode cX10_numberOf 3 = .ok (.aload_n 0, 1) := by decide +kernel
theorem dX10_numberOf_4 : decode cX10_numberOf 4 = .ok (.getfield 177, 3) := by decide +kernel
theorem dX10_numberOf_7 : decode cX10_numberOf 7 = .ok (.if_icmp .ge 23, 3) := by decide +kernel
theorem dX10_numberOf_10 : decode cX10_numberOf 10 = .ok (.aload_n 0, 1) := by decide +kernel
theorem dX10_numberOf_11 : decode cX10_numberOf 11 = .ok (.iload_n 2, 1) := by decide +kernel
theorem dX10_numberOf_12 : decode cX10_numberOf 12 = .ok (.invokevirtual 241, 3) := by decide +kernel
theorem dX10_numberOf_15 : decode cX10_numberOf 15 = .ok (.iload_n 1, 1) := by decide +kernel
theorem dX10_numberOf_16 : decode cX10_numberOf 16 = .ok (.invokestatic 143, 3) := by decide +kernel
theorem dX10_numberOf_19 : decode cX10_numberOf 19 = .ok (.ifCond .eq 5, 3) := by decide +kernel
theorem dX10_numberOf_22 : decode cX10_numberOf 22 = .ok (.iload_n 2, 1) := by decide +kernel
theorem dX10_numberOf_23 : decode cX10_numberOf 23 = .ok (.ireturn, 1) := by decide +kernel
theorem dX10_numberOf_24 : decode cX10_numberOf 24 = .ok (.iinc 2 1, 3) := by decide +kernel
theorem dX10_numberOf_27 : decode cX10_numberOf 27 = .ok (.goto (-25), 3) := by decide +kernel
theorem dX10_numberOf_30 : decode cX10_numberOf 30 = .ok (.iconst (-1), 1) := by decide +kernel
theorem dX10_numberOf_31 : decode cX10_numberOf 31 = .ok (.ireturn, 1) := by decide +kernel
theorem dX10_setIn_0 : decode cX10_setIn 0 = .ok (.iconst 0, 1) := by decide +kernel
theorem dX10_setIn_1 : decode cX10_setIn 1 = .ok (.istore_n 2, 1) := by decide +kernel
theorem dX10_setIn_2 : decode cX10_setIn 2 = .ok (.iconst 0, 1) := by decide +kernel
theorem dX10_setIn_3 : decode cX10_setIn 3 = .ok (.istore_n 3, 1) := by decide +kernel
theorem dX10_setIn_4 : decode cX10_setIn 4 = .ok (.iload_n 3, 1) := by decide +kernel
theorem dX10_setIn_5 : decode cX10_setIn 5 = .ok (.aload_n 0, 1) := by decide +kernel
theorem dX10_setIn_6 : decode cX10_setIn 6 = .ok (.getfield 55, 3) := by decide +kernel
theorem dX10_setIn_9 : decode cX10_setIn 9 = .ok (.iload_n 1, 1) := by decide +kernel
theorem dX10_setIn_10 : decode cX10_setIn 10 = .ok (.iaload, 1) := by decide +kernel
theorem dX10_setIn_11 : decode cX10_setIn 11 = .ok (.if_icmp .ge 25, 3) := by decide +kernel
theorem dX10_setIn_14 : decode cX10_setIn 14 = .ok (.iload_n 2, 1) := by decide +kernel
theorem dX10_setIn_15 : decode cX10_setIn 15 = .ok (.iconst 1, 1) := by decide +kernel
theorem dX10_setIn_16 : decode cX10_setIn 16 = .ok (.aload_n 0, 1) := by decide +kernel
theorem dX10_setIn_17 : decode cX10_setIn 17 = .ok (.getfield 58, 3) := by decide +kernel
theorem dX10_setIn_20 : decode cX10_setIn 20 = .ok (.bipush 6, 2) := by decide +kernel
theorem dX10_setIn_22 : decode cX10_setIn 22 = .ok (.iload_n 1, 1) := by decide +kernel
theorem dX10_setIn_23 : decode cX10_setIn 23 = .ok (.imul, 1) := by decide +kernel
theorem dX10_setIn_24 : decode cX10_setIn 24 = .ok (.iload_n 3, 1) := by decide +kernel
theorem dX10_setIn_25 : decode cX10_setIn 25 = .ok (.iadd, 1) := by decide +kernel
theorem dX10_setIn_26 : decode cX10_setIn 26 = .ok (.iaload, 1) := by decide +kernel
theorem dX10_setIn_27 : decode cX10_setIn 27 = .ok (.ishl, 1) := by decide +kernel
theorem dX10_setIn_28 : decode cX10_setIn 28 = .ok (.ior, 1) := by decide +kernel
theorem dX10_setIn_29 : decode cX10_setIn 29 = .ok (.istore_n 2, 1) := by decide +kernel
theorem dX10_setIn_30 : decode cX10_setIn 30 = .ok (.iinc 3 1, 3) := by decide +kernel
theorem dX10_setIn_33 : decode cX10_setIn 33 = .ok (.goto (-29), 3) := by decide +kernel
theorem dX10_setIn_36 : decode cX10_setIn 36 = .ok (.iload_n 2, 1) := by decide +kernel
theorem dX10_setIn_37 : decode cX10_setIn 37 = .ok (.ireturn, 1) := by decide +kernel
theorem dX10_law_0 : decode cX10_law 0 = .ok (.iload_n 1, 1) := by decide +kernel
theorem dX10_law_1 : decode cX10_law 1 = .ok (.i2l, 1) := by decide +kernel
theorem dX10_law_2 : decode cX10_law 2 = .ok (.lconst 0, 1) := by decide +kernel
theorem dX10_law_3 : decode cX10_law 3 = .ok (.ldc2_w 206, 3) := by decide +kernel
theorem dX10_law_6 : decode cX10_law 6 = .ok (.invokestatic 99, 3) := by decide +kernel
theorem dX10_law_9 : decode cX10_law 9 = .ok (.ifCond .ne 7, 3) := by decide +kernel
theorem dX10_law_12 : decode cX10_law 12 = .ok (.sipush (-1002), 3) := by decide +kernel
theorem dX10_law_15 : decode cX10_law 15 = .ok (.ireturn, 1) := by decide +kernel
theorem dX10_law_16 : decode cX10_law 16 = .ok (.iload_n 1, 1) := by decide +kernel
theorem dX10_law_17 : decode cX10_law 17 = .ok (.iconst 3, 1) := by decide +kernel
theorem dX10_law_18 : decode cX10_law 18 = .ok (.if_icmp .ge 7, 3) := by decide +kernel
theorem dX10_law_21 : decode cX10_law 21 = .ok (.iconst 1, 1) := by decide +kernel
theorem dX10_law_22 : decode cX10_law 22 = .ok (.goto 4, 3) := by decide +kernel
theorem dX10_law_25 : decode cX10_law 25 = .ok (.iconst 0, 1) := by decide +kernel
theorem dX10_law_26 : decode cX10_law 26 = .ok (.istore_n 3, 1) := by decide +kernel
theorem dX10_law_27 : decode cX10_law 27 = .ok (.iload_n 1, 1) := by decide +kernel
theorem dX10_law_28 : decode cX10_law 28 = .ok (.ifCond .eq 9, 3) := by decide +kernel
theorem dX10_law_31 : decode cX10_law 31 = .ok (.iload_n 1, 1) := by decide +kernel
theorem dX10_law_32 : decode cX10_law 32 = .ok (.bipush 7, 2) := by decide +kernel
theorem dX10_law_34 : decode cX10_law 34 = .ok (.if_icmp .ne 8, 3) := by decide +kernel
theorem dX10_law_37 : decode cX10_law 37 = .ok (.bipush 99, 2) := by decide +kernel
theorem dX10_law_39 : decode cX10_law 39 = .ok (.goto 26, 3) := by decide +kernel
theorem dX10_law_42 : decode cX10_law 42 = .ok (.iload_n 1, 1) := by decide +kernel
theorem dX10_law_43 : decode cX10_law 43 = .ok (.iconst 1, 1) := by decide +kernel
theorem dX10_law_44 : decode cX10_law 44 = .ok (.if_icmp .ne 9, 3) := by decide +kernel
theorem dX10_law_47 : decode cX10_law 47 = .ok (.sipush 200, 3) := by decide +kernel
theorem dX10_law_50 : decode cX10_law 50 = .ok (.goto 15, 3) := by decide +kernel
theorem dX10_law_53 : decode cX10_law 53 = .ok (.iload_n 1, 1) := by decide +kernel
theorem dX10_law_54 : decode cX10_law 54 = .ok (.iconst 2, 1) := by decide +kernel
theorem dX10_law_55 : decode cX10_law 55 = .ok (.if_icmp .ne 8, 3) := by decide +kernel
theorem dX10_law_58 : decode cX10_law 58 = .ok (.bipush 9, 2) := by decide +kernel
theorem dX10_law_60 : decode cX10_law 60 = .ok (.goto 5, 3) := by decide +kernel
theorem dX10_law_63 : decode cX10_law 63 = .ok (.bipush 20, 2) := by decide +kernel
theorem dX10_law_65 : decode cX10_law 65 = .ok (.istore 4, 2) := by decide +kernel
theorem dX10_law_67 : decode cX10_law 67 = .ok (.iload_n 2, 1) := by decide +kernel
theorem dX10_law_68 : decode cX10_law 68 = .ok (.i2l, 1) := by decide +kernel
theorem dX10_law_69 : decode cX10_law 69 = .ok (.iload_n 3, 1) := by decide +kernel
theorem dX10_law_70 : decode cX10_law 70 = .ok (.i2l, 1) := by decide +kernel
theorem dX10_law_71 : decode cX10_law 71 = .ok (.iload 4, 2) := by decide +kernel
theorem dX10_law_73 : decode cX10_law 73 = .ok (.i2l, 1) := by decide +kernel
theorem dX10_law_74 : decode cX10_law 74 = .ok (.invokestatic 99, 3) := by decide +kernel
theorem dX10_law_77 : decode cX10_law 77 = .ok (.ifCond .eq 32, 3) := by decide +kernel
theorem dX10_law_80 : decode cX10_law 80 = .ok (.iload_n 1, 1) := by decide +kernel
theorem dX10_law_81 : decode cX10_law 81 = .ok (.ifCond .ne 13, 3) := by decide +kernel
theorem dX10_law_84 : decode cX10_law 84 = .ok (.iload_n 2, 1) := by decide +kernel
theorem dX10_law_85 : decode cX10_law 85 = .ok (.aload_n 0, 1) := by decide +kernel
theorem dX10_law_86 : decode cX10_law 86 = .ok (.getfield 22, 3) := by decide +kernel
theorem dX10_law_89 : decode cX10_law 89 = .ok (.iconst 1, 1) := by decide +kernel
theorem dX10_law_90 : decode cX10_law 90 = .ok (.iaload, 1) := by decide +kernel
theorem dX10_law_91 : decode cX10_law 91 = .ok (.if_icmp .gt 18, 3) := by decide +kernel
theorem dX10_law_94 : decode cX10_law 94 = .ok (.iload_n 1, 1) := by decide +kernel
theorem dX10_law_95 : decode cX10_law 95 = .ok (.iconst 1, 1) := by decide +kernel
theorem dX10_law_96 : decode cX10_law 96 = .ok (.if_icmp .ne 17, 3) := by decide +kernel
theorem dX10_law_99 : decode cX10_law 99 = .ok (.iload_n 2, 1) := by decide +kernel
theorem dX10_law_100 : decode cX10_law 100 = .ok (.aload_n 0, 1) := by decide +kernel
theorem dX10_law_101 : decode cX10_law 101 = .ok (.getfield 22, 3) := by decide +kernel
theorem dX10_law_104 : decode cX10_law 104 = .ok (.iconst 0, 1) := by decide +kernel
theorem dX10_law_105 : decode cX10_law 105 = .ok (.iaload, 1) := by decide +kernel
theorem dX10_law_106 : decode cX10_law 106 = .ok (.if_icmp .ge 7, 3) := by decide +kernel
theorem dX10_law_109 : decode cX10_law 109 = .ok (.sipush (-1002), 3) := by decide +kernel
theorem dX10_law_112 : decode cX10_law 112 = .ok (.ireturn, 1) := by decide +kernel
theorem dX10_law_113 : decode cX10_law 113 = .ok (.aload_n 0, 1) := by decide +kernel
theorem dX10_law_114 : decode cX10_law 114 = .ok (.getfield 22, 3) := by decide +kernel
theorem dX10_law_117 : decode cX10_law 117 = .ok (.iload_n 1, 1) := by decide +kernel
theorem dX10_law_118 : decode cX10_law 118 = .ok (.iaload, 1) := by decide +kernel
theorem dX10_law_119 : decode cX10_law 119 = .ok (.istore 5, 2) := by decide +kernel
theorem dX10_law_121 : decode cX10_law 121 = .ok (.aload_n 0, 1) := by decide +kernel
theorem dX10_law_122 : decode cX10_law 122 = .ok (.getfield 22, 3) := by decide +kernel
theorem dX10_law_125 : decode cX10_law 125 = .ok (.iload_n 1, 1) := by decide +kernel
theorem dX10_law_126 : decode cX10_law 126 = .ok (.iload_n 2, 1) := by decide +kernel
theorem dX10_law_127 : decode cX10_law 127 = .ok (.iastore, 1) := by decide +kernel
theorem dX10_law_128 : decode cX10_law 128 = .ok (.iload 5, 2) := by decide +kernel
theorem dX10_law_130 : decode cX10_law 130 = .ok (.ireturn, 1) := by decide +kernel
theorem dX10_add_0 : decode cX10_add 0 = .ok (.aload_n 0, 1) := by decide +kernel
theorem dX10_add_1 : decode cX10_add 1 = .ok (.iload_n 1, 1) := by decide +kernel
theorem dX10_add_2 : decode cX10_add 2 = .ok (.invokevirtual 195, 3) := by decide +kernel
theorem dX10_add_5 : decode cX10_add 5 = .ok (.ifCond .eq 7, 3) := by decide +kernel
theorem dX10_add_8 : decode cX10_add 8 = .ok (.sipush (-1001), 3) := by decide +kernel
theorem dX10_add_11 : decode cX10_add 11 = .ok (.ireturn, 1) := by decide +kernel
theorem dX10_add_12 : decode cX10_add 12 = .ok (.aload_n 0, 1) := by decide +kernel
theorem dX10_add_13 : decode cX10_add 13 = .ok (.iload_n 1, 1) := by decide +kernel
theorem dX10_add_14 : decode cX10_add 14 = .ok (.aload_n 0, 1) := by decide +kernel
theorem dX10_add_15 : decode cX10_add 15 = .ok (.getfield 180, 3) := by decide +kernel
theorem dX10_add_18 : decode cX10_add 18 = .ok (.aload_n 0, 1) := by decide +kernel
theorem dX10_add_19 : decode cX10_add 19 = .ok (.getfield 186, 3) := by decide +kernel
theorem dX10_add_22 : decode cX10_add 22 = .ok (.ior, 1) := by decide +kernel
theorem dX10_add_23 : decode cX10_add 23 = .ok (.invokevirtual 223, 3) := by decide +kernel
theorem dX10_add_26 : decode cX10_add 26 = .ok (.ifCond .ne 7, 3) := by decide +kernel
theorem dX10_add_29 : decode cX10_add 29 = .ok (.sipush (-1003), 3) := by decide +kernel
theorem dX10_add_32 : decode cX10_add 32 = .ok (.ireturn, 1) := by decide +kernel
theorem dX10_add_33 : decode cX10_add 33 = .ok (.aload_n 0, 1) := by decide +kernel
theorem dX10_add_34 : decode cX10_add 34 = .ok (.getfield 183, 3) := by decide +kernel
theorem dX10_add_37 : decode cX10_add 37 = .ok (.bipush 6, 2) := by decide +kernel
theorem dX10_add_39 : decode cX10_add 39 = .ok (.if_icmp .ne 7, 3) := by decide +kernel
theorem dX10_add_42 : decode cX10_add 42 = .ok (.sipush (-1004), 3) := by decide +kernel
theorem dX10_add_45 : decode cX10_add 45 = .ok (.ireturn, 1) := by decide +kernel
theorem dX10_add_46 : decode cX10_add 46 = .ok (.aload_n 0, 1) := by decide +kernel
theorem dX10_add_47 : decode cX10_add 47 = .ok (.getfield 61, 3) := by decide +kernel
theorem dX10_add_50 : decode cX10_add 50 = .ok (.aload_n 0, 1) := by decide +kernel
theorem dX10_add_51 : decode cX10_add 51 = .ok (.getfield 183, 3) := by decide +kernel
theorem dX10_add_54 : decode cX10_add 54 = .ok (.iload_n 1, 1) := by decide +kernel
theorem dX10_add_55 : decode cX10_add 55 = .ok (.iastore, 1) := by decide +kernel
theorem dX10_add_56 : decode cX10_add 56 = .ok (.aload_n 0, 1) := by decide +kernel
theorem dX10_add_57 : decode cX10_add 57 = .ok (.dup, 1) := by decide +kernel
theorem dX10_add_58 : decode cX10_add 58 = .ok (.getfield 186, 3) := by decide +kernel
theorem dX10_add_61 : decode cX10_add 61 = .ok (.iconst 1, 1) := by decide +kernel
theorem dX10_add_62 : decode cX10_add 62 = .ok (.iload_n 1, 1) := by decide +kernel
theorem dX10_add_63 : decode cX10_add 63 = .ok (.ishl, 1) := by decide +kernel
theorem dX10_add_64 : decode cX10_add 64 = .ok (.ior, 1) := by decide +kernel
theorem dX10_add_65 : decode cX10_add 65 = .ok (.putfield 186, 3) := by decide +kernel
theorem dX10_add_68 : decode cX10_add 68 = .ok (.aload_n 0, 1) := by decide +kernel
theorem dX10_add_69 : decode cX10_add 69 = .ok (.dup, 1) := by decide +kernel
theorem dX10_add_70 : decode cX10_add 70 = .ok (.getfield 183, 3) := by decide +kernel
theorem dX10_add_73 : decode cX10_add 73 = .ok (.iconst 1, 1) := by decide +kernel
theorem dX10_add_74 : decode cX10_add 74 = .ok (.iadd, 1) := by decide +kernel
theorem dX10_add_75 : decode cX10_add 75 = .ok (.putfield 183, 3) := by decide +kernel
theorem dX10_add_78 : decode cX10_add 78 = .ok (.aload_n 0, 1) := by decide +kernel
theorem dX10_add_79 : decode cX10_add 79 = .ok (.getfield 183, 3) := by decide +kernel
theorem dX10_add_82 : decode cX10_add 82 = .ok (.ireturn, 1) := by decide +kernel
theorem dX10_drop_0 : decode cX10_drop 0 = .ok (.aload_n 0, 1) := by decide +kernel
theorem dX10_drop_1 : decode cX10_drop 1 = .ok (.getfield 183, 3) := by decide +kernel
theorem dX10_drop_4 : decode cX10_drop 4 = .ok (.ifCond .ne 5, 3) := by decide +kernel
theorem dX10_drop_7 : decode cX10_drop 7 = .ok (.iconst (-1), 1) := by decide +kernel
theorem dX10_drop_8 : decode cX10_drop 8 = .ok (.ireturn, 1) := by decide +kernel
theorem dX10_drop_9 : decode cX10_drop 9 = .ok (.aload_n 0, 1) := by decide +kernel
theorem dX10_drop_10 : decode cX10_drop 10 = .ok (.dup, 1) := by decide +kernel
theorem dX10_drop_11 : decode cX10_drop 11 = .ok (.getfield 183, 3) := by decide +kernel
theorem dX10_drop_14 : decode cX10_drop 14 = .ok (.iconst 1, 1) := by decide +kernel
theorem dX10_drop_15 : decode cX10_drop 15 = .ok (.isub, 1) := by decide +kernel
theorem dX10_drop_16 : decode cX10_drop 16 = .ok (.putfield 183, 3) := by decide +kernel
theorem dX10_drop_19 : decode cX10_drop 19 = .ok (.aload_n 0, 1) := by decide +kernel
theorem dX10_drop_20 : decode cX10_drop 20 = .ok (.getfield 61, 3) := by decide +kernel
theorem dX10_drop_23 : decode cX10_drop 23 = .ok (.aload_n 0, 1) := by decide +kernel
theorem dX10_drop_24 : decode cX10_drop 24 = .ok (.getfield 183, 3) := by decide +kernel
theorem dX10_drop_27 : decode cX10_drop 27 = .ok (.iaload, 1) := by decide +kernel
theorem dX10_drop_28 : decode cX10_drop 28 = .ok (.istore_n 1, 1) := by decide +kernel
theorem dX10_drop_29 : decode cX10_drop 29 = .ok (.aload_n 0, 1) := by decide +kernel
theorem dX10_drop_30 : decode cX10_drop 30 = .ok (.dup, 1) := by decide +kernel
theorem dX10_drop_31 : decode cX10_drop 31 = .ok (.getfield 186, 3) := by decide +kernel
theorem dX10_drop_34 : decode cX10_drop 34 = .ok (.iconst 1, 1) := by decide +kernel
theorem dX10_drop_35 : decode cX10_drop 35 = .ok (.iload_n 1, 1) := by decide +kernel
theorem dX10_drop_36 : decode cX10_drop 36 = .ok (.ishl, 1) := by decide +kernel
theorem dX10_drop_37 : decode cX10_drop 37 = .ok (.iconst (-1), 1) := by decide +kernel
theorem dX10_drop_38 : decode cX10_drop 38 = .ok (.ixor, 1) := by decide +kernel
theorem dX10_drop_39 : decode cX10_drop 39 = .ok (.iand, 1) := by decide +kernel
theorem dX10_drop_40 : decode cX10_drop 40 = .ok (.putfield 186, 3) := by decide +kernel
theorem dX10_drop_43 : decode cX10_drop 43 = .ok (.iload_n 1, 1) := by decide +kernel
theorem dX10_drop_44 : decode cX10_drop 44 = .ok (.ireturn, 1) := by decide +kernel
theorem dX10_remindedOf_0 : decode cX10_remindedOf 0 = .ok (.iconst 0, 1) := by decide +kernel
theorem dX10_remindedOf_1 : decode cX10_remindedOf 1 = .ok (.istore_n 3, 1) := by decide +kernel
theorem dX10_remindedOf_2 : decode cX10_remindedOf 2 = .ok (.iconst 0, 1) := by decide +kernel
theorem dX10_remindedOf_3 : decode cX10_remindedOf 3 = .ok (.istore 4, 2) := by decide +kernel
theorem dX10_remindedOf_5 : decode cX10_remindedOf 5 = .ok (.iconst 0, 1) := by decide +kernel
theorem dX10_remindedOf_6 : decode cX10_remindedOf 6 = .ok (.istore 5, 2) := by decide +kernel
theorem dX10_remindedOf_8 : decode cX10_remindedOf 8 = .ok (.iload 5, 2) := by decide +kernel
theorem dX10_remindedOf_10 : decode cX10_remindedOf 10 = .ok (.iload_n 2, 1) := by decide +kernel
theorem dX10_remindedOf_11 : decode cX10_remindedOf 11 = .ok (.if_icmp .ge 51, 3) := by decide +kernel
theorem dX10_remindedOf_14 : decode cX10_remindedOf 14 = .ok (.aload_n 0, 1) := by decide +kernel
theorem dX10_remindedOf_15 : decode cX10_remindedOf 15 = .ok (.aload_n 0, 1) := by decide +kernel
theorem dX10_remindedOf_16 : decode cX10_remindedOf 16 = .ok (.iload 5, 2) := by decide +kernel
theorem dX10_remindedOf_18 : decode cX10_remindedOf 18 = .ok (.invokevirtual 241, 3) := by decide +kernel
theorem dX10_remindedOf_21 : decode cX10_remindedOf 21 = .ok (.iconst 1, 1) := by decide +kernel
theorem dX10_remindedOf_22 : decode cX10_remindedOf 22 = .ok (.invokevirtual 217, 3) := by decide +kernel
theorem dX10_remindedOf_25 : decode cX10_remindedOf 25 = .ok (.istore 6, 2) := by decide +kernel
theorem dX10_remindedOf_27 : decode cX10_remindedOf 27 = .ok (.iload_n 3, 1) := by decide +kernel
theorem dX10_remindedOf_28 : decode cX10_remindedOf 28 = .ok (.iload 6, 2) := by decide +kernel
theorem dX10_remindedOf_30 : decode cX10_remindedOf 30 = .ok (.ior, 1) := by decide +kernel
theorem dX10_remindedOf_31 : decode cX10_remindedOf 31 = .ok (.istore_n 3, 1) := by decide +kernel
theorem dX10_remindedOf_32 : decode cX10_remindedOf 32 = .ok (.iload 4, 2) := by decide +kernel
theorem dX10_remindedOf_34 : decode cX10_remindedOf 34 = .ok (.iload_n 2, 1) := by decide +kernel
theorem dX10_remindedOf_35 : decode cX10_remindedOf 35 = .ok (.iload 5, 2) := by decide +kernel
theorem dX10_remindedOf_37 : decode cX10_remindedOf 37 = .ok (.isub, 1) := by decide +kernel
theorem dX10_remindedOf_38 : decode cX10_remindedOf 38 = .ok (.aload_n 0, 1) := by decide +kernel
theorem dX10_remindedOf_39 : decode cX10_remindedOf 39 = .ok (.getfield 22, 3) := by decide +kernel
theorem dX10_remindedOf_42 : decode cX10_remindedOf 42 = .ok (.iconst 2, 1) := by decide +kernel
theorem dX10_remindedOf_43 : decode cX10_remindedOf 43 = .ok (.iaload, 1) := by decide +kernel
theorem dX10_remindedOf_44 : decode cX10_remindedOf 44 = .ok (.if_icmp .gt 8, 3) := by decide +kernel
theorem dX10_remindedOf_47 : decode cX10_remindedOf 47 = .ok (.iload 6, 2) := by decide +kernel
theorem dX10_remindedOf_49 : decode cX10_remindedOf 49 = .ok (.goto 4, 3) := by decide +kernel
theorem dX10_remindedOf_52 : decode cX10_remindedOf 52 = .ok (.iconst 0, 1) := by decide +kernel
theorem dX10_remindedOf_53 : decode cX10_remindedOf 53 = .ok (.ior, 1) := by decide +kernel
theorem dX10_remindedOf_54 : decode cX10_remindedOf 54 = .ok (.istore 4, 2) := by decide +kernel
theorem dX10_remindedOf_56 : decode cX10_remindedOf 56 = .ok (.iinc 5 1, 3) := by decide +kernel
theorem dX10_remindedOf_59 : decode cX10_remindedOf 59 = .ok (.goto (-51), 3) := by decide +kernel
theorem dX10_remindedOf_62 : decode cX10_remindedOf 62 = .ok (.aload_n 0, 1) := by decide +kernel
theorem dX10_remindedOf_63 : decode cX10_remindedOf 63 = .ok (.iload_n 1, 1) := by decide +kernel
theorem dX10_remindedOf_64 : decode cX10_remindedOf 64 = .ok (.iconst 1, 1) := by decide +kernel
theorem dX10_remindedOf_65 : decode cX10_remindedOf 65 = .ok (.invokevirtual 217, 3) := by decide +kernel
theorem dX10_remindedOf_68 : decode cX10_remindedOf 68 = .ok (.iload_n 3, 1) := by decide +kernel
theorem dX10_remindedOf_69 : decode cX10_remindedOf 69 = .ok (.iand, 1) := by decide +kernel
theorem dX10_remindedOf_70 : decode cX10_remindedOf 70 = .ok (.iload 4, 2) := by decide +kernel
theorem dX10_remindedOf_72 : decode cX10_remindedOf 72 = .ok (.iconst (-1), 1) := by decide +kernel
theorem dX10_remindedOf_73 : decode cX10_remindedOf 73 = .ok (.ixor, 1) := by decide +kernel
theorem dX10_remindedOf_74 : decode cX10_remindedOf 74 = .ok (.iand, 1) := by decide +kernel
theorem dX10_remindedOf_75 : decode cX10_remindedOf 75 = .ok (.ireturn, 1) := by decide +kernel
theorem dX10_linesAs_0 : decode cX10_linesAs 0 = .ok (.aload_n 0, 1) := by decide +kernel
theorem dX10_linesAs_1 : decode cX10_linesAs 1 = .ok (.iload_n 1, 1) := by decide +kernel
theorem dX10_linesAs_2 : decode cX10_linesAs 2 = .ok (.invokevirtual 211, 3) := by decide +kernel
theorem dX10_linesAs_5 : decode cX10_linesAs 5 = .ok (.aload_n 0, 1) := by decide +kernel
theorem dX10_linesAs_6 : decode cX10_linesAs 6 = .ok (.getfield 22, 3) := by decide +kernel
theorem dX10_linesAs_9 : decode cX10_linesAs 9 = .ok (.iconst 3, 1) := by decide +kernel
theorem dX10_linesAs_10 : decode cX10_linesAs 10 = .ok (.iaload, 1) := by decide +kernel
theorem dX10_linesAs_11 : decode cX10_linesAs 11 = .ok (.aload_n 0, 1) := by decide +kernel
theorem dX10_linesAs_12 : decode cX10_linesAs 12 = .ok (.iload_n 1, 1) := by decide +kernel
theorem dX10_linesAs_13 : decode cX10_linesAs 13 = .ok (.iload_n 2, 1) := by decide +kernel
theorem dX10_linesAs_14 : decode cX10_linesAs 14 = .ok (.invokevirtual 244, 3) := by decide +kernel
theorem dX10_linesAs_17 : decode cX10_linesAs 17 = .ok (.invokestatic 208, 3) := by decide +kernel
theorem dX10_linesAs_20 : decode cX10_linesAs 20 = .ok (.imul, 1) := by decide +kernel
theorem dX10_linesAs_21 : decode cX10_linesAs 21 = .ok (.iadd, 1) := by decide +kernel
theorem dX10_linesAs_22 : decode cX10_linesAs 22 = .ok (.ireturn, 1) := by decide +kernel
theorem dX10_lines_0 : decode cX10_lines 0 = .ok (.aload_n 0, 1) := by decide +kernel
theorem dX10_lines_1 : decode cX10_lines 1 = .ok (.aload_n 0, 1) := by decide +kernel
theorem dX10_lines_2 : decode cX10_lines 2 = .ok (.getfield 186, 3) := by decide +kernel
theorem dX10_lines_5 : decode cX10_lines 5 = .ok (.aload_n 0, 1) := by decide +kernel
theorem dX10_lines_6 : decode cX10_lines 6 = .ok (.getfield 177, 3) := by decide +kernel
theorem dX10_lines_9 : decode cX10_lines 9 = .ok (.invokevirtual 247, 3) := by decide +kernel
theorem dX10_lines_12 : decode cX10_lines 12 = .ok (.ireturn, 1) := by decide +kernel
theorem dX10_print_0 : decode cX10_print 0 = .ok (.aload_n 0, 1) := by decide +kernel
theorem dX10_print_1 : decode cX10_print 1 = .ok (.getfield 183, 3) := by decide +kernel
theorem dX10_print_4 : decode cX10_print 4 = .ok (.ifCond .eq 36, 3) := by decide +kernel
theorem dX10_print_7 : decode cX10_print 7 = .ok (.aload_n 0, 1) := by decide +kernel
theorem dX10_print_8 : decode cX10_print 8 = .ok (.aload_n 0, 1) := by decide +kernel
theorem dX10_print_9 : decode cX10_print 9 = .ok (.getfield 186, 3) := by decide +kernel
theorem dX10_print_12 : decode cX10_print 12 = .ok (.aload_n 0, 1) := by decide +kernel
theorem dX10_print_13 : decode cX10_print 13 = .ok (.getfield 177, 3) := by decide +kernel
theorem dX10_print_16 : decode cX10_print 16 = .ok (.invokevirtual 247, 3) := by decide +kernel
theorem dX10_print_19 : decode cX10_print 19 = .ok (.i2l, 1) := by decide +kernel
theorem dX10_print_20 : decode cX10_print 20 = .ok (.aload_n 0, 1) := by decide +kernel
theorem dX10_print_21 : decode cX10_print 21 = .ok (.getfield 22, 3) := by decide +kernel
theorem dX10_print_24 : decode cX10_print 24 = .ok (.iconst 0, 1) := by decide +kernel
theorem dX10_print_25 : decode cX10_print 25 = .ok (.iaload, 1) := by decide +kernel
theorem dX10_print_26 : decode cX10_print 26 = .ok (.i2l, 1) := by decide +kernel
theorem dX10_print_27 : decode cX10_print 27 = .ok (.aload_n 0, 1) := by decide +kernel
theorem dX10_print_28 : decode cX10_print 28 = .ok (.getfield 22, 3) := by decide +kernel
theorem dX10_print_31 : decode cX10_print 31 = .ok (.iconst 1, 1) := by decide +kernel
theorem dX10_print_32 : decode cX10_print 32 = .ok (.iaload, 1) := by decide +kernel
theorem dX10_print_33 : decode cX10_print 33 = .ok (.i2l, 1) := by decide +kernel
theorem dX10_print_34 : decode cX10_print 34 = .ok (.invokestatic 99, 3) := by decide +kernel
theorem dX10_print_37 : decode cX10_print 37 = .ok (.ifCond .ne 7, 3) := by decide +kernel
theorem dX10_print_40 : decode cX10_print 40 = .ok (.sipush (-1003), 3) := by decide +kernel
theorem dX10_print_43 : decode cX10_print 43 = .ok (.ireturn, 1) := by decide +kernel
theorem dX10_print_44 : decode cX10_print 44 = .ok (.aload_n 0, 1) := by decide +kernel
theorem dX10_print_45 : decode cX10_print 45 = .ok (.getfield 177, 3) := by decide +kernel
theorem dX10_print_48 : decode cX10_print 48 = .ok (.bipush 12, 2) := by decide +kernel
theorem dX10_print_50 : decode cX10_print 50 = .ok (.if_icmp .ne 7, 3) := by decide +kernel
theorem dX10_print_53 : decode cX10_print 53 = .ok (.sipush (-1004), 3) := by decide +kernel
theorem dX10_print_56 : decode cX10_print 56 = .ok (.ireturn, 1) := by decide +kernel
theorem dX10_print_57 : decode cX10_print 57 = .ok (.aload_n 0, 1) := by decide +kernel
theorem dX10_print_58 : decode cX10_print 58 = .ok (.getfield 55, 3) := by decide +kernel
theorem dX10_print_61 : decode cX10_print 61 = .ok (.aload_n 0, 1) := by decide +kernel
theorem dX10_print_62 : decode cX10_print 62 = .ok (.getfield 177, 3) := by decide +kernel
theorem dX10_print_65 : decode cX10_print 65 = .ok (.aload_n 0, 1) := by decide +kernel
theorem dX10_print_66 : decode cX10_print 66 = .ok (.getfield 183, 3) := by decide +kernel
theorem dX10_print_69 : decode cX10_print 69 = .ok (.iastore, 1) := by decide +kernel
theorem dX10_print_70 : decode cX10_print 70 = .ok (.iconst 0, 1) := by decide +kernel
theorem dX10_print_71 : decode cX10_print 71 = .ok (.istore_n 1, 1) := by decide +kernel
theorem dX10_print_72 : decode cX10_print 72 = .ok (.iload_n 1, 1) := by decide +kernel
theorem dX10_print_73 : decode cX10_print 73 = .ok (.aload_n 0, 1) := by decide +kernel
theorem dX10_print_74 : decode cX10_print 74 = .ok (.getfield 183, 3) := by decide +kernel
theorem dX10_print_77 : decode cX10_print 77 = .ok (.if_icmp .ge 29, 3) := by decide +kernel
theorem dX10_print_80 : decode cX10_print 80 = .ok (.aload_n 0, 1) := by decide +kernel
theorem dX10_print_81 : decode cX10_print 81 = .ok (.getfield 58, 3) := by decide +kernel
theorem dX10_print_84 : decode cX10_print 84 = .ok (.bipush 6, 2) := by decide +kernel
theorem dX10_print_86 : decode cX10_print 86 = .ok (.aload_n 0, 1) := by decide +kernel
theorem dX10_print_87 : decode cX10_print 87 = .ok (.getfield 177, 3) := by decide +kernel
theorem dX10_print_90 : decode cX10_print 90 = .ok (.imul, 1) := by decide +kernel
theorem dX10_print_91 : decode cX10_print 91 = .ok (.iload_n 1, 1) := by decide +kernel
theorem dX10_print_92 : decode cX10_print 92 = .ok (.iadd, 1) := by decide +kernel
theorem dX10_print_93 : decode cX10_print 93 = .ok (.aload_n 0, 1) := by decide +kernel
theorem dX10_print_94 : decode cX10_print 94 = .ok (.getfield 61, 3) := by decide +kernel
theorem dX10_print_97 : decode cX10_print 97 = .ok (.iload_n 1, 1) := by decide +kernel
theorem dX10_print_98 : decode cX10_print 98 = .ok (.iaload, 1) := by decide +kernel
theorem dX10_print_99 : decode cX10_print 99 = .ok (.iastore, 1) := by decide +kernel
theorem dX10_print_100 : decode cX10_print 100 = .ok (.iinc 1 1, 3) := by decide +kernel
theorem dX10_print_103 : decode cX10_print 103 = .ok (.goto (-31), 3) := by decide +kernel
theorem dX10_print_106 : decode cX10_print 106 = .ok (.aload_n 0, 1) := by decide +kernel
theorem dX10_print_107 : decode cX10_print 107 = .ok (.dup, 1) := by decide +kernel
theorem dX10_print_108 : decode cX10_print 108 = .ok (.getfield 180, 3) := by decide +kernel
theorem dX10_print_111 : decode cX10_print 111 = .ok (.aload_n 0, 1) := by decide +kernel
theorem dX10_print_112 : decode cX10_print 112 = .ok (.getfield 186, 3) := by decide +kernel
theorem dX10_print_115 : decode cX10_print 115 = .ok (.ior, 1) := by decide +kernel
theorem dX10_print_116 : decode cX10_print 116 = .ok (.putfield 180, 3) := by decide +kernel
theorem dX10_print_119 : decode cX10_print 119 = .ok (.aload_n 0, 1) := by decide +kernel
theorem dX10_print_120 : decode cX10_print 120 = .ok (.iconst 0, 1) := by decide +kernel
theorem dX10_print_121 : decode cX10_print 121 = .ok (.putfield 183, 3) := by decide +kernel
theorem dX10_print_124 : decode cX10_print 124 = .ok (.aload_n 0, 1) := by decide +kernel
theorem dX10_print_125 : decode cX10_print 125 = .ok (.iconst 0, 1) := by decide +kernel
theorem dX10_print_126 : decode cX10_print 126 = .ok (.putfield 186, 3) := by decide +kernel
theorem dX10_print_129 : decode cX10_print 129 = .ok (.aload_n 0, 1) := by decide +kernel
theorem dX10_print_130 : decode cX10_print 130 = .ok (.dup, 1) := by decide +kernel
theorem dX10_print_131 : decode cX10_print 131 = .ok (.getfield 177, 3) := by decide +kernel
theorem dX10_print_134 : decode cX10_print 134 = .ok (.iconst 1, 1) := by decide +kernel
theorem dX10_print_135 : decode cX10_print 135 = .ok (.iadd, 1) := by decide +kernel
theorem dX10_print_136 : decode cX10_print 136 = .ok (.putfield 177, 3) := by decide +kernel
theorem dX10_print_139 : decode cX10_print 139 = .ok (.aload_n 0, 1) := by decide +kernel
theorem dX10_print_140 : decode cX10_print 140 = .ok (.getfield 177, 3) := by decide +kernel
theorem dX10_print_143 : decode cX10_print 143 = .ok (.iconst 1, 1) := by decide +kernel
theorem dX10_print_144 : decode cX10_print 144 = .ok (.isub, 1) := by decide +kernel
theorem dX10_print_145 : decode cX10_print 145 = .ok (.ireturn, 1) := by decide +kernel
theorem dX10_upTo_0 : decode cX10_upTo 0 = .ok (.iconst 0, 1) := by decide +kernel
theorem dX10_upTo_1 : decode cX10_upTo 1 = .ok (.istore_n 2, 1) := by decide +kernel
theorem dX10_upTo_2 : decode cX10_upTo 2 = .ok (.iconst 0, 1) := by decide +kernel
theorem dX10_upTo_3 : decode cX10_upTo 3 = .ok (.istore_n 3, 1) := by decide +kernel
theorem dX10_upTo_4 : decode cX10_upTo 4 = .ok (.iload_n 3, 1) := by decide +kernel
theorem dX10_upTo_5 : decode cX10_upTo 5 = .ok (.iload_n 1, 1) := by decide +kernel
theorem dX10_upTo_6 : decode cX10_upTo 6 = .ok (.if_icmp .gt 17, 3) := by decide +kernel
theorem dX10_upTo_9 : decode cX10_upTo 9 = .ok (.iload_n 2, 1) := by decide +kernel
theorem dX10_upTo_10 : decode cX10_upTo 10 = .ok (.aload_n 0, 1) := by decide +kernel
theorem dX10_upTo_11 : decode cX10_upTo 11 = .ok (.iload_n 3, 1) := by decide +kernel
theorem dX10_upTo_12 : decode cX10_upTo 12 = .ok (.invokevirtual 241, 3) := by decide +kernel
theorem dX10_upTo_15 : decode cX10_upTo 15 = .ok (.ior, 1) := by decide +kernel
theorem dX10_upTo_16 : decode cX10_upTo 16 = .ok (.istore_n 2, 1) := by decide +kernel
theorem dX10_upTo_17 : decode cX10_upTo 17 = .ok (.iinc 3 1, 3) := by decide +kernel
theorem dX10_upTo_20 : decode cX10_upTo 20 = .ok (.goto (-16), 3) := by decide +kernel
theorem dX10_upTo_23 : decode cX10_upTo 23 = .ok (.iload_n 2, 1) := by decide +kernel
theorem dX10_upTo_24 : decode cX10_upTo 24 = .ok (.ireturn, 1) := by decide +kernel
theorem dX10_joyOf_0 : decode cX10_joyOf 0 = .ok (.iconst 0, 1) := by decide +kernel
theorem dX10_joyOf_1 : decode cX10_joyOf 1 = .ok (.istore_n 2, 1) := by decide +kernel
theorem dX10_joyOf_2 : decode cX10_joyOf 2 = .ok (.iconst 0, 1) := by decide +kernel
theorem dX10_joyOf_3 : decode cX10_joyOf 3 = .ok (.istore_n 3, 1) := by decide +kernel
theorem dX10_joyOf_4 : decode cX10_joyOf 4 = .ok (.iload_n 3, 1) := by decide +kernel
theorem dX10_joyOf_5 : decode cX10_joyOf 5 = .ok (.aload_n 0, 1) := by decide +kernel
theorem dX10_joyOf_6 : decode cX10_joyOf 6 = .ok (.getfield 174, 3) := by decide +kernel
theorem dX10_joyOf_9 : decode cX10_joyOf 9 = .ok (.if_icmp .ge 30, 3) := by decide +kernel
theorem dX10_joyOf_12 : decode cX10_joyOf 12 = .ok (.iload_n 2, 1) := by decide +kernel
theorem dX10_joyOf_13 : decode cX10_joyOf 13 = .ok (.iload_n 1, 1) := by decide +kernel
theorem dX10_joyOf_14 : decode cX10_joyOf 14 = .ok (.iload_n 3, 1) := by decide +kernel
theorem dX10_joyOf_15 : decode cX10_joyOf 15 = .ok (.invokestatic 143, 3) := by decide +kernel
theorem dX10_joyOf_18 : decode cX10_joyOf 18 = .ok (.ifCond .eq 12, 3) := by decide +kernel
theorem dX10_joyOf_21 : decode cX10_joyOf 21 = .ok (.aload_n 0, 1) := by decide +kernel
theorem dX10_joyOf_22 : decode cX10_joyOf 22 = .ok (.iload_n 3, 1) := by decide +kernel
theorem dX10_joyOf_23 : decode cX10_joyOf 23 = .ok (.iconst 0, 1) := by decide +kernel
theorem dX10_joyOf_24 : decode cX10_joyOf 24 = .ok (.invokevirtual 199, 3) := by decide +kernel
theorem dX10_joyOf_27 : decode cX10_joyOf 27 = .ok (.goto 4, 3) := by decide +kernel
theorem dX10_joyOf_30 : decode cX10_joyOf 30 = .ok (.iconst 0, 1) := by decide +kernel
theorem dX10_joyOf_31 : decode cX10_joyOf 31 = .ok (.iadd, 1) := by decide +kernel
theorem dX10_joyOf_32 : decode cX10_joyOf 32 = .ok (.istore_n 2, 1) := by decide +kernel
theorem dX10_joyOf_33 : decode cX10_joyOf 33 = .ok (.iinc 3 1, 3) := by decide +kernel
theorem dX10_joyOf_36 : decode cX10_joyOf 36 = .ok (.goto (-32), 3) := by decide +kernel
theorem dX10_joyOf_39 : decode cX10_joyOf 39 = .ok (.iload_n 2, 1) := by decide +kernel
theorem dX10_joyOf_40 : decode cX10_joyOf 40 = .ok (.ireturn, 1) := by decide +kernel
theorem dX10_pullOf_0 : decode cX10_pullOf 0 = .ok (.aload_n 0, 1) := by decide +kernel
theorem dX10_pullOf_1 : decode cX10_pullOf 1 = .ok (.aload_n 0, 1) := by decide +kernel
theorem dX10_pullOf_2 : decode cX10_pullOf 2 = .ok (.iload_n 1, 1) := by decide +kernel
theorem dX10_pullOf_3 : decode cX10_pullOf 3 = .ok (.invokevirtual 250, 3) := by decide +kernel
theorem dX10_pullOf_6 : decode cX10_pullOf 6 = .ok (.invokevirtual 237, 3) := by decide +kernel
theorem dX10_pullOf_9 : decode cX10_pullOf 9 = .ok (.istore_n 2, 1) := by decide +kernel
theorem dX10_pullOf_10 : decode cX10_pullOf 10 = .ok (.aload_n 0, 1) := by decide +kernel
theorem dX10_pullOf_11 : decode cX10_pullOf 11 = .ok (.getfield 58, 3) := by decide +kernel
theorem dX10_pullOf_14 : decode cX10_pullOf 14 = .ok (.bipush 6, 2) := by decide +kernel
theorem dX10_pullOf_16 : decode cX10_pullOf 16 = .ok (.iload_n 1, 1) := by decide +kernel
theorem dX10_pullOf_17 : decode cX10_pullOf 17 = .ok (.imul, 1) := by decide +kernel
theorem dX10_pullOf_18 : decode cX10_pullOf 18 = .ok (.aload_n 0, 1) := by decide +kernel
theorem dX10_pullOf_19 : decode cX10_pullOf 19 = .ok (.getfield 55, 3) := by decide +kernel
theorem dX10_pullOf_22 : decode cX10_pullOf 22 = .ok (.iload_n 1, 1) := by decide +kernel
theorem dX10_pullOf_23 : decode cX10_pullOf 23 = .ok (.iaload, 1) := by decide +kernel
theorem dX10_pullOf_24 : decode cX10_pullOf 24 = .ok (.iadd, 1) := by decide +kernel
theorem dX10_pullOf_25 : decode cX10_pullOf 25 = .ok (.iconst 1, 1) := by decide +kernel
theorem dX10_pullOf_26 : decode cX10_pullOf 26 = .ok (.isub, 1) := by decide +kernel
theorem dX10_pullOf_27 : decode cX10_pullOf 27 = .ok (.iaload, 1) := by decide +kernel
theorem dX10_pullOf_28 : decode cX10_pullOf 28 = .ok (.istore_n 3, 1) := by decide +kernel
theorem dX10_pullOf_29 : decode cX10_pullOf 29 = .ok (.aload_n 0, 1) := by decide +kernel
theorem dX10_pullOf_30 : decode cX10_pullOf 30 = .ok (.aload_n 0, 1) := by decide +kernel
theorem dX10_pullOf_31 : decode cX10_pullOf 31 = .ok (.iload_n 1, 1) := by decide +kernel
theorem dX10_pullOf_32 : decode cX10_pullOf 32 = .ok (.invokevirtual 241, 3) := by decide +kernel
theorem dX10_pullOf_35 : decode cX10_pullOf 35 = .ok (.invokevirtual 253, 3) := by decide +kernel
theorem dX10_pullOf_38 : decode cX10_pullOf 38 = .ok (.aload_n 0, 1) := by decide +kernel
theorem dX10_pullOf_39 : decode cX10_pullOf 39 = .ok (.getfield 22, 3) := by decide +kernel
theorem dX10_pullOf_42 : decode cX10_pullOf 42 = .ok (.iconst 5, 1) := by decide +kernel
theorem dX10_pullOf_43 : decode cX10_pullOf 43 = .ok (.iaload, 1) := by decide +kernel
theorem dX10_pullOf_44 : decode cX10_pullOf 44 = .ok (.iload_n 2, 1) := by decide +kernel
theorem dX10_pullOf_45 : decode cX10_pullOf 45 = .ok (.invokestatic 208, 3) := by decide +kernel
theorem dX10_pullOf_48 : decode cX10_pullOf 48 = .ok (.imul, 1) := by decide +kernel
theorem dX10_pullOf_49 : decode cX10_pullOf 49 = .ok (.iadd, 1) := by decide +kernel
theorem dX10_pullOf_50 : decode cX10_pullOf 50 = .ok (.aload_n 0, 1) := by decide +kernel
theorem dX10_pullOf_51 : decode cX10_pullOf 51 = .ok (.iload_n 3, 1) := by decide +kernel
theorem dX10_pullOf_52 : decode cX10_pullOf 52 = .ok (.iconst 3, 1) := by decide +kernel
theorem dX10_pullOf_53 : decode cX10_pullOf 53 = .ok (.invokevirtual 199, 3) := by decide +kernel
theorem dX10_pullOf_56 : decode cX10_pullOf 56 = .ok (.iload_n 2, 1) := by decide +kernel
theorem dX10_pullOf_57 : decode cX10_pullOf 57 = .ok (.iand, 1) := by decide +kernel
theorem dX10_pullOf_58 : decode cX10_pullOf 58 = .ok (.ifCond .eq 12, 3) := by decide +kernel
theorem dX10_pullOf_61 : decode cX10_pullOf 61 = .ok (.aload_n 0, 1) := by decide +kernel
theorem dX10_pullOf_62 : decode cX10_pullOf 62 = .ok (.getfield 22, 3) := by decide +kernel
theorem dX10_pullOf_65 : decode cX10_pullOf 65 = .ok (.iconst 4, 1) := by decide +kernel
theorem dX10_pullOf_66 : decode cX10_pullOf 66 = .ok (.iaload, 1) := by decide +kernel
theorem dX10_pullOf_67 : decode cX10_pullOf 67 = .ok (.goto 4, 3) := by decide +kernel
theorem dX10_pullOf_70 : decode cX10_pullOf 70 = .ok (.iconst 0, 1) := by decide +kernel
theorem dX10_pullOf_71 : decode cX10_pullOf 71 = .ok (.iadd, 1) := by decide +kernel
theorem dX10_pullOf_72 : decode cX10_pullOf 72 = .ok (.istore 4, 2) := by decide +kernel
theorem dX10_pullOf_74 : decode cX10_pullOf 74 = .ok (.iload_n 1, 1) := by decide +kernel
theorem dX10_pullOf_75 : decode cX10_pullOf 75 = .ok (.iconst 3, 1) := by decide +kernel
theorem dX10_pullOf_76 : decode cX10_pullOf 76 = .ok (.if_icmp .le 20, 3) := by decide +kernel
theorem dX10_pullOf_79 : decode cX10_pullOf 79 = .ok (.aload_n 0, 1) := by decide +kernel
theorem dX10_pullOf_80 : decode cX10_pullOf 80 = .ok (.aload_n 0, 1) := by decide +kernel
theorem dX10_pullOf_81 : decode cX10_pullOf 81 = .ok (.iload_n 1, 1) := by decide +kernel
theorem dX10_pullOf_82 : decode cX10_pullOf 82 = .ok (.iconst 4, 1) := by decide +kernel
theorem dX10_pullOf_83 : decode cX10_pullOf 83 = .ok (.isub, 1) := by decide +kernel
theorem dX10_pullOf_84 : decode cX10_pullOf 84 = .ok (.invokevirtual 250, 3) := by decide +kernel
theorem dX10_pullOf_87 : decode cX10_pullOf 87 = .ok (.iconst 3, 1) := by decide +kernel
theorem dX10_pullOf_88 : decode cX10_pullOf 88 = .ok (.invokevirtual 217, 3) := by decide +kernel
theorem dX10_pullOf_91 : decode cX10_pullOf 91 = .ok (.iload_n 2, 1) := by decide +kernel
theorem dX10_pullOf_92 : decode cX10_pullOf 92 = .ok (.iand, 1) := by decide +kernel
theorem dX10_pullOf_93 : decode cX10_pullOf 93 = .ok (.goto 4, 3) := by decide +kernel
theorem dX10_pullOf_96 : decode cX10_pullOf 96 = .ok (.iconst 0, 1) := by decide +kernel
theorem dX10_pullOf_97 : decode cX10_pullOf 97 = .ok (.istore 5, 2) := by decide +kernel
theorem dX10_pullOf_99 : decode cX10_pullOf 99 = .ok (.iload 4, 2) := by decide +kernel
theorem dX10_pullOf_101 : decode cX10_pullOf 101 = .ok (.aload_n 0, 1) := by decide +kernel
theorem dX10_pullOf_102 : decode cX10_pullOf 102 = .ok (.getfield 22, 3) := by decide +kernel
theorem dX10_pullOf_105 : decode cX10_pullOf 105 = .ok (.bipush 6, 2) := by decide +kernel
theorem dX10_pullOf_107 : decode cX10_pullOf 107 = .ok (.iaload, 1) := by decide +kernel
theorem dX10_pullOf_108 : decode cX10_pullOf 108 = .ok (.iload 5, 2) := by decide +kernel
theorem dX10_pullOf_110 : decode cX10_pullOf 110 = .ok (.invokestatic 208, 3) := by decide +kernel
theorem dX10_pullOf_113 : decode cX10_pullOf 113 = .ok (.imul, 1) := by decide +kernel
theorem dX10_pullOf_114 : decode cX10_pullOf 114 = .ok (.isub, 1) := by decide +kernel
theorem dX10_pullOf_115 : decode cX10_pullOf 115 = .ok (.ireturn, 1) := by decide +kernel
theorem dX10_readersBehind_0 : decode cX10_readersBehind 0 = .ok (.ldc2_w 256, 3) := by decide +kernel
theorem dX10_readersBehind_3 : decode cX10_readersBehind 3 = .ok (.lstore_n 2, 1) := by decide +kernel
theorem dX10_readersBehind_4 : decode cX10_readersBehind 4 = .ok (.iconst 0, 1) := by decide +kernel
theorem dX10_readersBehind_5 : decode cX10_readersBehind 5 = .ok (.istore 4, 2) := by decide +kernel
theorem dX10_readersBehind_7 : decode cX10_readersBehind 7 = .ok (.iload 4, 2) := by decide +kernel
theorem dX10_readersBehind_9 : decode cX10_readersBehind 9 = .ok (.iload_n 1, 1) := by decide +kernel
theorem dX10_readersBehind_10 : decode cX10_readersBehind 10 = .ok (.if_icmp .gt 60, 3) := by decide +kernel
theorem dX10_readersBehind_13 : decode cX10_readersBehind 13 = .ok (.lload_n 2, 1) := by decide +kernel
theorem dX10_readersBehind_14 : decode cX10_readersBehind 14 = .ok (.bipush 100, 2) := by decide +kernel
theorem dX10_readersBehind_16 : decode cX10_readersBehind 16 = .ok (.aload_n 0, 1) := by decide +kernel
theorem dX10_readersBehind_17 : decode cX10_readersBehind 17 = .ok (.getfield 22, 3) := by decide +kernel
theorem dX10_readersBehind_20 : decode cX10_readersBehind 20 = .ok (.bipush 7, 2) := by decide +kernel
theorem dX10_readersBehind_22 : decode cX10_readersBehind 22 = .ok (.iaload, 1) := by decide +kernel
theorem dX10_readersBehind_23 : decode cX10_readersBehind 23 = .ok (.isub, 1) := by decide +kernel
theorem dX10_readersBehind_24 : decode cX10_readersBehind 24 = .ok (.aload_n 0, 1) := by decide +kernel
theorem dX10_readersBehind_25 : decode cX10_readersBehind 25 = .ok (.iload 4, 2) := by decide +kernel
theorem dX10_readersBehind_27 : decode cX10_readersBehind 27 = .ok (.invokevirtual 258, 3) := by decide +kernel
theorem dX10_readersBehind_30 : decode cX10_readersBehind 30 = .ok (.iadd, 1) := by decide +kernel
theorem dX10_readersBehind_31 : decode cX10_readersBehind 31 = .ok (.i2l, 1) := by decide +kernel
theorem dX10_readersBehind_32 : decode cX10_readersBehind 32 = .ok (.lmul, 1) := by decide +kernel
theorem dX10_readersBehind_33 : decode cX10_readersBehind 33 = .ok (.ldc2_w 261, 3) := by decide +kernel
theorem dX10_readersBehind_36 : decode cX10_readersBehind 36 = .ok (.ldiv, 1) := by decide +kernel
theorem dX10_readersBehind_37 : decode cX10_readersBehind 37 = .ok (.lstore_n 2, 1) := by decide +kernel
theorem dX10_readersBehind_38 : decode cX10_readersBehind 38 = .ok (.lload_n 2, 1) := by decide +kernel
theorem dX10_readersBehind_39 : decode cX10_readersBehind 39 = .ok (.lconst 0, 1) := by decide +kernel
theorem dX10_readersBehind_40 : decode cX10_readersBehind 40 = .ok (.lcmp, 1) := by decide +kernel
theorem dX10_readersBehind_41 : decode cX10_readersBehind 41 = .ok (.ifCond .ge 7, 3) := by decide +kernel
theorem dX10_readersBehind_44 : decode cX10_readersBehind 44 = .ok (.lconst 0, 1) := by decide +kernel
theorem dX10_readersBehind_45 : decode cX10_readersBehind 45 = .ok (.goto 18, 3) := by decide +kernel
theorem dX10_readersBehind_48 : decode cX10_readersBehind 48 = .ok (.lload_n 2, 1) := by decide +kernel
theorem dX10_readersBehind_49 : decode cX10_readersBehind 49 = .ok (.ldc2_w 263, 3) := by decide +kernel
end
section
theorem dX10_readersBehind_52 : decode cX10_readersBehind 52 = .ok (.lcmp, 1) := by decide +kernel
theorem dX10_readersBehind_53 : decode cX10_readersBehind 53 = .ok (.ifCond .le 9, 3) := by decide +kernel
theorem dX10_readersBehind_56 : decode cX10_readersBehind 56 = .ok (.ldc2_w 263, 3) := by decide +kernel
theorem dX10_readersBehind_59 : decode cX10_readersBehind 59 = .ok (.goto 4, 3) := by decide +kernel
theorem dX10_readersBehind_62 : decode cX10_readersBehind 62 = .ok (.lload_n 2, 1) := by decide +kernel
theorem dX10_readersBehind_63 : decode cX10_readersBehind 63 = .ok (.lstore_n 2, 1) := by decide +kernel
theorem dX10_readersBehind_64 : decode cX10_readersBehind 64 = .ok (.iinc 4 1, 3) := by decide +kernel
theorem dX10_readersBehind_67 : decode cX10_readersBehind 67 = .ok (.goto (-60), 3) := by decide +kernel
theorem dX10_readersBehind_70 : decode cX10_readersBehind 70 = .ok (.lload_n 2, 1) := by decide +kernel
theorem dX10_readersBehind_71 : decode cX10_readersBehind 71 = .ok (.l2i, 1) := by decide +kernel
theorem dX10_readersBehind_72 : decode cX10_readersBehind 72 = .ok (.ireturn, 1) := by decide +kernel
theorem dX10_number_0 : decode cX10_number 0 = .ok (.iload_n 1, 1) := by decide +kernel
theorem dX10_number_1 : decode cX10_number 1 = .ok (.i2l, 1) := by decide +kernel
theorem dX10_number_2 : decode cX10_number 2 = .ok (.lconst 0, 1) := by decide +kernel
theorem dX10_number_3 : decode cX10_number 3 = .ok (.aload_n 0, 1) := by decide +kernel
theorem dX10_number_4 : decode cX10_number 4 = .ok (.getfield 177, 3) := by decide +kernel
theorem dX10_number_7 : decode cX10_number 7 = .ok (.iconst 1, 1) := by decide +kernel
theorem dX10_number_8 : decode cX10_number 8 = .ok (.isub, 1) := by decide +kernel
theorem dX10_number_9 : decode cX10_number 9 = .ok (.i2l, 1) := by decide +kernel
theorem dX10_number_10 : decode cX10_number 10 = .ok (.invokestatic 99, 3) := by decide +kernel
theorem dX10_number_13 : decode cX10_number 13 = .ok (.ifCond .ne 7, 3) := by decide +kernel
theorem dX10_number_16 : decode cX10_number 16 = .ok (.sipush (-1001), 3) := by decide +kernel
theorem dX10_number_19 : decode cX10_number 19 = .ok (.ireturn, 1) := by decide +kernel
theorem dX10_number_20 : decode cX10_number 20 = .ok (.iload_n 2, 1) := by decide +kernel
theorem dX10_number_21 : decode cX10_number 21 = .ok (.tableswitch 90 0 5 #[39, 46, 57, 63, 69, 79], 39) := by decide +kernel
theorem dX10_number_60 : decode cX10_number 60 = .ok (.aload_n 0, 1) := by decide +kernel
theorem dX10_number_61 : decode cX10_number 61 = .ok (.getfield 55, 3) := by decide +kernel
theorem dX10_number_64 : decode cX10_number 64 = .ok (.iload_n 1, 1) := by decide +kernel
theorem dX10_number_65 : decode cX10_number 65 = .ok (.iaload, 1) := by decide +kernel
theorem dX10_number_66 : decode cX10_number 66 = .ok (.ireturn, 1) := by decide +kernel
theorem dX10_number_67 : decode cX10_number 67 = .ok (.aload_n 0, 1) := by decide +kernel
theorem dX10_number_68 : decode cX10_number 68 = .ok (.aload_n 0, 1) := by decide +kernel
theorem dX10_number_69 : decode cX10_number 69 = .ok (.iload_n 1, 1) := by decide +kernel
theorem dX10_number_70 : decode cX10_number 70 = .ok (.invokevirtual 241, 3) := by decide +kernel
theorem dX10_number_73 : decode cX10_number 73 = .ok (.iload_n 1, 1) := by decide +kernel
theorem dX10_number_74 : decode cX10_number 74 = .ok (.invokevirtual 247, 3) := by decide +kernel
theorem dX10_number_77 : decode cX10_number 77 = .ok (.ireturn, 1) := by decide +kernel
theorem dX10_number_78 : decode cX10_number 78 = .ok (.aload_n 0, 1) := by decide +kernel
theorem dX10_number_79 : decode cX10_number 79 = .ok (.iload_n 1, 1) := by decide +kernel
theorem dX10_number_80 : decode cX10_number 80 = .ok (.invokevirtual 258, 3) := by decide +kernel
theorem dX10_number_83 : decode cX10_number 83 = .ok (.ireturn, 1) := by decide +kernel
theorem dX10_number_84 : decode cX10_number 84 = .ok (.aload_n 0, 1) := by decide +kernel
theorem dX10_number_85 : decode cX10_number 85 = .ok (.iload_n 1, 1) := by decide +kernel
theorem dX10_number_86 : decode cX10_number 86 = .ok (.invokevirtual 265, 3) := by decide +kernel
theorem dX10_number_89 : decode cX10_number 89 = .ok (.ireturn, 1) := by decide +kernel
theorem dX10_number_90 : decode cX10_number 90 = .ok (.aload_n 0, 1) := by decide +kernel
theorem dX10_number_91 : decode cX10_number 91 = .ok (.aload_n 0, 1) := by decide +kernel
theorem dX10_number_92 : decode cX10_number 92 = .ok (.iload_n 1, 1) := by decide +kernel
theorem dX10_number_93 : decode cX10_number 93 = .ok (.invokevirtual 250, 3) := by decide +kernel
theorem dX10_number_96 : decode cX10_number 96 = .ok (.invokevirtual 237, 3) := by decide +kernel
theorem dX10_number_99 : decode cX10_number 99 = .ok (.ireturn, 1) := by decide +kernel
theorem dX10_number_100 : decode cX10_number 100 = .ok (.aload_n 0, 1) := by decide +kernel
theorem dX10_number_101 : decode cX10_number 101 = .ok (.aload_n 0, 1) := by decide +kernel
theorem dX10_number_102 : decode cX10_number 102 = .ok (.iload_n 1, 1) := by decide +kernel
theorem dX10_number_103 : decode cX10_number 103 = .ok (.invokevirtual 241, 3) := by decide +kernel
theorem dX10_number_106 : decode cX10_number 106 = .ok (.iload_n 1, 1) := by decide +kernel
theorem dX10_number_107 : decode cX10_number 107 = .ok (.invokevirtual 244, 3) := by decide +kernel
theorem dX10_number_110 : decode cX10_number 110 = .ok (.ireturn, 1) := by decide +kernel
theorem dX10_number_111 : decode cX10_number 111 = .ok (.iload_n 2, 1) := by decide +kernel
theorem dX10_number_112 : decode cX10_number 112 = .ok (.i2l, 1) := by decide +kernel
theorem dX10_number_113 : decode cX10_number 113 = .ok (.ldc2_w 268, 3) := by decide +kernel
theorem dX10_number_116 : decode cX10_number 116 = .ok (.ldc2_w 270, 3) := by decide +kernel
theorem dX10_number_119 : decode cX10_number 119 = .ok (.invokestatic 99, 3) := by decide +kernel
theorem dX10_number_122 : decode cX10_number 122 = .ok (.ifCond .ne 9, 3) := by decide +kernel
theorem dX10_number_125 : decode cX10_number 125 = .ok (.sipush (-1002), 3) := by decide +kernel
theorem dX10_number_128 : decode cX10_number 128 = .ok (.goto 34, 3) := by decide +kernel
theorem dX10_number_131 : decode cX10_number 131 = .ok (.iload_n 2, 1) := by decide +kernel
theorem dX10_number_132 : decode cX10_number 132 = .ok (.bipush 6, 2) := by decide +kernel
theorem dX10_number_134 : decode cX10_number 134 = .ok (.isub, 1) := by decide +kernel
theorem dX10_number_135 : decode cX10_number 135 = .ok (.aload_n 0, 1) := by decide +kernel
theorem dX10_number_136 : decode cX10_number 136 = .ok (.getfield 55, 3) := by decide +kernel
theorem dX10_number_139 : decode cX10_number 139 = .ok (.iload_n 1, 1) := by decide +kernel
theorem dX10_number_140 : decode cX10_number 140 = .ok (.iaload, 1) := by decide +kernel
theorem dX10_number_141 : decode cX10_number 141 = .ok (.if_icmp .ge 20, 3) := by decide +kernel
theorem dX10_number_144 : decode cX10_number 144 = .ok (.aload_n 0, 1) := by decide +kernel
theorem dX10_number_145 : decode cX10_number 145 = .ok (.getfield 58, 3) := by decide +kernel
theorem dX10_number_148 : decode cX10_number 148 = .ok (.bipush 6, 2) := by decide +kernel
theorem dX10_number_150 : decode cX10_number 150 = .ok (.iload_n 1, 1) := by decide +kernel
theorem dX10_number_151 : decode cX10_number 151 = .ok (.imul, 1) := by decide +kernel
theorem dX10_number_152 : decode cX10_number 152 = .ok (.iload_n 2, 1) := by decide +kernel
theorem dX10_number_153 : decode cX10_number 153 = .ok (.iadd, 1) := by decide +kernel
theorem dX10_number_154 : decode cX10_number 154 = .ok (.bipush 6, 2) := by decide +kernel
theorem dX10_number_156 : decode cX10_number 156 = .ok (.isub, 1) := by decide +kernel
theorem dX10_number_157 : decode cX10_number 157 = .ok (.iaload, 1) := by decide +kernel
theorem dX10_number_158 : decode cX10_number 158 = .ok (.goto 4, 3) := by decide +kernel
theorem dX10_number_161 : decode cX10_number 161 = .ok (.iconst (-1), 1) := by decide +kernel
theorem dX10_number_162 : decode cX10_number 162 = .ok (.ireturn, 1) := by decide +kernel
theorem dX10_readers_0 : decode cX10_readers 0 = .ok (.aload_n 0, 1) := by decide +kernel
theorem dX10_readers_1 : decode cX10_readers 1 = .ok (.aload_n 0, 1) := by decide +kernel
theorem dX10_readers_2 : decode cX10_readers 2 = .ok (.getfield 177, 3) := by decide +kernel
theorem dX10_readers_5 : decode cX10_readers 5 = .ok (.iconst 1, 1) := by decide +kernel
theorem dX10_readers_6 : decode cX10_readers 6 = .ok (.isub, 1) := by decide +kernel
theorem dX10_readers_7 : decode cX10_readers 7 = .ok (.invokevirtual 265, 3) := by decide +kernel
theorem dX10_readers_10 : decode cX10_readers 10 = .ok (.ireturn, 1) := by decide +kernel
theorem dX10_findReach_0 : decode cX10_findReach 0 = .ok (.iconst 0, 1) := by decide +kernel
theorem dX10_findReach_1 : decode cX10_findReach 1 = .ok (.istore_n 3, 1) := by decide +kernel
theorem dX10_findReach_2 : decode cX10_findReach 2 = .ok (.iconst 1, 1) := by decide +kernel
theorem dX10_findReach_3 : decode cX10_findReach 3 = .ok (.istore 4, 2) := by decide +kernel
theorem dX10_findReach_5 : decode cX10_findReach 5 = .ok (.iload 4, 2) := by decide +kernel
theorem dX10_findReach_7 : decode cX10_findReach 7 = .ok (.ifCond .eq 129, 3) := by decide +kernel
theorem dX10_findReach_10 : decode cX10_findReach 10 = .ok (.iload_n 1, 1) := by decide +kernel
theorem dX10_findReach_11 : decode cX10_findReach 11 = .ok (.iload_n 3, 1) := by decide +kernel
theorem dX10_findReach_12 : decode cX10_findReach 12 = .ok (.ior, 1) := by decide +kernel
theorem dX10_findReach_13 : decode cX10_findReach 13 = .ok (.istore 5, 2) := by decide +kernel
theorem dX10_findReach_15 : decode cX10_findReach 15 = .ok (.aload_n 0, 1) := by decide +kernel
theorem dX10_findReach_16 : decode cX10_findReach 16 = .ok (.getfield 64, 3) := by decide +kernel
theorem dX10_findReach_19 : decode cX10_findReach 19 = .ok (.iload 5, 2) := by decide +kernel
theorem dX10_findReach_21 : decode cX10_findReach 21 = .ok (.iload_n 3, 1) := by decide +kernel
theorem dX10_findReach_22 : decode cX10_findReach 22 = .ok (.ifCond .ne 7, 3) := by decide +kernel
theorem dX10_findReach_25 : decode cX10_findReach 25 = .ok (.iconst 1, 1) := by decide +kernel
theorem dX10_findReach_26 : decode cX10_findReach 26 = .ok (.goto 4, 3) := by decide +kernel
theorem dX10_findReach_29 : decode cX10_findReach 29 = .ok (.iconst 0, 1) := by decide +kernel
theorem dX10_findReach_30 : decode cX10_findReach 30 = .ok (.bastore, 1) := by decide +kernel
theorem dX10_findReach_31 : decode cX10_findReach 31 = .ok (.iconst 0, 1) := by decide +kernel
theorem dX10_findReach_32 : decode cX10_findReach 32 = .ok (.istore 6, 2) := by decide +kernel
theorem dX10_findReach_34 : decode cX10_findReach 34 = .ok (.iload 6, 2) := by decide +kernel
theorem dX10_findReach_36 : decode cX10_findReach 36 = .ok (.aload_n 0, 1) := by decide +kernel
theorem dX10_findReach_37 : decode cX10_findReach 37 = .ok (.getfield 174, 3) := by decide +kernel
theorem dX10_findReach_40 : decode cX10_findReach 40 = .ok (.if_icmp .ge 76, 3) := by decide +kernel
theorem dX10_findReach_43 : decode cX10_findReach 43 = .ok (.iload 5, 2) := by decide +kernel
theorem dX10_findReach_45 : decode cX10_findReach 45 = .ok (.iconst 1, 1) := by decide +kernel
theorem dX10_findReach_46 : decode cX10_findReach 46 = .ok (.iload 6, 2) := by decide +kernel
theorem dX10_findReach_48 : decode cX10_findReach 48 = .ok (.ishl, 1) := by decide +kernel
theorem dX10_findReach_49 : decode cX10_findReach 49 = .ok (.iconst (-1), 1) := by decide +kernel
theorem dX10_findReach_50 : decode cX10_findReach 50 = .ok (.ixor, 1) := by decide +kernel
theorem dX10_findReach_51 : decode cX10_findReach 51 = .ok (.iand, 1) := by decide +kernel
theorem dX10_findReach_52 : decode cX10_findReach 52 = .ok (.istore 7, 2) := by decide +kernel
theorem dX10_findReach_54 : decode cX10_findReach 54 = .ok (.aload_n 0, 1) := by decide +kernel
theorem dX10_findReach_55 : decode cX10_findReach 55 = .ok (.getfield 64, 3) := by decide +kernel
theorem dX10_findReach_58 : decode cX10_findReach 58 = .ok (.iload 5, 2) := by decide +kernel
theorem dX10_findReach_60 : decode cX10_findReach 60 = .ok (.aload_n 0, 1) := by decide +kernel
theorem dX10_findReach_61 : decode cX10_findReach 61 = .ok (.getfield 64, 3) := by decide +kernel
theorem dX10_findReach_64 : decode cX10_findReach 64 = .ok (.iload 5, 2) := by decide +kernel
theorem dX10_findReach_66 : decode cX10_findReach 66 = .ok (.baload, 1) := by decide +kernel
theorem dX10_findReach_67 : decode cX10_findReach 67 = .ok (.ifCond .ne 37, 3) := by decide +kernel
theorem dX10_findReach_70 : decode cX10_findReach 70 = .ok (.iload_n 3, 1) := by decide +kernel
theorem dX10_findReach_71 : decode cX10_findReach 71 = .ok (.iload 6, 2) := by decide +kernel
theorem dX10_findReach_73 : decode cX10_findReach 73 = .ok (.invokestatic 143, 3) := by decide +kernel
theorem dX10_findReach_76 : decode cX10_findReach 76 = .ok (.ifCond .eq 32, 3) := by decide +kernel
theorem dX10_findReach_79 : decode cX10_findReach 79 = .ok (.aload_n 0, 1) := by decide +kernel
theorem dX10_findReach_80 : decode cX10_findReach 80 = .ok (.getfield 64, 3) := by decide +kernel
theorem dX10_findReach_83 : decode cX10_findReach 83 = .ok (.iload 7, 2) := by decide +kernel
theorem dX10_findReach_85 : decode cX10_findReach 85 = .ok (.baload, 1) := by decide +kernel
theorem dX10_findReach_86 : decode cX10_findReach 86 = .ok (.ifCond .eq 22, 3) := by decide +kernel
theorem dX10_findReach_89 : decode cX10_findReach 89 = .ok (.aload_n 0, 1) := by decide +kernel
theorem dX10_findReach_90 : decode cX10_findReach 90 = .ok (.getfield 49, 3) := by decide +kernel
theorem dX10_findReach_93 : decode cX10_findReach 93 = .ok (.iload 7, 2) := by decide +kernel
theorem dX10_findReach_95 : decode cX10_findReach 95 = .ok (.iaload, 1) := by decide +kernel
theorem dX10_findReach_96 : decode cX10_findReach 96 = .ok (.iload 6, 2) := by decide +kernel
theorem dX10_findReach_98 : decode cX10_findReach 98 = .ok (.invokestatic 143, 3) := by decide +kernel
theorem dX10_findReach_101 : decode cX10_findReach 101 = .ok (.ifCond .eq 7, 3) := by decide +kernel
theorem dX10_findReach_104 : decode cX10_findReach 104 = .ok (.iconst 1, 1) := by decide +kernel
theorem dX10_findReach_105 : decode cX10_findReach 105 = .ok (.goto 4, 3) := by decide +kernel
theorem dX10_findReach_108 : decode cX10_findReach 108 = .ok (.iconst 0, 1) := by decide +kernel
theorem dX10_findReach_109 : decode cX10_findReach 109 = .ok (.bastore, 1) := by decide +kernel
theorem dX10_findReach_110 : decode cX10_findReach 110 = .ok (.iinc 6 1, 3) := by decide +kernel
theorem dX10_findReach_113 : decode cX10_findReach 113 = .ok (.goto (-79), 3) := by decide +kernel
theorem dX10_findReach_116 : decode cX10_findReach 116 = .ok (.iload_n 3, 1) := by decide +kernel
theorem dX10_findReach_117 : decode cX10_findReach 117 = .ok (.iload_n 2, 1) := by decide +kernel
theorem dX10_findReach_118 : decode cX10_findReach 118 = .ok (.isub, 1) := by decide +kernel
theorem dX10_findReach_119 : decode cX10_findReach 119 = .ok (.iload_n 2, 1) := by decide +kernel
theorem dX10_findReach_120 : decode cX10_findReach 120 = .ok (.iand, 1) := by decide +kernel
theorem dX10_findReach_121 : decode cX10_findReach 121 = .ok (.istore_n 3, 1) := by decide +kernel
theorem dX10_findReach_122 : decode cX10_findReach 122 = .ok (.iload_n 3, 1) := by decide +kernel
theorem dX10_findReach_123 : decode cX10_findReach 123 = .ok (.ifCond .eq 7, 3) := by decide +kernel
theorem dX10_findReach_126 : decode cX10_findReach 126 = .ok (.iconst 1, 1) := by decide +kernel
theorem dX10_findReach_127 : decode cX10_findReach 127 = .ok (.goto 4, 3) := by decide +kernel
theorem dX10_findReach_130 : decode cX10_findReach 130 = .ok (.iconst 0, 1) := by decide +kernel
theorem dX10_findReach_131 : decode cX10_findReach 131 = .ok (.istore 4, 2) := by decide +kernel
theorem dX10_findReach_133 : decode cX10_findReach 133 = .ok (.goto (-128), 3) := by decide +kernel
theorem dX10_findReach_136 : decode cX10_findReach 136 = .ok (.return_, 1) := by decide +kernel
theorem dX10_hooks_0 : decode cX10_hooks 0 = .ok (.iload_n 1, 1) := by decide +kernel
theorem dX10_hooks_1 : decode cX10_hooks 1 = .ok (.iload_n 2, 1) := by decide +kernel
theorem dX10_hooks_2 : decode cX10_hooks 2 = .ok (.ior, 1) := by decide +kernel
theorem dX10_hooks_3 : decode cX10_hooks 3 = .ok (.istore_n 3, 1) := by decide +kernel
theorem dX10_hooks_4 : decode cX10_hooks 4 = .ok (.aload_n 0, 1) := by decide +kernel
theorem dX10_hooks_5 : decode cX10_hooks 5 = .ok (.iload_n 3, 1) := by decide +kernel
theorem dX10_hooks_6 : decode cX10_hooks 6 = .ok (.invokevirtual 237, 3) := by decide +kernel
theorem dX10_hooks_9 : decode cX10_hooks 9 = .ok (.istore 4, 2) := by decide +kernel
theorem dX10_hooks_11 : decode cX10_hooks 11 = .ok (.iconst 0, 1) := by decide +kernel
theorem dX10_hooks_12 : decode cX10_hooks 12 = .ok (.istore 5, 2) := by decide +kernel
theorem dX10_hooks_14 : decode cX10_hooks 14 = .ok (.iconst 0, 1) := by decide +kernel
theorem dX10_hooks_15 : decode cX10_hooks 15 = .ok (.istore 6, 2) := by decide +kernel
theorem dX10_hooks_17 : decode cX10_hooks 17 = .ok (.iload 6, 2) := by decide +kernel
theorem dX10_hooks_19 : decode cX10_hooks 19 = .ok (.aload_n 0, 1) := by decide +kernel
theorem dX10_hooks_20 : decode cX10_hooks 20 = .ok (.getfield 174, 3) := by decide +kernel
theorem dX10_hooks_23 : decode cX10_hooks 23 = .ok (.if_icmp .ge 78, 3) := by decide +kernel
theorem dX10_hooks_26 : decode cX10_hooks 26 = .ok (.iload_n 3, 1) := by decide +kernel
theorem dX10_hooks_27 : decode cX10_hooks 27 = .ok (.iconst 1, 1) := by decide +kernel
theorem dX10_hooks_28 : decode cX10_hooks 28 = .ok (.iload 6, 2) := by decide +kernel
theorem dX10_hooks_30 : decode cX10_hooks 30 = .ok (.ishl, 1) := by decide +kernel
theorem dX10_hooks_31 : decode cX10_hooks 31 = .ok (.iconst (-1), 1) := by decide +kernel
theorem dX10_hooks_32 : decode cX10_hooks 32 = .ok (.ixor, 1) := by decide +kernel
theorem dX10_hooks_33 : decode cX10_hooks 33 = .ok (.iand, 1) := by decide +kernel
theorem dX10_hooks_34 : decode cX10_hooks 34 = .ok (.istore 7, 2) := by decide +kernel
theorem dX10_hooks_36 : decode cX10_hooks 36 = .ok (.iload 5, 2) := by decide +kernel
theorem dX10_hooks_38 : decode cX10_hooks 38 = .ok (.ifCond .ne 50, 3) := by decide +kernel
theorem dX10_hooks_41 : decode cX10_hooks 41 = .ok (.iload_n 2, 1) := by decide +kernel
theorem dX10_hooks_42 : decode cX10_hooks 42 = .ok (.iload 6, 2) := by decide +kernel
theorem dX10_hooks_44 : decode cX10_hooks 44 = .ok (.invokestatic 143, 3) := by decide +kernel
theorem dX10_hooks_47 : decode cX10_hooks 47 = .ok (.ifCond .eq 45, 3) := by decide +kernel
theorem dX10_hooks_50 : decode cX10_hooks 50 = .ok (.aload_n 0, 1) := by decide +kernel
theorem dX10_hooks_51 : decode cX10_hooks 51 = .ok (.iload 6, 2) := by decide +kernel
theorem dX10_hooks_53 : decode cX10_hooks 53 = .ok (.iconst 3, 1) := by decide +kernel
theorem dX10_hooks_54 : decode cX10_hooks 54 = .ok (.invokevirtual 199, 3) := by decide +kernel
theorem dX10_hooks_57 : decode cX10_hooks 57 = .ok (.iload 4, 2) := by decide +kernel
theorem dX10_hooks_59 : decode cX10_hooks 59 = .ok (.iand, 1) := by decide +kernel
theorem dX10_hooks_60 : decode cX10_hooks 60 = .ok (.ifCond .eq 32, 3) := by decide +kernel
theorem dX10_hooks_63 : decode cX10_hooks 63 = .ok (.aload_n 0, 1) := by decide +kernel
theorem dX10_hooks_64 : decode cX10_hooks 64 = .ok (.getfield 64, 3) := by decide +kernel
theorem dX10_hooks_67 : decode cX10_hooks 67 = .ok (.iload 7, 2) := by decide +kernel
theorem dX10_hooks_69 : decode cX10_hooks 69 = .ok (.baload, 1) := by decide +kernel
theorem dX10_hooks_70 : decode cX10_hooks 70 = .ok (.ifCond .eq 22, 3) := by decide +kernel
theorem dX10_hooks_73 : decode cX10_hooks 73 = .ok (.aload_n 0, 1) := by decide +kernel
theorem dX10_hooks_74 : decode cX10_hooks 74 = .ok (.getfield 49, 3) := by decide +kernel
theorem dX10_hooks_77 : decode cX10_hooks 77 = .ok (.iload 7, 2) := by decide +kernel
theorem dX10_hooks_79 : decode cX10_hooks 79 = .ok (.iaload, 1) := by decide +kernel
theorem dX10_hooks_80 : decode cX10_hooks 80 = .ok (.iload 6, 2) := by decide +kernel
theorem dX10_hooks_82 : decode cX10_hooks 82 = .ok (.invokestatic 143, 3) := by decide +kernel
theorem dX10_hooks_85 : decode cX10_hooks 85 = .ok (.ifCond .eq 7, 3) := by decide +kernel
theorem dX10_hooks_88 : decode cX10_hooks 88 = .ok (.iconst 1, 1) := by decide +kernel
theorem dX10_hooks_89 : decode cX10_hooks 89 = .ok (.goto 4, 3) := by decide +kernel
theorem dX10_hooks_92 : decode cX10_hooks 92 = .ok (.iconst 0, 1) := by decide +kernel
theorem dX10_hooks_93 : decode cX10_hooks 93 = .ok (.istore 5, 2) := by decide +kernel
theorem dX10_hooks_95 : decode cX10_hooks 95 = .ok (.iinc 6 1, 3) := by decide +kernel
theorem dX10_hooks_98 : decode cX10_hooks 98 = .ok (.goto (-81), 3) := by decide +kernel
theorem dX10_hooks_101 : decode cX10_hooks 101 = .ok (.iload 5, 2) := by decide +kernel
theorem dX10_hooks_103 : decode cX10_hooks 103 = .ok (.ireturn, 1) := by decide +kernel
theorem dX10_findWorths_0 : decode cX10_findWorths 0 = .ok (.aload_n 0, 1) := by decide +kernel
theorem dX10_findWorths_1 : decode cX10_findWorths 1 = .ok (.iload_n 1, 1) := by decide +kernel
theorem dX10_findWorths_2 : decode cX10_findWorths 2 = .ok (.iload_n 2, 1) := by decide +kernel
theorem dX10_findWorths_3 : decode cX10_findWorths 3 = .ok (.invokevirtual 272, 3) := by decide +kernel
theorem dX10_findWorths_6 : decode cX10_findWorths 6 = .ok (.iload_n 2, 1) := by decide +kernel
theorem dX10_findWorths_7 : decode cX10_findWorths 7 = .ok (.istore_n 3, 1) := by decide +kernel
theorem dX10_findWorths_8 : decode cX10_findWorths 8 = .ok (.iload_n 3, 1) := by decide +kernel
theorem dX10_findWorths_9 : decode cX10_findWorths 9 = .ok (.ifCond .le 123, 3) := by decide +kernel
theorem dX10_findWorths_12 : decode cX10_findWorths 12 = .ok (.aload_n 0, 1) := by decide +kernel
theorem dX10_findWorths_13 : decode cX10_findWorths 13 = .ok (.getfield 64, 3) := by decide +kernel
theorem dX10_findWorths_16 : decode cX10_findWorths 16 = .ok (.iload_n 1, 1) := by decide +kernel
theorem dX10_findWorths_17 : decode cX10_findWorths 17 = .ok (.iload_n 3, 1) := by decide +kernel
theorem dX10_findWorths_18 : decode cX10_findWorths 18 = .ok (.ior, 1) := by decide +kernel
theorem dX10_findWorths_19 : decode cX10_findWorths 19 = .ok (.baload, 1) := by decide +kernel
theorem dX10_findWorths_20 : decode cX10_findWorths 20 = .ok (.ifCond .eq 42, 3) := by decide +kernel
theorem dX10_findWorths_23 : decode cX10_findWorths 23 = .ok (.iload_n 3, 1) := by decide +kernel
theorem dX10_findWorths_24 : decode cX10_findWorths 24 = .ok (.invokestatic 208, 3) := by decide +kernel
theorem dX10_findWorths_27 : decode cX10_findWorths 27 = .ok (.bipush 6, 2) := by decide +kernel
theorem dX10_findWorths_29 : decode cX10_findWorths 29 = .ok (.if_icmp .gt 33, 3) := by decide +kernel
theorem dX10_findWorths_32 : decode cX10_findWorths 32 = .ok (.aload_n 0, 1) := by decide +kernel
theorem dX10_findWorths_33 : decode cX10_findWorths 33 = .ok (.iload_n 3, 1) := by decide +kernel
theorem dX10_findWorths_34 : decode cX10_findWorths 34 = .ok (.invokevirtual 211, 3) := by decide +kernel
theorem dX10_findWorths_37 : decode cX10_findWorths 37 = .ok (.i2l, 1) := by decide +kernel
theorem dX10_findWorths_38 : decode cX10_findWorths 38 = .ok (.aload_n 0, 1) := by decide +kernel
theorem dX10_findWorths_39 : decode cX10_findWorths 39 = .ok (.getfield 22, 3) := by decide +kernel
theorem dX10_findWorths_42 : decode cX10_findWorths 42 = .ok (.iconst 0, 1) := by decide +kernel
theorem dX10_findWorths_43 : decode cX10_findWorths 43 = .ok (.iaload, 1) := by decide +kernel
theorem dX10_findWorths_44 : decode cX10_findWorths 44 = .ok (.i2l, 1) := by decide +kernel
theorem dX10_findWorths_45 : decode cX10_findWorths 45 = .ok (.aload_n 0, 1) := by decide +kernel
theorem dX10_findWorths_46 : decode cX10_findWorths 46 = .ok (.getfield 22, 3) := by decide +kernel
theorem dX10_findWorths_49 : decode cX10_findWorths 49 = .ok (.iconst 1, 1) := by decide +kernel
theorem dX10_findWorths_50 : decode cX10_findWorths 50 = .ok (.iaload, 1) := by decide +kernel
theorem dX10_findWorths_51 : decode cX10_findWorths 51 = .ok (.i2l, 1) := by decide +kernel
theorem dX10_findWorths_52 : decode cX10_findWorths 52 = .ok (.invokestatic 99, 3) := by decide +kernel
theorem dX10_findWorths_55 : decode cX10_findWorths 55 = .ok (.ifCond .eq 7, 3) := by decide +kernel
theorem dX10_findWorths_58 : decode cX10_findWorths 58 = .ok (.iconst 1, 1) := by decide +kernel
theorem dX10_findWorths_59 : decode cX10_findWorths 59 = .ok (.goto 4, 3) := by decide +kernel
theorem dX10_findWorths_62 : decode cX10_findWorths 62 = .ok (.iconst 0, 1) := by decide +kernel
theorem dX10_findWorths_63 : decode cX10_findWorths 63 = .ok (.istore 4, 2) := by decide +kernel
theorem dX10_findWorths_65 : decode cX10_findWorths 65 = .ok (.aload_n 0, 1) := by decide +kernel
theorem dX10_findWorths_66 : decode cX10_findWorths 66 = .ok (.getfield 67, 3) := by decide +kernel
theorem dX10_findWorths_69 : decode cX10_findWorths 69 = .ok (.iload_n 3, 1) := by decide +kernel
theorem dX10_findWorths_70 : decode cX10_findWorths 70 = .ok (.iload 4, 2) := by decide +kernel
theorem dX10_findWorths_72 : decode cX10_findWorths 72 = .ok (.ifCond .ne 7, 3) := by decide +kernel
theorem dX10_findWorths_75 : decode cX10_findWorths 75 = .ok (.iconst (-1), 1) := by decide +kernel
theorem dX10_findWorths_76 : decode cX10_findWorths 76 = .ok (.goto 46, 3) := by decide +kernel
theorem dX10_findWorths_79 : decode cX10_findWorths 79 = .ok (.aload_n 0, 1) := by decide +kernel
theorem dX10_findWorths_80 : decode cX10_findWorths 80 = .ok (.iload_n 3, 1) := by decide +kernel
theorem dX10_findWorths_81 : decode cX10_findWorths 81 = .ok (.invokevirtual 253, 3) := by decide +kernel
theorem dX10_findWorths_84 : decode cX10_findWorths 84 = .ok (.aload_n 0, 1) := by decide +kernel
theorem dX10_findWorths_85 : decode cX10_findWorths 85 = .ok (.getfield 22, 3) := by decide +kernel
theorem dX10_findWorths_88 : decode cX10_findWorths 88 = .ok (.iconst 5, 1) := by decide +kernel
theorem dX10_findWorths_89 : decode cX10_findWorths 89 = .ok (.iaload, 1) := by decide +kernel
theorem dX10_findWorths_90 : decode cX10_findWorths 90 = .ok (.aload_n 0, 1) := by decide +kernel
theorem dX10_findWorths_91 : decode cX10_findWorths 91 = .ok (.iload_n 1, 1) := by decide +kernel
theorem dX10_findWorths_92 : decode cX10_findWorths 92 = .ok (.iload_n 3, 1) := by decide +kernel
theorem dX10_findWorths_93 : decode cX10_findWorths 93 = .ok (.ior, 1) := by decide +kernel
theorem dX10_findWorths_94 : decode cX10_findWorths 94 = .ok (.invokevirtual 237, 3) := by decide +kernel
theorem dX10_findWorths_97 : decode cX10_findWorths 97 = .ok (.invokestatic 208, 3) := by decide +kernel
theorem dX10_findWorths_100 : decode cX10_findWorths 100 = .ok (.imul, 1) := by decide +kernel
theorem dX10_findWorths_101 : decode cX10_findWorths 101 = .ok (.iadd, 1) := by decide +kernel
theorem dX10_findWorths_102 : decode cX10_findWorths 102 = .ok (.aload_n 0, 1) := by decide +kernel
theorem dX10_findWorths_103 : decode cX10_findWorths 103 = .ok (.iload_n 1, 1) := by decide +kernel
theorem dX10_findWorths_104 : decode cX10_findWorths 104 = .ok (.iload_n 3, 1) := by decide +kernel
theorem dX10_findWorths_105 : decode cX10_findWorths 105 = .ok (.invokevirtual 276, 3) := by decide +kernel
theorem dX10_findWorths_108 : decode cX10_findWorths 108 = .ok (.ifCond .eq 12, 3) := by decide +kernel
theorem dX10_findWorths_111 : decode cX10_findWorths 111 = .ok (.aload_n 0, 1) := by decide +kernel
theorem dX10_findWorths_112 : decode cX10_findWorths 112 = .ok (.getfield 22, 3) := by decide +kernel
theorem dX10_findWorths_115 : decode cX10_findWorths 115 = .ok (.iconst 4, 1) := by decide +kernel
theorem dX10_findWorths_116 : decode cX10_findWorths 116 = .ok (.iaload, 1) := by decide +kernel
theorem dX10_findWorths_117 : decode cX10_findWorths 117 = .ok (.goto 4, 3) := by decide +kernel
theorem dX10_findWorths_120 : decode cX10_findWorths 120 = .ok (.iconst 0, 1) := by decide +kernel
theorem dX10_findWorths_121 : decode cX10_findWorths 121 = .ok (.iadd, 1) := by decide +kernel
theorem dX10_findWorths_122 : decode cX10_findWorths 122 = .ok (.iastore, 1) := by decide +kernel
theorem dX10_findWorths_123 : decode cX10_findWorths 123 = .ok (.iload_n 3, 1) := by decide +kernel
theorem dX10_findWorths_124 : decode cX10_findWorths 124 = .ok (.iconst 1, 1) := by decide +kernel
theorem dX10_findWorths_125 : decode cX10_findWorths 125 = .ok (.isub, 1) := by decide +kernel
theorem dX10_findWorths_126 : decode cX10_findWorths 126 = .ok (.iload_n 2, 1) := by decide +kernel
theorem dX10_findWorths_127 : decode cX10_findWorths 127 = .ok (.iand, 1) := by decide +kernel
theorem dX10_findWorths_128 : decode cX10_findWorths 128 = .ok (.istore_n 3, 1) := by decide +kernel
theorem dX10_findWorths_129 : decode cX10_findWorths 129 = .ok (.goto (-121), 3) := by decide +kernel
theorem dX10_findWorths_132 : decode cX10_findWorths 132 = .ok (.return_, 1) := by decide +kernel
theorem dX10_findPlan_0 : decode cX10_findPlan 0 = .ok (.aload_n 0, 1) := by decide +kernel
theorem dX10_findPlan_1 : decode cX10_findPlan 1 = .ok (.invokevirtual 226, 3) := by decide +kernel
theorem dX10_findPlan_4 : decode cX10_findPlan 4 = .ok (.iload_n 2, 1) := by decide +kernel
theorem dX10_findPlan_5 : decode cX10_findPlan 5 = .ok (.istore_n 3, 1) := by decide +kernel
theorem dX10_findPlan_6 : decode cX10_findPlan 6 = .ok (.iload_n 3, 1) := by decide +kernel
theorem dX10_findPlan_7 : decode cX10_findPlan 7 = .ok (.ifCond .lt 202, 3) := by decide +kernel
theorem dX10_findPlan_10 : decode cX10_findPlan 10 = .ok (.iload_n 3, 1) := by decide +kernel
theorem dX10_findPlan_11 : decode cX10_findPlan 11 = .ok (.iload_n 2, 1) := by decide +kernel
theorem dX10_findPlan_12 : decode cX10_findPlan 12 = .ok (.iconst (-1), 1) := by decide +kernel
theorem dX10_findPlan_13 : decode cX10_findPlan 13 = .ok (.ixor, 1) := by decide +kernel
theorem dX10_findPlan_14 : decode cX10_findPlan 14 = .ok (.iand, 1) := by decide +kernel
theorem dX10_findPlan_15 : decode cX10_findPlan 15 = .ok (.ifCond .ne 188, 3) := by decide +kernel
theorem dX10_findPlan_18 : decode cX10_findPlan 18 = .ok (.iload_n 2, 1) := by decide +kernel
theorem dX10_findPlan_19 : decode cX10_findPlan 19 = .ok (.iload_n 3, 1) := by decide +kernel
theorem dX10_findPlan_20 : decode cX10_findPlan 20 = .ok (.iconst (-1), 1) := by decide +kernel
theorem dX10_findPlan_21 : decode cX10_findPlan 21 = .ok (.ixor, 1) := by decide +kernel
theorem dX10_findPlan_22 : decode cX10_findPlan 22 = .ok (.iand, 1) := by decide +kernel
theorem dX10_findPlan_23 : decode cX10_findPlan 23 = .ok (.istore 4, 2) := by decide +kernel
theorem dX10_findPlan_25 : decode cX10_findPlan 25 = .ok (.aload_n 0, 1) := by decide +kernel
theorem dX10_findPlan_26 : decode cX10_findPlan 26 = .ok (.aload_n 0, 1) := by decide +kernel
theorem dX10_findPlan_27 : decode cX10_findPlan 27 = .ok (.getfield 180, 3) := by decide +kernel
theorem dX10_findPlan_30 : decode cX10_findPlan 30 = .ok (.iload_n 3, 1) := by decide +kernel
theorem dX10_findPlan_31 : decode cX10_findPlan 31 = .ok (.ior, 1) := by decide +kernel
theorem dX10_findPlan_32 : decode cX10_findPlan 32 = .ok (.iload 4, 2) := by decide +kernel
theorem dX10_findPlan_34 : decode cX10_findPlan 34 = .ok (.invokevirtual 279, 3) := by decide +kernel
theorem dX10_findPlan_37 : decode cX10_findPlan 37 = .ok (.iconst 0, 1) := by decide +kernel
theorem dX10_findPlan_38 : decode cX10_findPlan 38 = .ok (.istore 5, 2) := by decide +kernel
theorem dX10_findPlan_40 : decode cX10_findPlan 40 = .ok (.iload 5, 2) := by decide +kernel
theorem dX10_findPlan_42 : decode cX10_findPlan 42 = .ok (.iload_n 1, 1) := by decide +kernel
theorem dX10_findPlan_43 : decode cX10_findPlan 43 = .ok (.if_icmp .gt 160, 3) := by decide +kernel
theorem dX10_findPlan_46 : decode cX10_findPlan 46 = .ok (.sipush 1024, 3) := by decide +kernel
theorem dX10_findPlan_49 : decode cX10_findPlan 49 = .ok (.iload 5, 2) := by decide +kernel
theorem dX10_findPlan_51 : decode cX10_findPlan 51 = .ok (.imul, 1) := by decide +kernel
theorem dX10_findPlan_52 : decode cX10_findPlan 52 = .ok (.iload_n 3, 1) := by decide +kernel
theorem dX10_findPlan_53 : decode cX10_findPlan 53 = .ok (.iadd, 1) := by decide +kernel
theorem dX10_findPlan_54 : decode cX10_findPlan 54 = .ok (.istore 6, 2) := by decide +kernel
theorem dX10_findPlan_56 : decode cX10_findPlan 56 = .ok (.aload_n 0, 1) := by decide +kernel
theorem dX10_findPlan_57 : decode cX10_findPlan 57 = .ok (.getfield 70, 3) := by decide +kernel
theorem dX10_findPlan_60 : decode cX10_findPlan 60 = .ok (.iload 6, 2) := by decide +kernel
theorem dX10_findPlan_62 : decode cX10_findPlan 62 = .ok (.iload 5, 2) := by decide +kernel
theorem dX10_findPlan_64 : decode cX10_findPlan 64 = .ok (.ifCond .ne 12, 3) := by decide +kernel
theorem dX10_findPlan_67 : decode cX10_findPlan 67 = .ok (.iload_n 3, 1) := by decide +kernel
theorem dX10_findPlan_68 : decode cX10_findPlan 68 = .ok (.iload_n 2, 1) := by decide +kernel
theorem dX10_findPlan_69 : decode cX10_findPlan 69 = .ok (.if_icmp .ne 7, 3) := by decide +kernel
theorem dX10_findPlan_72 : decode cX10_findPlan 72 = .ok (.iconst 0, 1) := by decide +kernel
theorem dX10_findPlan_73 : decode cX10_findPlan 73 = .ok (.goto 4, 3) := by decide +kernel
theorem dX10_findPlan_76 : decode cX10_findPlan 76 = .ok (.iconst (-1), 1) := by decide +kernel
theorem dX10_findPlan_77 : decode cX10_findPlan 77 = .ok (.iastore, 1) := by decide +kernel
theorem dX10_findPlan_78 : decode cX10_findPlan 78 = .ok (.aload_n 0, 1) := by decide +kernel
theorem dX10_findPlan_79 : decode cX10_findPlan 79 = .ok (.getfield 73, 3) := by decide +kernel
theorem dX10_findPlan_82 : decode cX10_findPlan 82 = .ok (.iload 6, 2) := by decide +kernel
theorem dX10_findPlan_84 : decode cX10_findPlan 84 = .ok (.iconst (-1), 1) := by decide +kernel
theorem dX10_findPlan_85 : decode cX10_findPlan 85 = .ok (.iastore, 1) := by decide +kernel
theorem dX10_findPlan_86 : decode cX10_findPlan 86 = .ok (.iload 4, 2) := by decide +kernel
theorem dX10_findPlan_88 : decode cX10_findPlan 88 = .ok (.istore 7, 2) := by decide +kernel
theorem dX10_findPlan_90 : decode cX10_findPlan 90 = .ok (.iload 7, 2) := by decide +kernel
theorem dX10_findPlan_92 : decode cX10_findPlan 92 = .ok (.ifCond .le 105, 3) := by decide +kernel
theorem dX10_findPlan_95 : decode cX10_findPlan 95 = .ok (.iload 5, 2) := by decide +kernel
theorem dX10_findPlan_97 : decode cX10_findPlan 97 = .ok (.ifCond .le 100, 3) := by decide +kernel
theorem dX10_findPlan_100 : decode cX10_findPlan 100 = .ok (.aload_n 0, 1) := by decide +kernel
theorem dX10_findPlan_101 : decode cX10_findPlan 101 = .ok (.getfield 67, 3) := by decide +kernel
theorem dX10_findPlan_104 : decode cX10_findPlan 104 = .ok (.iload 7, 2) := by decide +kernel
theorem dX10_findPlan_106 : decode cX10_findPlan 106 = .ok (.iaload, 1) := by decide +kernel
theorem dX10_findPlan_107 : decode cX10_findPlan 107 = .ok (.ifCond .ge 7, 3) := by decide +kernel
theorem dX10_findPlan_110 : decode cX10_findPlan 110 = .ok (.iconst (-1), 1) := by decide +kernel
theorem dX10_findPlan_111 : decode cX10_findPlan 111 = .ok (.goto 21, 3) := by decide +kernel
theorem dX10_findPlan_114 : decode cX10_findPlan 114 = .ok (.aload_n 0, 1) := by decide +kernel
theorem dX10_findPlan_115 : decode cX10_findPlan 115 = .ok (.getfield 70, 3) := by decide +kernel
theorem dX10_findPlan_118 : decode cX10_findPlan 118 = .ok (.sipush 1024, 3) := by decide +kernel
theorem dX10_findPlan_121 : decode cX10_findPlan 121 = .ok (.iload 5, 2) := by decide +kernel
theorem dX10_findPlan_123 : decode cX10_findPlan 123 = .ok (.iconst 1, 1) := by decide +kernel
theorem dX10_findPlan_124 : decode cX10_findPlan 124 = .ok (.isub, 1) := by decide +kernel
theorem dX10_findPlan_125 : decode cX10_findPlan 125 = .ok (.imul, 1) := by decide +kernel
theorem dX10_findPlan_126 : decode cX10_findPlan 126 = .ok (.iload_n 3, 1) := by decide +kernel
theorem dX10_findPlan_127 : decode cX10_findPlan 127 = .ok (.iload 7, 2) := by decide +kernel
theorem dX10_findPlan_129 : decode cX10_findPlan 129 = .ok (.ior, 1) := by decide +kernel
theorem dX10_findPlan_130 : decode cX10_findPlan 130 = .ok (.iadd, 1) := by decide +kernel
theorem dX10_findPlan_131 : decode cX10_findPlan 131 = .ok (.iaload, 1) := by decide +kernel
theorem dX10_findPlan_132 : decode cX10_findPlan 132 = .ok (.istore 8, 2) := by decide +kernel
theorem dX10_findPlan_134 : decode cX10_findPlan 134 = .ok (.iload 8, 2) := by decide +kernel
theorem dX10_findPlan_136 : decode cX10_findPlan 136 = .ok (.ifCond .lt 49, 3) := by decide +kernel
theorem dX10_findPlan_139 : decode cX10_findPlan 139 = .ok (.iload 8, 2) := by decide +kernel
theorem dX10_findPlan_141 : decode cX10_findPlan 141 = .ok (.aload_n 0, 1) := by decide +kernel
theorem dX10_findPlan_142 : decode cX10_findPlan 142 = .ok (.getfield 67, 3) := by decide +kernel
theorem dX10_findPlan_145 : decode cX10_findPlan 145 = .ok (.iload 7, 2) := by decide +kernel
theorem dX10_findPlan_147 : decode cX10_findPlan 147 = .ok (.iaload, 1) := by decide +kernel
theorem dX10_findPlan_148 : decode cX10_findPlan 148 = .ok (.iadd, 1) := by decide +kernel
theorem dX10_findPlan_149 : decode cX10_findPlan 149 = .ok (.aload_n 0, 1) := by decide +kernel
theorem dX10_findPlan_150 : decode cX10_findPlan 150 = .ok (.getfield 70, 3) := by decide +kernel
theorem dX10_findPlan_153 : decode cX10_findPlan 153 = .ok (.iload 6, 2) := by decide +kernel
theorem dX10_findPlan_155 : decode cX10_findPlan 155 = .ok (.iaload, 1) := by decide +kernel
theorem dX10_findPlan_156 : decode cX10_findPlan 156 = .ok (.if_icmp .lt 29, 3) := by decide +kernel
theorem dX10_findPlan_159 : decode cX10_findPlan 159 = .ok (.aload_n 0, 1) := by decide +kernel
theorem dX10_findPlan_160 : decode cX10_findPlan 160 = .ok (.getfield 70, 3) := by decide +kernel
theorem dX10_findPlan_163 : decode cX10_findPlan 163 = .ok (.iload 6, 2) := by decide +kernel
theorem dX10_findPlan_165 : decode cX10_findPlan 165 = .ok (.iload 8, 2) := by decide +kernel
theorem dX10_findPlan_167 : decode cX10_findPlan 167 = .ok (.aload_n 0, 1) := by decide +kernel
theorem dX10_findPlan_168 : decode cX10_findPlan 168 = .ok (.getfield 67, 3) := by decide +kernel
theorem dX10_findPlan_171 : decode cX10_findPlan 171 = .ok (.iload 7, 2) := by decide +kernel
theorem dX10_findPlan_173 : decode cX10_findPlan 173 = .ok (.iaload, 1) := by decide +kernel
theorem dX10_findPlan_174 : decode cX10_findPlan 174 = .ok (.iadd, 1) := by decide +kernel
theorem dX10_findPlan_175 : decode cX10_findPlan 175 = .ok (.iastore, 1) := by decide +kernel
theorem dX10_findPlan_176 : decode cX10_findPlan 176 = .ok (.aload_n 0, 1) := by decide +kernel
theorem dX10_findPlan_177 : decode cX10_findPlan 177 = .ok (.getfield 73, 3) := by decide +kernel
theorem dX10_findPlan_180 : decode cX10_findPlan 180 = .ok (.iload 6, 2) := by decide +kernel
theorem dX10_findPlan_182 : decode cX10_findPlan 182 = .ok (.iload 7, 2) := by decide +kernel
theorem dX10_findPlan_184 : decode cX10_findPlan 184 = .ok (.iastore, 1) := by decide +kernel
theorem dX10_findPlan_185 : decode cX10_findPlan 185 = .ok (.iload 7, 2) := by decide +kernel
theorem dX10_findPlan_187 : decode cX10_findPlan 187 = .ok (.iconst 1, 1) := by decide +kernel
theorem dX10_findPlan_188 : decode cX10_findPlan 188 = .ok (.isub, 1) := by decide +kernel
theorem dX10_findPlan_189 : decode cX10_findPlan 189 = .ok (.iload 4, 2) := by decide +kernel
theorem dX10_findPlan_191 : decode cX10_findPlan 191 = .ok (.iand, 1) := by decide +kernel
theorem dX10_findPlan_192 : decode cX10_findPlan 192 = .ok (.istore 7, 2) := by decide +kernel
theorem dX10_findPlan_194 : decode cX10_findPlan 194 = .ok (.goto (-104), 3) := by decide +kernel
theorem dX10_findPlan_197 : decode cX10_findPlan 197 = .ok (.iinc 5 1, 3) := by decide +kernel
theorem dX10_findPlan_200 : decode cX10_findPlan 200 = .ok (.goto (-160), 3) := by decide +kernel
theorem dX10_findPlan_203 : decode cX10_findPlan 203 = .ok (.iinc 3 (-1), 3) := by decide +kernel
theorem dX10_findPlan_206 : decode cX10_findPlan 206 = .ok (.goto (-200), 3) := by decide +kernel
theorem dX10_findPlan_209 : decode cX10_findPlan 209 = .ok (.return_, 1) := by decide +kernel
theorem dX10_plan_0 : decode cX10_plan 0 = .ok (.aload_n 0, 1) := by decide +kernel
theorem dX10_plan_1 : decode cX10_plan 1 = .ok (.iload_n 2, 1) := by decide +kernel
theorem dX10_plan_2 : decode cX10_plan 2 = .ok (.invokevirtual 220, 3) := by decide +kernel
theorem dX10_plan_5 : decode cX10_plan 5 = .ok (.ifCond .ne 12, 3) := by decide +kernel
theorem dX10_plan_8 : decode cX10_plan 8 = .ok (.iload_n 2, 1) := by decide +kernel
theorem dX10_plan_9 : decode cX10_plan 9 = .ok (.aload_n 0, 1) := by decide +kernel
theorem dX10_plan_10 : decode cX10_plan 10 = .ok (.getfield 180, 3) := by decide +kernel
theorem dX10_plan_13 : decode cX10_plan 13 = .ok (.iand, 1) := by decide +kernel
theorem dX10_plan_14 : decode cX10_plan 14 = .ok (.ifCond .eq 7, 3) := by decide +kernel
theorem dX10_plan_17 : decode cX10_plan 17 = .ok (.sipush (-1001), 3) := by decide +kernel
theorem dX10_plan_20 : decode cX10_plan 20 = .ok (.ireturn, 1) := by decide +kernel
theorem dX10_plan_21 : decode cX10_plan 21 = .ok (.iload_n 1, 1) := by decide +kernel
theorem dX10_plan_22 : decode cX10_plan 22 = .ok (.i2l, 1) := by decide +kernel
theorem dX10_plan_23 : decode cX10_plan 23 = .ok (.lconst 1, 1) := by decide +kernel
theorem dX10_plan_24 : decode cX10_plan 24 = .ok (.ldc2_w 282, 3) := by decide +kernel
theorem dX10_plan_27 : decode cX10_plan 27 = .ok (.invokestatic 99, 3) := by decide +kernel
theorem dX10_plan_30 : decode cX10_plan 30 = .ok (.ifCond .ne 7, 3) := by decide +kernel
theorem dX10_plan_33 : decode cX10_plan 33 = .ok (.sipush (-1002), 3) := by decide +kernel
theorem dX10_plan_36 : decode cX10_plan 36 = .ok (.ireturn, 1) := by decide +kernel
theorem dX10_plan_37 : decode cX10_plan 37 = .ok (.aload_n 0, 1) := by decide +kernel
theorem dX10_plan_38 : decode cX10_plan 38 = .ok (.iload_n 1, 1) := by decide +kernel
theorem dX10_plan_39 : decode cX10_plan 39 = .ok (.iload_n 2, 1) := by decide +kernel
theorem dX10_plan_40 : decode cX10_plan 40 = .ok (.invokevirtual 284, 3) := by decide +kernel
theorem dX10_plan_43 : decode cX10_plan 43 = .ok (.aload_n 0, 1) := by decide +kernel
theorem dX10_plan_44 : decode cX10_plan 44 = .ok (.getfield 70, 3) := by decide +kernel
theorem dX10_plan_47 : decode cX10_plan 47 = .ok (.sipush 1024, 3) := by decide +kernel
theorem dX10_plan_50 : decode cX10_plan 50 = .ok (.iload_n 1, 1) := by decide +kernel
theorem dX10_plan_51 : decode cX10_plan 51 = .ok (.imul, 1) := by decide +kernel
theorem dX10_plan_52 : decode cX10_plan 52 = .ok (.iaload, 1) := by decide +kernel
theorem dX10_plan_53 : decode cX10_plan 53 = .ok (.ifCond .lt 8, 3) := by decide +kernel
theorem dX10_plan_56 : decode cX10_plan 56 = .ok (.iload_n 3, 1) := by decide +kernel
theorem dX10_plan_57 : decode cX10_plan 57 = .ok (.iconst (-1), 1) := by decide +kernel
theorem dX10_plan_58 : decode cX10_plan 58 = .ok (.if_icmp .ne 14, 3) := by decide +kernel
theorem dX10_plan_61 : decode cX10_plan 61 = .ok (.aload_n 0, 1) := by decide +kernel
theorem dX10_plan_62 : decode cX10_plan 62 = .ok (.getfield 70, 3) := by decide +kernel
theorem dX10_plan_65 : decode cX10_plan 65 = .ok (.sipush 1024, 3) := by decide +kernel
theorem dX10_plan_68 : decode cX10_plan 68 = .ok (.iload_n 1, 1) := by decide +kernel
theorem dX10_plan_69 : decode cX10_plan 69 = .ok (.imul, 1) := by decide +kernel
theorem dX10_plan_70 : decode cX10_plan 70 = .ok (.iaload, 1) := by decide +kernel
theorem dX10_plan_71 : decode cX10_plan 71 = .ok (.ireturn, 1) := by decide +kernel
theorem dX10_plan_72 : decode cX10_plan 72 = .ok (.iconst 0, 1) := by decide +kernel
theorem dX10_plan_73 : decode cX10_plan 73 = .ok (.istore 4, 2) := by decide +kernel
theorem dX10_plan_75 : decode cX10_plan 75 = .ok (.iconst 0, 1) := by decide +kernel
theorem dX10_plan_76 : decode cX10_plan 76 = .ok (.istore 5, 2) := by decide +kernel
theorem dX10_plan_78 : decode cX10_plan 78 = .ok (.iload 5, 2) := by decide +kernel
theorem dX10_plan_80 : decode cX10_plan 80 = .ok (.iload_n 1, 1) := by decide +kernel
theorem dX10_plan_81 : decode cX10_plan 81 = .ok (.if_icmp .ge 43, 3) := by decide +kernel
theorem dX10_plan_84 : decode cX10_plan 84 = .ok (.aload_n 0, 1) := by decide +kernel
theorem dX10_plan_85 : decode cX10_plan 85 = .ok (.getfield 73, 3) := by decide +kernel
theorem dX10_plan_88 : decode cX10_plan 88 = .ok (.sipush 1024, 3) := by decide +kernel
theorem dX10_plan_91 : decode cX10_plan 91 = .ok (.iload_n 1, 1) := by decide +kernel
theorem dX10_plan_92 : decode cX10_plan 92 = .ok (.iload 5, 2) := by decide +kernel
theorem dX10_plan_94 : decode cX10_plan 94 = .ok (.isub, 1) := by decide +kernel
theorem dX10_plan_95 : decode cX10_plan 95 = .ok (.imul, 1) := by decide +kernel
theorem dX10_plan_96 : decode cX10_plan 96 = .ok (.iload 4, 2) := by decide +kernel
theorem dX10_plan_98 : decode cX10_plan 98 = .ok (.iadd, 1) := by decide +kernel
theorem dX10_plan_99 : decode cX10_plan 99 = .ok (.iaload, 1) := by decide +kernel
theorem dX10_plan_100 : decode cX10_plan 100 = .ok (.istore 6, 2) := by decide +kernel
theorem dX10_plan_102 : decode cX10_plan 102 = .ok (.iload 5, 2) := by decide +kernel
theorem dX10_plan_104 : decode cX10_plan 104 = .ok (.iload_n 3, 1) := by decide +kernel
theorem dX10_plan_105 : decode cX10_plan 105 = .ok (.if_icmp .ne 6, 3) := by decide +kernel
theorem dX10_plan_108 : decode cX10_plan 108 = .ok (.iload 6, 2) := by decide +kernel
theorem dX10_plan_110 : decode cX10_plan 110 = .ok (.ireturn, 1) := by decide +kernel
theorem dX10_plan_111 : decode cX10_plan 111 = .ok (.iload 4, 2) := by decide +kernel
theorem dX10_plan_113 : decode cX10_plan 113 = .ok (.iload 6, 2) := by decide +kernel
theorem dX10_plan_115 : decode cX10_plan 115 = .ok (.ior, 1) := by decide +kernel
theorem dX10_plan_116 : decode cX10_plan 116 = .ok (.istore 4, 2) := by decide +kernel
theorem dX10_plan_118 : decode cX10_plan 118 = .ok (.iinc 5 1, 3) := by decide +kernel
theorem dX10_plan_121 : decode cX10_plan 121 = .ok (.goto (-43), 3) := by decide +kernel
theorem dX10_plan_124 : decode cX10_plan 124 = .ok (.iconst (-1), 1) := by decide +kernel
theorem dX10_plan_125 : decode cX10_plan 125 = .ok (.ireturn, 1) := by decide +kernel
theorem dX10_findAll_0 : decode cX10_findAll 0 = .ok (.aload_n 0, 1) := by decide +kernel
theorem dX10_findAll_1 : decode cX10_findAll 1 = .ok (.invokevirtual 226, 3) := by decide +kernel
theorem dX10_findAll_4 : decode cX10_findAll 4 = .ok (.iconst 0, 1) := by decide +kernel
theorem dX10_findAll_5 : decode cX10_findAll 5 = .ok (.istore_n 3, 1) := by decide +kernel
theorem dX10_findAll_6 : decode cX10_findAll 6 = .ok (.iload_n 3, 1) := by decide +kernel
theorem dX10_findAll_7 : decode cX10_findAll 7 = .ok (.sipush 13312, 3) := by decide +kernel
theorem dX10_findAll_10 : decode cX10_findAll 10 = .ok (.if_icmp .ge 16, 3) := by decide +kernel
theorem dX10_findAll_13 : decode cX10_findAll 13 = .ok (.aload_n 0, 1) := by decide +kernel
theorem dX10_findAll_14 : decode cX10_findAll 14 = .ok (.getfield 76, 3) := by decide +kernel
theorem dX10_findAll_17 : decode cX10_findAll 17 = .ok (.iload_n 3, 1) := by decide +kernel
theorem dX10_findAll_18 : decode cX10_findAll 18 = .ok (.iconst (-1), 1) := by decide +kernel
theorem dX10_findAll_19 : decode cX10_findAll 19 = .ok (.iastore, 1) := by decide +kernel
theorem dX10_findAll_20 : decode cX10_findAll 20 = .ok (.iinc 3 1, 3) := by decide +kernel
theorem dX10_findAll_23 : decode cX10_findAll 23 = .ok (.goto (-17), 3) := by decide +kernel
theorem dX10_findAll_26 : decode cX10_findAll 26 = .ok (.aload_n 0, 1) := by decide +kernel
theorem dX10_findAll_27 : decode cX10_findAll 27 = .ok (.getfield 76, 3) := by decide +kernel
theorem dX10_findAll_30 : decode cX10_findAll 30 = .ok (.iconst 0, 1) := by decide +kernel
theorem dX10_findAll_31 : decode cX10_findAll 31 = .ok (.iconst 0, 1) := by decide +kernel
theorem dX10_findAll_32 : decode cX10_findAll 32 = .ok (.iastore, 1) := by decide +kernel
theorem dX10_findAll_33 : decode cX10_findAll 33 = .ok (.iconst 0, 1) := by decide +kernel
theorem dX10_findAll_34 : decode cX10_findAll 34 = .ok (.istore_n 3, 1) := by decide +kernel
theorem dX10_findAll_35 : decode cX10_findAll 35 = .ok (.iload_n 3, 1) := by decide +kernel
theorem dX10_findAll_36 : decode cX10_findAll 36 = .ok (.iload_n 2, 1) := by decide +kernel
theorem dX10_findAll_37 : decode cX10_findAll 37 = .ok (.if_icmp .gt 164, 3) := by decide +kernel
theorem dX10_findAll_40 : decode cX10_findAll 40 = .ok (.iload_n 3, 1) := by decide +kernel
theorem dX10_findAll_41 : decode cX10_findAll 41 = .ok (.iload_n 2, 1) := by decide +kernel
theorem dX10_findAll_42 : decode cX10_findAll 42 = .ok (.iconst (-1), 1) := by decide +kernel
theorem dX10_findAll_43 : decode cX10_findAll 43 = .ok (.ixor, 1) := by decide +kernel
theorem dX10_findAll_44 : decode cX10_findAll 44 = .ok (.iand, 1) := by decide +kernel
theorem dX10_findAll_45 : decode cX10_findAll 45 = .ok (.ifCond .ne 150, 3) := by decide +kernel
theorem dX10_findAll_48 : decode cX10_findAll 48 = .ok (.iload_n 2, 1) := by decide +kernel
theorem dX10_findAll_49 : decode cX10_findAll 49 = .ok (.iload_n 3, 1) := by decide +kernel
theorem dX10_findAll_50 : decode cX10_findAll 50 = .ok (.iconst (-1), 1) := by decide +kernel
theorem dX10_findAll_51 : decode cX10_findAll 51 = .ok (.ixor, 1) := by decide +kernel
theorem dX10_findAll_52 : decode cX10_findAll 52 = .ok (.iand, 1) := by decide +kernel
theorem dX10_findAll_53 : decode cX10_findAll 53 = .ok (.istore 4, 2) := by decide +kernel
theorem dX10_findAll_55 : decode cX10_findAll 55 = .ok (.aload_n 0, 1) := by decide +kernel
theorem dX10_findAll_56 : decode cX10_findAll 56 = .ok (.aload_n 0, 1) := by decide +kernel
theorem dX10_findAll_57 : decode cX10_findAll 57 = .ok (.getfield 180, 3) := by decide +kernel
theorem dX10_findAll_60 : decode cX10_findAll 60 = .ok (.iload_n 3, 1) := by decide +kernel
theorem dX10_findAll_61 : decode cX10_findAll 61 = .ok (.ior, 1) := by decide +kernel
theorem dX10_findAll_62 : decode cX10_findAll 62 = .ok (.iload 4, 2) := by decide +kernel
theorem dX10_findAll_64 : decode cX10_findAll 64 = .ok (.invokevirtual 279, 3) := by decide +kernel
theorem dX10_findAll_67 : decode cX10_findAll 67 = .ok (.iload 4, 2) := by decide +kernel
theorem dX10_findAll_69 : decode cX10_findAll 69 = .ok (.istore 5, 2) := by decide +kernel
theorem dX10_findAll_71 : decode cX10_findAll 71 = .ok (.iload 5, 2) := by decide +kernel
theorem dX10_findAll_73 : decode cX10_findAll 73 = .ok (.ifCond .le 122, 3) := by decide +kernel
theorem dX10_findAll_76 : decode cX10_findAll 76 = .ok (.iconst 0, 1) := by decide +kernel
theorem dX10_findAll_77 : decode cX10_findAll 77 = .ok (.istore 6, 2) := by decide +kernel
theorem dX10_findAll_79 : decode cX10_findAll 79 = .ok (.iload 6, 2) := by decide +kernel
theorem dX10_findAll_81 : decode cX10_findAll 81 = .ok (.iload_n 1, 1) := by decide +kernel
theorem dX10_findAll_82 : decode cX10_findAll 82 = .ok (.if_icmp .ge 101, 3) := by decide +kernel
theorem dX10_findAll_85 : decode cX10_findAll 85 = .ok (.aload_n 0, 1) := by decide +kernel
theorem dX10_findAll_86 : decode cX10_findAll 86 = .ok (.getfield 67, 3) := by decide +kernel
theorem dX10_findAll_89 : decode cX10_findAll 89 = .ok (.iload 5, 2) := by decide +kernel
theorem dX10_findAll_91 : decode cX10_findAll 91 = .ok (.iaload, 1) := by decide +kernel
theorem dX10_findAll_92 : decode cX10_findAll 92 = .ok (.ifCond .lt 91, 3) := by decide +kernel
theorem dX10_findAll_95 : decode cX10_findAll 95 = .ok (.aload_n 0, 1) := by decide +kernel
theorem dX10_findAll_96 : decode cX10_findAll 96 = .ok (.getfield 76, 3) := by decide +kernel
theorem dX10_findAll_99 : decode cX10_findAll 99 = .ok (.sipush 1024, 3) := by decide +kernel
theorem dX10_findAll_102 : decode cX10_findAll 102 = .ok (.iload 6, 2) := by decide +kernel
theorem dX10_findAll_104 : decode cX10_findAll 104 = .ok (.imul, 1) := by decide +kernel
theorem dX10_findAll_105 : decode cX10_findAll 105 = .ok (.iload_n 3, 1) := by decide +kernel
theorem dX10_findAll_106 : decode cX10_findAll 106 = .ok (.iadd, 1) := by decide +kernel
theorem dX10_findAll_107 : decode cX10_findAll 107 = .ok (.iaload, 1) := by decide +kernel
theorem dX10_findAll_108 : decode cX10_findAll 108 = .ok (.istore 7, 2) := by decide +kernel
theorem dX10_findAll_110 : decode cX10_findAll 110 = .ok (.sipush 1024, 3) := by decide +kernel
theorem dX10_findAll_113 : decode cX10_findAll 113 = .ok (.iload 6, 2) := by decide +kernel
theorem dX10_findAll_115 : decode cX10_findAll 115 = .ok (.iconst 1, 1) := by decide +kernel
theorem dX10_findAll_116 : decode cX10_findAll 116 = .ok (.iadd, 1) := by decide +kernel
theorem dX10_findAll_117 : decode cX10_findAll 117 = .ok (.imul, 1) := by decide +kernel
theorem dX10_findAll_118 : decode cX10_findAll 118 = .ok (.iload_n 3, 1) := by decide +kernel
theorem dX10_findAll_119 : decode cX10_findAll 119 = .ok (.iload 5, 2) := by decide +kernel
theorem dX10_findAll_121 : decode cX10_findAll 121 = .ok (.ior, 1) := by decide +kernel
theorem dX10_findAll_122 : decode cX10_findAll 122 = .ok (.iadd, 1) := by decide +kernel
theorem dX10_findAll_123 : decode cX10_findAll 123 = .ok (.istore 8, 2) := by decide +kernel
theorem dX10_findAll_125 : decode cX10_findAll 125 = .ok (.aload_n 0, 1) := by decide +kernel
theorem dX10_findAll_126 : decode cX10_findAll 126 = .ok (.getfield 76, 3) := by decide +kernel
theorem dX10_findAll_129 : decode cX10_findAll 129 = .ok (.iload 8, 2) := by decide +kernel
theorem dX10_findAll_131 : decode cX10_findAll 131 = .ok (.iload 7, 2) := by decide +kernel
theorem dX10_findAll_133 : decode cX10_findAll 133 = .ok (.ifCond .lt 36, 3) := by decide +kernel
theorem dX10_findAll_136 : decode cX10_findAll 136 = .ok (.iload 7, 2) := by decide +kernel
theorem dX10_findAll_138 : decode cX10_findAll 138 = .ok (.aload_n 0, 1) := by decide +kernel
theorem dX10_findAll_139 : decode cX10_findAll 139 = .ok (.getfield 67, 3) := by decide +kernel
theorem dX10_findAll_142 : decode cX10_findAll 142 = .ok (.iload 5, 2) := by decide +kernel
theorem dX10_findAll_144 : decode cX10_findAll 144 = .ok (.iaload, 1) := by decide +kernel
theorem dX10_findAll_145 : decode cX10_findAll 145 = .ok (.iadd, 1) := by decide +kernel
theorem dX10_findAll_146 : decode cX10_findAll 146 = .ok (.aload_n 0, 1) := by decide +kernel
theorem dX10_findAll_147 : decode cX10_findAll 147 = .ok (.getfield 76, 3) := by decide +kernel
theorem dX10_findAll_150 : decode cX10_findAll 150 = .ok (.iload 8, 2) := by decide +kernel
theorem dX10_findAll_152 : decode cX10_findAll 152 = .ok (.iaload, 1) := by decide +kernel
theorem dX10_findAll_153 : decode cX10_findAll 153 = .ok (.if_icmp .le 16, 3) := by decide +kernel
theorem dX10_findAll_156 : decode cX10_findAll 156 = .ok (.iload 7, 2) := by decide +kernel
theorem dX10_findAll_158 : decode cX10_findAll 158 = .ok (.aload_n 0, 1) := by decide +kernel
theorem dX10_findAll_159 : decode cX10_findAll 159 = .ok (.getfield 67, 3) := by decide +kernel
theorem dX10_findAll_162 : decode cX10_findAll 162 = .ok (.iload 5, 2) := by decide +kernel
theorem dX10_findAll_164 : decode cX10_findAll 164 = .ok (.iaload, 1) := by decide +kernel
theorem dX10_findAll_165 : decode cX10_findAll 165 = .ok (.iadd, 1) := by decide +kernel
theorem dX10_findAll_166 : decode cX10_findAll 166 = .ok (.goto 10, 3) := by decide +kernel
theorem dX10_findAll_169 : decode cX10_findAll 169 = .ok (.aload_n 0, 1) := by decide +kernel
theorem dX10_findAll_170 : decode cX10_findAll 170 = .ok (.getfield 76, 3) := by decide +kernel
theorem dX10_findAll_173 : decode cX10_findAll 173 = .ok (.iload 8, 2) := by decide +kernel
theorem dX10_findAll_175 : decode cX10_findAll 175 = .ok (.iaload, 1) := by decide +kernel
theorem dX10_findAll_176 : decode cX10_findAll 176 = .ok (.iastore, 1) := by decide +kernel
theorem dX10_findAll_177 : decode cX10_findAll 177 = .ok (.iinc 6 1, 3) := by decide +kernel
theorem dX10_findAll_180 : decode cX10_findAll 180 = .ok (.goto (-101), 3) := by decide +kernel
theorem dX10_findAll_183 : decode cX10_findAll 183 = .ok (.iload 5, 2) := by decide +kernel
theorem dX10_findAll_185 : decode cX10_findAll 185 = .ok (.iconst 1, 1) := by decide +kernel
theorem dX10_findAll_186 : decode cX10_findAll 186 = .ok (.isub, 1) := by decide +kernel
theorem dX10_findAll_187 : decode cX10_findAll 187 = .ok (.iload 4, 2) := by decide +kernel
theorem dX10_findAll_189 : decode cX10_findAll 189 = .ok (.iand, 1) := by decide +kernel
theorem dX10_findAll_190 : decode cX10_findAll 190 = .ok (.istore 5, 2) := by decide +kernel
theorem dX10_findAll_192 : decode cX10_findAll 192 = .ok (.goto (-121), 3) := by decide +kernel
theorem dX10_findAll_195 : decode cX10_findAll 195 = .ok (.iinc 3 1, 3) := by decide +kernel
theorem dX10_findAll_198 : decode cX10_findAll 198 = .ok (.goto (-163), 3) := by decide +kernel
theorem dX10_findAll_201 : decode cX10_findAll 201 = .ok (.return_, 1) := by decide +kernel
theorem dX10_kind_0 : decode cX10_kind 0 = .ok (.iload_n 2, 1) := by decide +kernel
theorem dX10_kind_1 : decode cX10_kind 1 = .ok (.i2l, 1) := by decide +kernel
theorem dX10_kind_2 : decode cX10_kind 2 = .ok (.lconst 0, 1) := by decide +kernel
theorem dX10_kind_3 : decode cX10_kind 3 = .ok (.ldc2_w 106, 3) := by decide +kernel
theorem dX10_kind_6 : decode cX10_kind 6 = .ok (.invokestatic 99, 3) := by decide +kernel
theorem dX10_kind_9 : decode cX10_kind 9 = .ok (.ifCond .ne 7, 3) := by decide +kernel
theorem dX10_kind_12 : decode cX10_kind 12 = .ok (.sipush (-1001), 3) := by decide +kernel
theorem dX10_kind_15 : decode cX10_kind 15 = .ok (.ireturn, 1) := by decide +kernel
theorem dX10_kind_16 : decode cX10_kind 16 = .ok (.iload_n 1, 1) := by decide +kernel
theorem dX10_kind_17 : decode cX10_kind 17 = .ok (.i2l, 1) := by decide +kernel
theorem dX10_kind_18 : decode cX10_kind 18 = .ok (.lconst 1, 1) := by decide +kernel
theorem dX10_kind_19 : decode cX10_kind 19 = .ok (.ldc2_w 282, 3) := by decide +kernel
theorem dX10_kind_22 : decode cX10_kind 22 = .ok (.invokestatic 99, 3) := by decide +kernel
theorem dX10_kind_25 : decode cX10_kind 25 = .ok (.ifCond .eq 13, 3) := by decide +kernel
theorem dX10_kind_28 : decode cX10_kind 28 = .ok (.iload_n 3, 1) := by decide +kernel
theorem dX10_kind_29 : decode cX10_kind 29 = .ok (.i2l, 1) := by decide +kernel
theorem dX10_kind_30 : decode cX10_kind 30 = .ok (.lconst 0, 1) := by decide +kernel
theorem dX10_kind_31 : decode cX10_kind 31 = .ok (.lconst 1, 1) := by decide +kernel
theorem dX10_kind_32 : decode cX10_kind 32 = .ok (.invokestatic 99, 3) := by decide +kernel
theorem dX10_kind_35 : decode cX10_kind 35 = .ok (.ifCond .ne 7, 3) := by decide +kernel
theorem dX10_kind_38 : decode cX10_kind 38 = .ok (.sipush (-1002), 3) := by decide +kernel
theorem dX10_kind_41 : decode cX10_kind 41 = .ok (.ireturn, 1) := by decide +kernel
theorem dX10_kind_42 : decode cX10_kind 42 = .ok (.iconst 0, 1) := by decide +kernel
theorem dX10_kind_43 : decode cX10_kind 43 = .ok (.istore 4, 2) := by decide +kernel
theorem dX10_kind_45 : decode cX10_kind 45 = .ok (.iconst 0, 1) := by decide +kernel
theorem dX10_kind_46 : decode cX10_kind 46 = .ok (.istore 5, 2) := by decide +kernel
theorem dX10_kind_48 : decode cX10_kind 48 = .ok (.iload 5, 2) := by decide +kernel
theorem dX10_kind_50 : decode cX10_kind 50 = .ok (.aload_n 0, 1) := by decide +kernel
theorem dX10_kind_51 : decode cX10_kind 51 = .ok (.getfield 174, 3) := by decide +kernel
theorem dX10_kind_54 : decode cX10_kind 54 = .ok (.if_icmp .ge 58, 3) := by decide +kernel
theorem dX10_kind_57 : decode cX10_kind 57 = .ok (.iload 4, 2) := by decide +kernel
theorem dX10_kind_59 : decode cX10_kind 59 = .ok (.aload_n 0, 1) := by decide +kernel
theorem dX10_kind_60 : decode cX10_kind 60 = .ok (.getfield 180, 3) := by decide +kernel
theorem dX10_kind_63 : decode cX10_kind 63 = .ok (.iload 5, 2) := by decide +kernel
theorem dX10_kind_65 : decode cX10_kind 65 = .ok (.invokestatic 143, 3) := by decide +kernel
theorem dX10_kind_68 : decode cX10_kind 68 = .ok (.ifCond .ne 34, 3) := by decide +kernel
theorem dX10_kind_71 : decode cX10_kind 71 = .ok (.aload_n 0, 1) := by decide +kernel
theorem dX10_kind_72 : decode cX10_kind 72 = .ok (.getfield 13, 3) := by decide +kernel
theorem dX10_kind_75 : decode cX10_kind 75 = .ok (.iload 5, 2) := by decide +kernel
theorem dX10_kind_77 : decode cX10_kind 77 = .ok (.iaload, 1) := by decide +kernel
theorem dX10_kind_78 : decode cX10_kind 78 = .ok (.ifCond .lt 17, 3) := by decide +kernel
theorem dX10_kind_81 : decode cX10_kind 81 = .ok (.iload_n 2, 1) := by decide +kernel
theorem dX10_kind_82 : decode cX10_kind 82 = .ok (.aload_n 0, 1) := by decide +kernel
theorem dX10_kind_83 : decode cX10_kind 83 = .ok (.getfield 13, 3) := by decide +kernel
theorem dX10_kind_86 : decode cX10_kind 86 = .ok (.iload 5, 2) := by decide +kernel
theorem dX10_kind_88 : decode cX10_kind 88 = .ok (.iaload, 1) := by decide +kernel
theorem dX10_kind_89 : decode cX10_kind 89 = .ok (.invokestatic 143, 3) := by decide +kernel
theorem dX10_kind_92 : decode cX10_kind 92 = .ok (.ifCond .ne 10, 3) := by decide +kernel
theorem dX10_kind_95 : decode cX10_kind 95 = .ok (.iconst 1, 1) := by decide +kernel
theorem dX10_kind_96 : decode cX10_kind 96 = .ok (.iload 5, 2) := by decide +kernel
theorem dX10_kind_98 : decode cX10_kind 98 = .ok (.ishl, 1) := by decide +kernel
theorem dX10_kind_99 : decode cX10_kind 99 = .ok (.goto 4, 3) := by decide +kernel
theorem dX10_kind_102 : decode cX10_kind 102 = .ok (.iconst 0, 1) := by decide +kernel
theorem dX10_kind_103 : decode cX10_kind 103 = .ok (.ior, 1) := by decide +kernel
theorem dX10_kind_104 : decode cX10_kind 104 = .ok (.istore 4, 2) := by decide +kernel
theorem dX10_kind_106 : decode cX10_kind 106 = .ok (.iinc 5 1, 3) := by decide +kernel
theorem dX10_kind_109 : decode cX10_kind 109 = .ok (.goto (-61), 3) := by decide +kernel
theorem dX10_kind_112 : decode cX10_kind 112 = .ok (.aload_n 0, 1) := by decide +kernel
theorem dX10_kind_113 : decode cX10_kind 113 = .ok (.iload_n 1, 1) := by decide +kernel
theorem dX10_kind_114 : decode cX10_kind 114 = .ok (.iload 4, 2) := by decide +kernel
theorem dX10_kind_116 : decode cX10_kind 116 = .ok (.invokevirtual 287, 3) := by decide +kernel
theorem dX10_kind_119 : decode cX10_kind 119 = .ok (.iconst (-1), 1) := by decide +kernel
theorem dX10_kind_120 : decode cX10_kind 120 = .ok (.istore 5, 2) := by decide +kernel
theorem dX10_kind_122 : decode cX10_kind 122 = .ok (.iconst (-1), 1) := by decide +kernel
theorem dX10_kind_123 : decode cX10_kind 123 = .ok (.istore 6, 2) := by decide +kernel
theorem dX10_kind_125 : decode cX10_kind 125 = .ok (.iconst 0, 1) := by decide +kernel
theorem dX10_kind_126 : decode cX10_kind 126 = .ok (.istore 7, 2) := by decide +kernel
theorem dX10_kind_128 : decode cX10_kind 128 = .ok (.iload 7, 2) := by decide +kernel
theorem dX10_kind_130 : decode cX10_kind 130 = .ok (.aload_n 0, 1) := by decide +kernel
theorem dX10_kind_131 : decode cX10_kind 131 = .ok (.invokevirtual 192, 3) := by decide +kernel
theorem dX10_kind_134 : decode cX10_kind 134 = .ok (.if_icmp .gt 87, 3) := by decide +kernel
theorem dX10_kind_137 : decode cX10_kind 137 = .ok (.aload_n 0, 1) := by decide +kernel
theorem dX10_kind_138 : decode cX10_kind 138 = .ok (.getfield 76, 3) := by decide +kernel
theorem dX10_kind_141 : decode cX10_kind 141 = .ok (.sipush 1024, 3) := by decide +kernel
theorem dX10_kind_144 : decode cX10_kind 144 = .ok (.iload_n 1, 1) := by decide +kernel
theorem dX10_kind_145 : decode cX10_kind 145 = .ok (.imul, 1) := by decide +kernel
theorem dX10_kind_146 : decode cX10_kind 146 = .ok (.iload 7, 2) := by decide +kernel
theorem dX10_kind_148 : decode cX10_kind 148 = .ok (.iadd, 1) := by decide +kernel
theorem dX10_kind_149 : decode cX10_kind 149 = .ok (.iaload, 1) := by decide +kernel
theorem dX10_kind_150 : decode cX10_kind 150 = .ok (.istore 8, 2) := by decide +kernel
theorem dX10_kind_152 : decode cX10_kind 152 = .ok (.iload 5, 2) := by decide +kernel
theorem dX10_kind_154 : decode cX10_kind 154 = .ok (.ifCond .lt 36, 3) := by decide +kernel
theorem dX10_kind_157 : decode cX10_kind 157 = .ok (.iload 7, 2) := by decide +kernel
theorem dX10_kind_159 : decode cX10_kind 159 = .ok (.invokestatic 208, 3) := by decide +kernel
theorem dX10_kind_162 : decode cX10_kind 162 = .ok (.iload 5, 2) := by decide +kernel
theorem dX10_kind_164 : decode cX10_kind 164 = .ok (.invokestatic 208, 3) := by decide +kernel
theorem dX10_kind_167 : decode cX10_kind 167 = .ok (.if_icmp .gt 23, 3) := by decide +kernel
theorem dX10_kind_170 : decode cX10_kind 170 = .ok (.iload 7, 2) := by decide +kernel
theorem dX10_kind_172 : decode cX10_kind 172 = .ok (.invokestatic 208, 3) := by decide +kernel
theorem dX10_kind_175 : decode cX10_kind 175 = .ok (.iload 5, 2) := by decide +kernel
theorem dX10_kind_177 : decode cX10_kind 177 = .ok (.invokestatic 208, 3) := by decide +kernel
theorem dX10_kind_180 : decode cX10_kind 180 = .ok (.if_icmp .ne 14, 3) := by decide +kernel
theorem dX10_kind_183 : decode cX10_kind 183 = .ok (.iload 8, 2) := by decide +kernel
theorem dX10_kind_185 : decode cX10_kind 185 = .ok (.iload 6, 2) := by decide +kernel
theorem dX10_kind_187 : decode cX10_kind 187 = .ok (.if_icmp .le 7, 3) := by decide +kernel
theorem dX10_kind_190 : decode cX10_kind 190 = .ok (.iconst 1, 1) := by decide +kernel
theorem dX10_kind_191 : decode cX10_kind 191 = .ok (.goto 4, 3) := by decide +kernel
theorem dX10_kind_194 : decode cX10_kind 194 = .ok (.iconst 0, 1) := by decide +kernel
theorem dX10_kind_195 : decode cX10_kind 195 = .ok (.istore 9, 2) := by decide +kernel
theorem dX10_kind_197 : decode cX10_kind 197 = .ok (.iload 8, 2) := by decide +kernel
theorem dX10_kind_199 : decode cX10_kind 199 = .ok (.ifCond .lt 16, 3) := by decide +kernel
theorem dX10_kind_202 : decode cX10_kind 202 = .ok (.iload 9, 2) := by decide +kernel
theorem dX10_kind_204 : decode cX10_kind 204 = .ok (.ifCond .eq 11, 3) := by decide +kernel
theorem dX10_kind_207 : decode cX10_kind 207 = .ok (.iload 7, 2) := by decide +kernel
theorem dX10_kind_209 : decode cX10_kind 209 = .ok (.istore 5, 2) := by decide +kernel
theorem dX10_kind_211 : decode cX10_kind 211 = .ok (.iload 8, 2) := by decide +kernel
theorem dX10_kind_213 : decode cX10_kind 213 = .ok (.istore 6, 2) := by decide +kernel
theorem dX10_kind_215 : decode cX10_kind 215 = .ok (.iinc 7 1, 3) := by decide +kernel
theorem dX10_kind_218 : decode cX10_kind 218 = .ok (.goto (-90), 3) := by decide +kernel
theorem dX10_kind_221 : decode cX10_kind 221 = .ok (.iload_n 3, 1) := by decide +kernel
theorem dX10_kind_222 : decode cX10_kind 222 = .ok (.ifCond .ne 8, 3) := by decide +kernel
theorem dX10_kind_225 : decode cX10_kind 225 = .ok (.iload 5, 2) := by decide +kernel
theorem dX10_kind_227 : decode cX10_kind 227 = .ok (.goto 5, 3) := by decide +kernel
theorem dX10_kind_230 : decode cX10_kind 230 = .ok (.iload 6, 2) := by decide +kernel
theorem dX10_kind_232 : decode cX10_kind 232 = .ok (.ireturn, 1) := by decide +kernel
theorem dX10_chapter_0 : decode cX10_chapter 0 = .ok (.iload_n 1, 1) := by decide +kernel
theorem dX10_chapter_1 : decode cX10_chapter 1 = .ok (.i2l, 1) := by decide +kernel
theorem dX10_chapter_2 : decode cX10_chapter 2 = .ok (.lconst 1, 1) := by decide +kernel
theorem dX10_chapter_3 : decode cX10_chapter 3 = .ok (.ldc2_w 97, 3) := by decide +kernel
theorem dX10_chapter_6 : decode cX10_chapter 6 = .ok (.invokestatic 99, 3) := by decide +kernel
theorem dX10_chapter_9 : decode cX10_chapter 9 = .ok (.ifCond .ne 7, 3) := by decide +kernel
theorem dX10_chapter_12 : decode cX10_chapter 12 = .ok (.sipush (-1002), 3) := by decide +kernel
theorem dX10_chapter_15 : decode cX10_chapter 15 = .ok (.ireturn, 1) := by decide +kernel
theorem dX10_chapter_16 : decode cX10_chapter 16 = .ok (.iconst 0, 1) := by decide +kernel
theorem dX10_chapter_17 : decode cX10_chapter 17 = .ok (.istore_n 3, 1) := by decide +kernel
theorem dX10_chapter_18 : decode cX10_chapter 18 = .ok (.iconst 0, 1) := by decide +kernel
theorem dX10_chapter_19 : decode cX10_chapter 19 = .ok (.istore 4, 2) := by decide +kernel
theorem dX10_chapter_21 : decode cX10_chapter 21 = .ok (.iload 4, 2) := by decide +kernel
theorem dX10_chapter_23 : decode cX10_chapter 23 = .ok (.aload_n 0, 1) := by decide +kernel
theorem dX10_chapter_24 : decode cX10_chapter 24 = .ok (.getfield 177, 3) := by decide +kernel
theorem dX10_chapter_27 : decode cX10_chapter 27 = .ok (.if_icmp .ge 52, 3) := by decide +kernel
theorem dX10_chapter_30 : decode cX10_chapter 30 = .ok (.iconst 0, 1) := by decide +kernel
theorem dX10_chapter_31 : decode cX10_chapter 31 = .ok (.istore 5, 2) := by decide +kernel
theorem dX10_chapter_33 : decode cX10_chapter 33 = .ok (.iload 5, 2) := by decide +kernel
theorem dX10_chapter_35 : decode cX10_chapter 35 = .ok (.aload_n 0, 1) := by decide +kernel
theorem dX10_chapter_36 : decode cX10_chapter 36 = .ok (.getfield 55, 3) := by decide +kernel
theorem dX10_chapter_39 : decode cX10_chapter 39 = .ok (.iload 4, 2) := by decide +kernel
theorem dX10_chapter_41 : decode cX10_chapter 41 = .ok (.iaload, 1) := by decide +kernel
theorem dX10_chapter_42 : decode cX10_chapter 42 = .ok (.if_icmp .ge 31, 3) := by decide +kernel
theorem dX10_chapter_45 : decode cX10_chapter 45 = .ok (.aload_n 0, 1) := by decide +kernel
theorem dX10_chapter_46 : decode cX10_chapter 46 = .ok (.getfield 79, 3) := by decide +kernel
theorem dX10_chapter_49 : decode cX10_chapter 49 = .ok (.iload_n 3, 1) := by decide +kernel
theorem dX10_chapter_50 : decode cX10_chapter 50 = .ok (.aload_n 0, 1) := by decide +kernel
theorem dX10_chapter_51 : decode cX10_chapter 51 = .ok (.getfield 58, 3) := by decide +kernel
theorem dX10_chapter_54 : decode cX10_chapter 54 = .ok (.bipush 6, 2) := by decide +kernel
theorem dX10_chapter_56 : decode cX10_chapter 56 = .ok (.iload 4, 2) := by decide +kernel
theorem dX10_chapter_58 : decode cX10_chapter 58 = .ok (.imul, 1) := by decide +kernel
theorem dX10_chapter_59 : decode cX10_chapter 59 = .ok (.iload 5, 2) := by decide +kernel
theorem dX10_chapter_61 : decode cX10_chapter 61 = .ok (.iadd, 1) := by decide +kernel
theorem dX10_chapter_62 : decode cX10_chapter 62 = .ok (.iaload, 1) := by decide +kernel
theorem dX10_chapter_63 : decode cX10_chapter 63 = .ok (.iastore, 1) := by decide +kernel
theorem dX10_chapter_64 : decode cX10_chapter 64 = .ok (.iinc 3 1, 3) := by decide +kernel
theorem dX10_chapter_67 : decode cX10_chapter 67 = .ok (.iinc 5 1, 3) := by decide +kernel
theorem dX10_chapter_70 : decode cX10_chapter 70 = .ok (.goto (-37), 3) := by decide +kernel
theorem dX10_chapter_73 : decode cX10_chapter 73 = .ok (.iinc 4 1, 3) := by decide +kernel
theorem dX10_chapter_76 : decode cX10_chapter 76 = .ok (.goto (-55), 3) := by decide +kernel
theorem dX10_chapter_79 : decode cX10_chapter 79 = .ok (.iload_n 3, 1) := by decide +kernel
theorem dX10_chapter_80 : decode cX10_chapter 80 = .ok (.iload_n 1, 1) := by decide +kernel
theorem dX10_chapter_81 : decode cX10_chapter 81 = .ok (.if_icmp .ge 7, 3) := by decide +kernel
theorem dX10_chapter_84 : decode cX10_chapter 84 = .ok (.sipush (-1003), 3) := by decide +kernel
theorem dX10_chapter_87 : decode cX10_chapter 87 = .ok (.ireturn, 1) := by decide +kernel
theorem dX10_chapter_88 : decode cX10_chapter 88 = .ok (.iload_n 2, 1) := by decide +kernel
theorem dX10_chapter_89 : decode cX10_chapter 89 = .ok (.i2l, 1) := by decide +kernel
theorem dX10_chapter_90 : decode cX10_chapter 90 = .ok (.ldc2_w 290, 3) := by decide +kernel
theorem dX10_chapter_93 : decode cX10_chapter 93 = .ok (.iload_n 1, 1) := by decide +kernel
theorem dX10_chapter_94 : decode cX10_chapter 94 = .ok (.iconst 1, 1) := by decide +kernel
theorem dX10_chapter_95 : decode cX10_chapter 95 = .ok (.isub, 1) := by decide +kernel
theorem dX10_chapter_96 : decode cX10_chapter 96 = .ok (.i2l, 1) := by decide +kernel
theorem dX10_chapter_97 : decode cX10_chapter 97 = .ok (.invokestatic 99, 3) := by decide +kernel
theorem dX10_chapter_100 : decode cX10_chapter 100 = .ok (.ifCond .ne 7, 3) := by decide +kernel
theorem dX10_chapter_103 : decode cX10_chapter 103 = .ok (.sipush (-1001), 3) := by decide +kernel
theorem dX10_chapter_106 : decode cX10_chapter 106 = .ok (.ireturn, 1) := by decide +kernel
theorem dX10_chapter_107 : decode cX10_chapter 107 = .ok (.iconst 0, 1) := by decide +kernel
theorem dX10_chapter_108 : decode cX10_chapter 108 = .ok (.istore 4, 2) := by decide +kernel
theorem dX10_chapter_110 : decode cX10_chapter 110 = .ok (.iload 4, 2) := by decide +kernel
theorem dX10_chapter_112 : decode cX10_chapter 112 = .ok (.iload_n 1, 1) := by decide +kernel
theorem dX10_chapter_113 : decode cX10_chapter 113 = .ok (.if_icmp .gt 167, 3) := by decide +kernel
theorem dX10_chapter_116 : decode cX10_chapter 116 = .ok (.iconst 0, 1) := by decide +kernel
theorem dX10_chapter_117 : decode cX10_chapter 117 = .ok (.istore 5, 2) := by decide +kernel
theorem dX10_chapter_119 : decode cX10_chapter 119 = .ok (.iload 5, 2) := by decide +kernel
theorem dX10_chapter_121 : decode cX10_chapter 121 = .ok (.iload_n 3, 1) := by decide +kernel
theorem dX10_chapter_122 : decode cX10_chapter 122 = .ok (.if_icmp .gt 152, 3) := by decide +kernel
theorem dX10_chapter_125 : decode cX10_chapter 125 = .ok (.bipush 11, 2) := by decide +kernel
theorem dX10_chapter_127 : decode cX10_chapter 127 = .ok (.iload 4, 2) := by decide +kernel
theorem dX10_chapter_129 : decode cX10_chapter 129 = .ok (.imul, 1) := by decide +kernel
theorem dX10_chapter_130 : decode cX10_chapter 130 = .ok (.iload 5, 2) := by decide +kernel
theorem dX10_chapter_132 : decode cX10_chapter 132 = .ok (.iadd, 1) := by decide +kernel
theorem dX10_chapter_133 : decode cX10_chapter 133 = .ok (.istore 6, 2) := by decide +kernel
theorem dX10_chapter_135 : decode cX10_chapter 135 = .ok (.aload_n 0, 1) := by decide +kernel
theorem dX10_chapter_136 : decode cX10_chapter 136 = .ok (.getfield 82, 3) := by decide +kernel
theorem dX10_chapter_139 : decode cX10_chapter 139 = .ok (.iload 6, 2) := by decide +kernel
theorem dX10_chapter_141 : decode cX10_chapter 141 = .ok (.iload 4, 2) := by decide +kernel
theorem dX10_chapter_143 : decode cX10_chapter 143 = .ok (.ifCond .ne 13, 3) := by decide +kernel
theorem dX10_chapter_146 : decode cX10_chapter 146 = .ok (.iload 5, 2) := by decide +kernel
theorem dX10_chapter_148 : decode cX10_chapter 148 = .ok (.iload_n 3, 1) := by decide +kernel
theorem dX10_chapter_149 : decode cX10_chapter 149 = .ok (.if_icmp .ne 7, 3) := by decide +kernel
theorem dX10_chapter_152 : decode cX10_chapter 152 = .ok (.iconst 0, 1) := by decide +kernel
theorem dX10_chapter_153 : decode cX10_chapter 153 = .ok (.goto 5, 3) := by decide +kernel
theorem dX10_chapter_156 : decode cX10_chapter 156 = .ok (.ldc 240, 2) := by decide +kernel
theorem dX10_chapter_158 : decode cX10_chapter 158 = .ok (.iastore, 1) := by decide +kernel
theorem dX10_chapter_159 : decode cX10_chapter 159 = .ok (.aload_n 0, 1) := by decide +kernel
theorem dX10_chapter_160 : decode cX10_chapter 160 = .ok (.getfield 85, 3) := by decide +kernel
theorem dX10_chapter_163 : decode cX10_chapter 163 = .ok (.iload 6, 2) := by decide +kernel
theorem dX10_chapter_165 : decode cX10_chapter 165 = .ok (.iconst 0, 1) := by decide +kernel
theorem dX10_chapter_166 : decode cX10_chapter 166 = .ok (.iastore, 1) := by decide +kernel
theorem dX10_chapter_167 : decode cX10_chapter 167 = .ok (.iconst 0, 1) := by decide +kernel
theorem dX10_chapter_168 : decode cX10_chapter 168 = .ok (.istore 7, 2) := by decide +kernel
theorem dX10_chapter_170 : decode cX10_chapter 170 = .ok (.iload 5, 2) := by decide +kernel
theorem dX10_chapter_172 : decode cX10_chapter 172 = .ok (.istore 8, 2) := by decide +kernel
theorem dX10_chapter_174 : decode cX10_chapter 174 = .ok (.iload 8, 2) := by decide +kernel
theorem dX10_chapter_176 : decode cX10_chapter 176 = .ok (.iload_n 3, 1) := by decide +kernel
theorem dX10_chapter_177 : decode cX10_chapter 177 = .ok (.if_icmp .ge 91, 3) := by decide +kernel
theorem dX10_chapter_180 : decode cX10_chapter 180 = .ok (.iload 4, 2) := by decide +kernel
theorem dX10_chapter_182 : decode cX10_chapter 182 = .ok (.ifCond .le 86, 3) := by decide +kernel
theorem dX10_chapter_185 : decode cX10_chapter 185 = .ok (.iload 7, 2) := by decide +kernel
theorem dX10_chapter_187 : decode cX10_chapter 187 = .ok (.aload_n 0, 1) := by decide +kernel
theorem dX10_chapter_188 : decode cX10_chapter 188 = .ok (.getfield 7, 3) := by decide +kernel
theorem dX10_chapter_191 : decode cX10_chapter 191 = .ok (.aload_n 0, 1) := by decide +kernel
theorem dX10_chapter_192 : decode cX10_chapter 192 = .ok (.getfield 79, 3) := by decide +kernel
theorem dX10_chapter_195 : decode cX10_chapter 195 = .ok (.iload 8, 2) := by decide +kernel
theorem dX10_chapter_197 : decode cX10_chapter 197 = .ok (.iaload, 1) := by decide +kernel
theorem dX10_chapter_198 : decode cX10_chapter 198 = .ok (.iaload, 1) := by decide +kernel
theorem dX10_chapter_199 : decode cX10_chapter 199 = .ok (.iadd, 1) := by decide +kernel
theorem dX10_chapter_200 : decode cX10_chapter 200 = .ok (.istore 7, 2) := by decide +kernel
theorem dX10_chapter_202 : decode cX10_chapter 202 = .ok (.iload 7, 2) := by decide +kernel
theorem dX10_chapter_204 : decode cX10_chapter 204 = .ok (.iload 7, 2) := by decide +kernel
theorem dX10_chapter_206 : decode cX10_chapter 206 = .ok (.imul, 1) := by decide +kernel
theorem dX10_chapter_207 : decode cX10_chapter 207 = .ok (.aload_n 0, 1) := by decide +kernel
theorem dX10_chapter_208 : decode cX10_chapter 208 = .ok (.getfield 82, 3) := by decide +kernel
theorem dX10_chapter_211 : decode cX10_chapter 211 = .ok (.bipush 11, 2) := by decide +kernel
theorem dX10_chapter_213 : decode cX10_chapter 213 = .ok (.iload 4, 2) := by decide +kernel
theorem dX10_chapter_215 : decode cX10_chapter 215 = .ok (.iconst 1, 1) := by decide +kernel
theorem dX10_chapter_216 : decode cX10_chapter 216 = .ok (.isub, 1) := by decide +kernel
theorem dX10_chapter_217 : decode cX10_chapter 217 = .ok (.imul, 1) := by decide +kernel
theorem dX10_chapter_218 : decode cX10_chapter 218 = .ok (.iload 8, 2) := by decide +kernel
theorem dX10_chapter_220 : decode cX10_chapter 220 = .ok (.iadd, 1) := by decide +kernel
theorem dX10_chapter_221 : decode cX10_chapter 221 = .ok (.iconst 1, 1) := by decide +kernel
theorem dX10_chapter_222 : decode cX10_chapter 222 = .ok (.iadd, 1) := by decide +kernel
theorem dX10_chapter_223 : decode cX10_chapter 223 = .ok (.iaload, 1) := by decide +kernel
theorem dX10_chapter_224 : decode cX10_chapter 224 = .ok (.iadd, 1) := by decide +kernel
theorem dX10_chapter_225 : decode cX10_chapter 225 = .ok (.istore 9, 2) := by decide +kernel
theorem dX10_chapter_227 : decode cX10_chapter 227 = .ok (.iload 9, 2) := by decide +kernel
theorem dX10_chapter_229 : decode cX10_chapter 229 = .ok (.aload_n 0, 1) := by decide +kernel
theorem dX10_chapter_230 : decode cX10_chapter 230 = .ok (.getfield 82, 3) := by decide +kernel
theorem dX10_chapter_233 : decode cX10_chapter 233 = .ok (.iload 6, 2) := by decide +kernel
theorem dX10_chapter_235 : decode cX10_chapter 235 = .ok (.iaload, 1) := by decide +kernel
theorem dX10_chapter_236 : decode cX10_chapter 236 = .ok (.if_icmp .ge 26, 3) := by decide +kernel
theorem dX10_chapter_239 : decode cX10_chapter 239 = .ok (.aload_n 0, 1) := by decide +kernel
theorem dX10_chapter_240 : decode cX10_chapter 240 = .ok (.getfield 82, 3) := by decide +kernel
theorem dX10_chapter_243 : decode cX10_chapter 243 = .ok (.iload 6, 2) := by decide +kernel
theorem dX10_chapter_245 : decode cX10_chapter 245 = .ok (.iload 9, 2) := by decide +kernel
theorem dX10_chapter_247 : decode cX10_chapter 247 = .ok (.iastore, 1) := by decide +kernel
theorem dX10_chapter_248 : decode cX10_chapter 248 = .ok (.aload_n 0, 1) := by decide +kernel
theorem dX10_chapter_249 : decode cX10_chapter 249 = .ok (.getfield 85, 3) := by decide +kernel
theorem dX10_chapter_252 : decode cX10_chapter 252 = .ok (.iload 6, 2) := by decide +kernel
theorem dX10_chapter_254 : decode cX10_chapter 254 = .ok (.iload 8, 2) := by decide +kernel
theorem dX10_chapter_256 : decode cX10_chapter 256 = .ok (.iconst 1, 1) := by decide +kernel
theorem dX10_chapter_257 : decode cX10_chapter 257 = .ok (.iadd, 1) := by decide +kernel
theorem dX10_chapter_258 : decode cX10_chapter 258 = .ok (.iload 5, 2) := by decide +kernel
theorem dX10_chapter_260 : decode cX10_chapter 260 = .ok (.isub, 1) := by decide +kernel
theorem dX10_chapter_261 : decode cX10_chapter 261 = .ok (.iastore, 1) := by decide +kernel
theorem dX10_chapter_262 : decode cX10_chapter 262 = .ok (.iinc 8 1, 3) := by decide +kernel
theorem dX10_chapter_265 : decode cX10_chapter 265 = .ok (.goto (-91), 3) := by decide +kernel
theorem dX10_chapter_268 : decode cX10_chapter 268 = .ok (.iinc 5 1, 3) := by decide +kernel
theorem dX10_chapter_271 : decode cX10_chapter 271 = .ok (.goto (-152), 3) := by decide +kernel
theorem dX10_chapter_274 : decode cX10_chapter 274 = .ok (.iinc 4 1, 3) := by decide +kernel
theorem dX10_chapter_277 : decode cX10_chapter 277 = .ok (.goto (-167), 3) := by decide +kernel
theorem dX10_chapter_280 : decode cX10_chapter 280 = .ok (.iload_n 2, 1) := by decide +kernel
theorem dX10_chapter_281 : decode cX10_chapter 281 = .ok (.iconst (-1), 1) := by decide +kernel
theorem dX10_chapter_282 : decode cX10_chapter 282 = .ok (.if_icmp .ne 13, 3) := by decide +kernel
theorem dX10_chapter_285 : decode cX10_chapter 285 = .ok (.aload_n 0, 1) := by decide +kernel
theorem dX10_chapter_286 : decode cX10_chapter 286 = .ok (.getfield 82, 3) := by decide +kernel
theorem dX10_chapter_289 : decode cX10_chapter 289 = .ok (.bipush 11, 2) := by decide +kernel
theorem dX10_chapter_291 : decode cX10_chapter 291 = .ok (.iload_n 1, 1) := by decide +kernel
theorem dX10_chapter_292 : decode cX10_chapter 292 = .ok (.imul, 1) := by decide +kernel
theorem dX10_chapter_293 : decode cX10_chapter 293 = .ok (.iaload, 1) := by decide +kernel
theorem dX10_chapter_294 : decode cX10_chapter 294 = .ok (.ireturn, 1) := by decide +kernel
theorem dX10_chapter_295 : decode cX10_chapter 295 = .ok (.iconst 0, 1) := by decide +kernel
theorem dX10_chapter_296 : decode cX10_chapter 296 = .ok (.istore 4, 2) := by decide +kernel
theorem dX10_chapter_298 : decode cX10_chapter 298 = .ok (.iconst 0, 1) := by decide +kernel
theorem dX10_chapter_299 : decode cX10_chapter 299 = .ok (.istore 5, 2) := by decide +kernel
theorem dX10_chapter_301 : decode cX10_chapter 301 = .ok (.iload 5, 2) := by decide +kernel
theorem dX10_chapter_303 : decode cX10_chapter 303 = .ok (.iload_n 2, 1) := by decide +kernel
theorem dX10_chapter_304 : decode cX10_chapter 304 = .ok (.if_icmp .ge 29, 3) := by decide +kernel
theorem dX10_chapter_307 : decode cX10_chapter 307 = .ok (.iload 4, 2) := by decide +kernel
theorem dX10_chapter_309 : decode cX10_chapter 309 = .ok (.aload_n 0, 1) := by decide +kernel
theorem dX10_chapter_310 : decode cX10_chapter 310 = .ok (.getfield 85, 3) := by decide +kernel
theorem dX10_chapter_313 : decode cX10_chapter 313 = .ok (.bipush 11, 2) := by decide +kernel
theorem dX10_chapter_315 : decode cX10_chapter 315 = .ok (.iload_n 1, 1) := by decide +kernel
theorem dX10_chapter_316 : decode cX10_chapter 316 = .ok (.iload 5, 2) := by decide +kernel
theorem dX10_chapter_318 : decode cX10_chapter 318 = .ok (.isub, 1) := by decide +kernel
theorem dX10_chapter_319 : decode cX10_chapter 319 = .ok (.imul, 1) := by decide +kernel
theorem dX10_chapter_320 : decode cX10_chapter 320 = .ok (.iload 4, 2) := by decide +kernel
theorem dX10_chapter_322 : decode cX10_chapter 322 = .ok (.iadd, 1) := by decide +kernel
theorem dX10_chapter_323 : decode cX10_chapter 323 = .ok (.iaload, 1) := by decide +kernel
theorem dX10_chapter_324 : decode cX10_chapter 324 = .ok (.iadd, 1) := by decide +kernel
theorem dX10_chapter_325 : decode cX10_chapter 325 = .ok (.istore 4, 2) := by decide +kernel
theorem dX10_chapter_327 : decode cX10_chapter 327 = .ok (.iinc 5 1, 3) := by decide +kernel
theorem dX10_chapter_330 : decode cX10_chapter 330 = .ok (.goto (-29), 3) := by decide +kernel
theorem dX10_chapter_333 : decode cX10_chapter 333 = .ok (.aload_n 0, 1) := by decide +kernel
theorem dX10_chapter_334 : decode cX10_chapter 334 = .ok (.getfield 85, 3) := by decide +kernel
theorem dX10_chapter_337 : decode cX10_chapter 337 = .ok (.bipush 11, 2) := by decide +kernel
theorem dX10_chapter_339 : decode cX10_chapter 339 = .ok (.iload_n 1, 1) := by decide +kernel
theorem dX10_chapter_340 : decode cX10_chapter 340 = .ok (.iload_n 2, 1) := by decide +kernel
theorem dX10_chapter_341 : decode cX10_chapter 341 = .ok (.isub, 1) := by decide +kernel
theorem dX10_chapter_342 : decode cX10_chapter 342 = .ok (.imul, 1) := by decide +kernel
theorem dX10_chapter_343 : decode cX10_chapter 343 = .ok (.iload 4, 2) := by decide +kernel
theorem dX10_chapter_345 : decode cX10_chapter 345 = .ok (.iadd, 1) := by decide +kernel
theorem dX10_chapter_346 : decode cX10_chapter 346 = .ok (.iaload, 1) := by decide +kernel
theorem dX10_chapter_347 : decode cX10_chapter 347 = .ok (.ireturn, 1) := by decide +kernel
theorem dX10_keep_0 : decode cX10_keep 0 = .ok (.iload_n 1, 1) := by decide +kernel
theorem dX10_keep_1 : decode cX10_keep 1 = .ok (.i2l, 1) := by decide +kernel
theorem dX10_keep_2 : decode cX10_keep 2 = .ok (.lconst 0, 1) := by decide +kernel
theorem dX10_keep_3 : decode cX10_keep 3 = .ok (.lconst 1, 1) := by decide +kernel
theorem dX10_keep_4 : decode cX10_keep 4 = .ok (.invokestatic 99, 3) := by decide +kernel
theorem dX10_keep_7 : decode cX10_keep 7 = .ok (.ifCond .ne 7, 3) := by decide +kernel
theorem dX10_keep_10 : decode cX10_keep 10 = .ok (.sipush (-1001), 3) := by decide +kernel
theorem dX10_keep_13 : decode cX10_keep 13 = .ok (.ireturn, 1) := by decide +kernel
theorem dX10_keep_14 : decode cX10_keep 14 = .ok (.bipush 110, 2) := by decide +kernel
theorem dX10_keep_16 : decode cX10_keep 16 = .ok (.iload_n 1, 1) := by decide +kernel
theorem dX10_keep_17 : decode cX10_keep 17 = .ok (.imul, 1) := by decide +kernel
theorem dX10_keep_18 : decode cX10_keep 18 = .ok (.istore_n 2, 1) := by decide +kernel
theorem dX10_keep_19 : decode cX10_keep 19 = .ok (.aload_n 0, 1) := by decide +kernel
theorem dX10_keep_20 : decode cX10_keep 20 = .ok (.getfield 88, 3) := by decide +kernel
theorem dX10_keep_23 : decode cX10_keep 23 = .ok (.iload_n 2, 1) := by decide +kernel
theorem dX10_keep_24 : decode cX10_keep 24 = .ok (.aload_n 0, 1) := by decide +kernel
theorem dX10_keep_25 : decode cX10_keep 25 = .ok (.getfield 177, 3) := by decide +kernel
theorem dX10_keep_28 : decode cX10_keep 28 = .ok (.iastore, 1) := by decide +kernel
theorem dX10_keep_29 : decode cX10_keep 29 = .ok (.aload_n 0, 1) := by decide +kernel
theorem dX10_keep_30 : decode cX10_keep 30 = .ok (.getfield 88, 3) := by decide +kernel
theorem dX10_keep_33 : decode cX10_keep 33 = .ok (.iload_n 2, 1) := by decide +kernel
theorem dX10_keep_34 : decode cX10_keep 34 = .ok (.iconst 1, 1) := by decide +kernel
theorem dX10_keep_35 : decode cX10_keep 35 = .ok (.iadd, 1) := by decide +kernel
theorem dX10_keep_36 : decode cX10_keep 36 = .ok (.aload_n 0, 1) := by decide +kernel
theorem dX10_keep_37 : decode cX10_keep 37 = .ok (.getfield 180, 3) := by decide +kernel
theorem dX10_keep_40 : decode cX10_keep 40 = .ok (.iastore, 1) := by decide +kernel
theorem dX10_keep_41 : decode cX10_keep 41 = .ok (.aload_n 0, 1) := by decide +kernel
theorem dX10_keep_42 : decode cX10_keep 42 = .ok (.getfield 88, 3) := by decide +kernel
theorem dX10_keep_45 : decode cX10_keep 45 = .ok (.iload_n 2, 1) := by decide +kernel
theorem dX10_keep_46 : decode cX10_keep 46 = .ok (.iconst 2, 1) := by decide +kernel
theorem dX10_keep_47 : decode cX10_keep 47 = .ok (.iadd, 1) := by decide +kernel
theorem dX10_keep_48 : decode cX10_keep 48 = .ok (.aload_n 0, 1) := by decide +kernel
theorem dX10_keep_49 : decode cX10_keep 49 = .ok (.getfield 183, 3) := by decide +kernel
theorem dX10_keep_52 : decode cX10_keep 52 = .ok (.iastore, 1) := by decide +kernel
theorem dX10_keep_53 : decode cX10_keep 53 = .ok (.aload_n 0, 1) := by decide +kernel
theorem dX10_keep_54 : decode cX10_keep 54 = .ok (.getfield 88, 3) := by decide +kernel
theorem dX10_keep_57 : decode cX10_keep 57 = .ok (.iload_n 2, 1) := by decide +kernel
theorem dX10_keep_58 : decode cX10_keep 58 = .ok (.iconst 3, 1) := by decide +kernel
theorem dX10_keep_59 : decode cX10_keep 59 = .ok (.iadd, 1) := by decide +kernel
theorem dX10_keep_60 : decode cX10_keep 60 = .ok (.aload_n 0, 1) := by decide +kernel
theorem dX10_keep_61 : decode cX10_keep 61 = .ok (.getfield 186, 3) := by decide +kernel
theorem dX10_keep_64 : decode cX10_keep 64 = .ok (.iastore, 1) := by decide +kernel
theorem dX10_keep_65 : decode cX10_keep 65 = .ok (.iconst 0, 1) := by decide +kernel
theorem dX10_keep_66 : decode cX10_keep 66 = .ok (.istore_n 3, 1) := by decide +kernel
theorem dX10_keep_67 : decode cX10_keep 67 = .ok (.iload_n 3, 1) := by decide +kernel
theorem dX10_keep_68 : decode cX10_keep 68 = .ok (.bipush 12, 2) := by decide +kernel
theorem dX10_keep_70 : decode cX10_keep 70 = .ok (.if_icmp .ge 25, 3) := by decide +kernel
theorem dX10_keep_73 : decode cX10_keep 73 = .ok (.aload_n 0, 1) := by decide +kernel
theorem dX10_keep_74 : decode cX10_keep 74 = .ok (.getfield 88, 3) := by decide +kernel
theorem dX10_keep_77 : decode cX10_keep 77 = .ok (.iload_n 2, 1) := by decide +kernel
theorem dX10_keep_78 : decode cX10_keep 78 = .ok (.iconst 4, 1) := by decide +kernel
theorem dX10_keep_79 : decode cX10_keep 79 = .ok (.iadd, 1) := by decide +kernel
theorem dX10_keep_80 : decode cX10_keep 80 = .ok (.iload_n 3, 1) := by decide +kernel
theorem dX10_keep_81 : decode cX10_keep 81 = .ok (.iadd, 1) := by decide +kernel
theorem dX10_keep_82 : decode cX10_keep 82 = .ok (.aload_n 0, 1) := by decide +kernel
theorem dX10_keep_83 : decode cX10_keep 83 = .ok (.getfield 55, 3) := by decide +kernel
theorem dX10_keep_86 : decode cX10_keep 86 = .ok (.iload_n 3, 1) := by decide +kernel
theorem dX10_keep_87 : decode cX10_keep 87 = .ok (.iaload, 1) := by decide +kernel
theorem dX10_keep_88 : decode cX10_keep 88 = .ok (.iastore, 1) := by decide +kernel
theorem dX10_keep_89 : decode cX10_keep 89 = .ok (.iinc 3 1, 3) := by decide +kernel
theorem dX10_keep_92 : decode cX10_keep 92 = .ok (.goto (-25), 3) := by decide +kernel
theorem dX10_keep_95 : decode cX10_keep 95 = .ok (.iconst 0, 1) := by decide +kernel
theorem dX10_keep_96 : decode cX10_keep 96 = .ok (.istore_n 3, 1) := by decide +kernel
theorem dX10_keep_97 : decode cX10_keep 97 = .ok (.iload_n 3, 1) := by decide +kernel
theorem dX10_keep_98 : decode cX10_keep 98 = .ok (.bipush 72, 2) := by decide +kernel
theorem dX10_keep_100 : decode cX10_keep 100 = .ok (.if_icmp .ge 26, 3) := by decide +kernel
theorem dX10_keep_103 : decode cX10_keep 103 = .ok (.aload_n 0, 1) := by decide +kernel
theorem dX10_keep_104 : decode cX10_keep 104 = .ok (.getfield 88, 3) := by decide +kernel
theorem dX10_keep_107 : decode cX10_keep 107 = .ok (.iload_n 2, 1) := by decide +kernel
theorem dX10_keep_108 : decode cX10_keep 108 = .ok (.bipush 16, 2) := by decide +kernel
theorem dX10_keep_110 : decode cX10_keep 110 = .ok (.iadd, 1) := by decide +kernel
theorem dX10_keep_111 : decode cX10_keep 111 = .ok (.iload_n 3, 1) := by decide +kernel
theorem dX10_keep_112 : decode cX10_keep 112 = .ok (.iadd, 1) := by decide +kernel
theorem dX10_keep_113 : decode cX10_keep 113 = .ok (.aload_n 0, 1) := by decide +kernel
theorem dX10_keep_114 : decode cX10_keep 114 = .ok (.getfield 58, 3) := by decide +kernel
theorem dX10_keep_117 : decode cX10_keep 117 = .ok (.iload_n 3, 1) := by decide +kernel
theorem dX10_keep_118 : decode cX10_keep 118 = .ok (.iaload, 1) := by decide +kernel
theorem dX10_keep_119 : decode cX10_keep 119 = .ok (.iastore, 1) := by decide +kernel
theorem dX10_keep_120 : decode cX10_keep 120 = .ok (.iinc 3 1, 3) := by decide +kernel
theorem dX10_keep_123 : decode cX10_keep 123 = .ok (.goto (-26), 3) := by decide +kernel
theorem dX10_keep_126 : decode cX10_keep 126 = .ok (.iconst 0, 1) := by decide +kernel
theorem dX10_keep_127 : decode cX10_keep 127 = .ok (.istore_n 3, 1) := by decide +kernel
theorem dX10_keep_128 : decode cX10_keep 128 = .ok (.iload_n 3, 1) := by decide +kernel
theorem dX10_keep_129 : decode cX10_keep 129 = .ok (.bipush 6, 2) := by decide +kernel
theorem dX10_keep_131 : decode cX10_keep 131 = .ok (.if_icmp .ge 26, 3) := by decide +kernel
theorem dX10_keep_134 : decode cX10_keep 134 = .ok (.aload_n 0, 1) := by decide +kernel
theorem dX10_keep_135 : decode cX10_keep 135 = .ok (.getfield 88, 3) := by decide +kernel
theorem dX10_keep_138 : decode cX10_keep 138 = .ok (.iload_n 2, 1) := by decide +kernel
theorem dX10_keep_139 : decode cX10_keep 139 = .ok (.bipush 88, 2) := by decide +kernel
theorem dX10_keep_141 : decode cX10_keep 141 = .ok (.iadd, 1) := by decide +kernel
theorem dX10_keep_142 : decode cX10_keep 142 = .ok (.iload_n 3, 1) := by decide +kernel
theorem dX10_keep_143 : decode cX10_keep 143 = .ok (.iadd, 1) := by decide +kernel
theorem dX10_keep_144 : decode cX10_keep 144 = .ok (.aload_n 0, 1) := by decide +kernel
theorem dX10_keep_145 : decode cX10_keep 145 = .ok (.getfield 61, 3) := by decide +kernel
theorem dX10_keep_148 : decode cX10_keep 148 = .ok (.iload_n 3, 1) := by decide +kernel
theorem dX10_keep_149 : decode cX10_keep 149 = .ok (.iaload, 1) := by decide +kernel
theorem dX10_keep_150 : decode cX10_keep 150 = .ok (.iastore, 1) := by decide +kernel
theorem dX10_keep_151 : decode cX10_keep 151 = .ok (.iinc 3 1, 3) := by decide +kernel
theorem dX10_keep_154 : decode cX10_keep 154 = .ok (.goto (-26), 3) := by decide +kernel
theorem dX10_keep_157 : decode cX10_keep 157 = .ok (.iconst 0, 1) := by decide +kernel
theorem dX10_keep_158 : decode cX10_keep 158 = .ok (.istore_n 3, 1) := by decide +kernel
theorem dX10_keep_159 : decode cX10_keep 159 = .ok (.iload_n 3, 1) := by decide +kernel
theorem dX10_keep_160 : decode cX10_keep 160 = .ok (.bipush 8, 2) := by decide +kernel
theorem dX10_keep_162 : decode cX10_keep 162 = .ok (.if_icmp .ge 26, 3) := by decide +kernel
theorem dX10_keep_165 : decode cX10_keep 165 = .ok (.aload_n 0, 1) := by decide +kernel
theorem dX10_keep_166 : decode cX10_keep 166 = .ok (.getfield 88, 3) := by decide +kernel
theorem dX10_keep_169 : decode cX10_keep 169 = .ok (.iload_n 2, 1) := by decide +kernel
theorem dX10_keep_170 : decode cX10_keep 170 = .ok (.bipush 94, 2) := by decide +kernel
theorem dX10_keep_172 : decode cX10_keep 172 = .ok (.iadd, 1) := by decide +kernel
theorem dX10_keep_173 : decode cX10_keep 173 = .ok (.iload_n 3, 1) := by decide +kernel
theorem dX10_keep_174 : decode cX10_keep 174 = .ok (.iadd, 1) := by decide +kernel
theorem dX10_keep_175 : decode cX10_keep 175 = .ok (.aload_n 0, 1) := by decide +kernel
theorem dX10_keep_176 : decode cX10_keep 176 = .ok (.getfield 22, 3) := by decide +kernel
theorem dX10_keep_179 : decode cX10_keep 179 = .ok (.iload_n 3, 1) := by decide +kernel
theorem dX10_keep_180 : decode cX10_keep 180 = .ok (.iaload, 1) := by decide +kernel
theorem dX10_keep_181 : decode cX10_keep 181 = .ok (.iastore, 1) := by decide +kernel
theorem dX10_keep_182 : decode cX10_keep 182 = .ok (.iinc 3 1, 3) := by decide +kernel
theorem dX10_keep_185 : decode cX10_keep 185 = .ok (.goto (-26), 3) := by decide +kernel
theorem dX10_keep_188 : decode cX10_keep 188 = .ok (.aload_n 0, 1) := by decide +kernel
theorem dX10_keep_189 : decode cX10_keep 189 = .ok (.getfield 91, 3) := by decide +kernel
theorem dX10_keep_192 : decode cX10_keep 192 = .ok (.iload_n 1, 1) := by decide +kernel
theorem dX10_keep_193 : decode cX10_keep 193 = .ok (.aload_n 0, 1) := by decide +kernel
theorem dX10_keep_194 : decode cX10_keep 194 = .ok (.getfield 189, 3) := by decide +kernel
theorem dX10_keep_197 : decode cX10_keep 197 = .ok (.iastore, 1) := by decide +kernel
theorem dX10_keep_198 : decode cX10_keep 198 = .ok (.aload_n 0, 1) := by decide +kernel
theorem dX10_keep_199 : decode cX10_keep 199 = .ok (.getfield 94, 3) := by decide +kernel
theorem dX10_keep_202 : decode cX10_keep 202 = .ok (.iload_n 1, 1) := by decide +kernel
theorem dX10_keep_203 : decode cX10_keep 203 = .ok (.iconst 1, 1) := by decide +kernel
theorem dX10_keep_204 : decode cX10_keep 204 = .ok (.bastore, 1) := by decide +kernel
theorem dX10_keep_205 : decode cX10_keep 205 = .ok (.iconst 1, 1) := by decide +kernel
theorem dX10_keep_206 : decode cX10_keep 206 = .ok (.ireturn, 1) := by decide +kernel
theorem dX10_goBack_0 : decode cX10_goBack 0 = .ok (.iload_n 1, 1) := by decide +kernel
theorem dX10_goBack_1 : decode cX10_goBack 1 = .ok (.i2l, 1) := by decide +kernel
theorem dX10_goBack_2 : decode cX10_goBack 2 = .ok (.lconst 0, 1) := by decide +kernel
theorem dX10_goBack_3 : decode cX10_goBack 3 = .ok (.lconst 1, 1) := by decide +kernel
theorem dX10_goBack_4 : decode cX10_goBack 4 = .ok (.invokestatic 99, 3) := by decide +kernel
theorem dX10_goBack_7 : decode cX10_goBack 7 = .ok (.ifCond .ne 7, 3) := by decide +kernel
theorem dX10_goBack_10 : decode cX10_goBack 10 = .ok (.sipush (-1001), 3) := by decide +kernel
theorem dX10_goBack_13 : decode cX10_goBack 13 = .ok (.ireturn, 1) := by decide +kernel
theorem dX10_goBack_14 : decode cX10_goBack 14 = .ok (.aload_n 0, 1) := by decide +kernel
theorem dX10_goBack_15 : decode cX10_goBack 15 = .ok (.getfield 94, 3) := by decide +kernel
theorem dX10_goBack_18 : decode cX10_goBack 18 = .ok (.iload_n 1, 1) := by decide +kernel
theorem dX10_goBack_19 : decode cX10_goBack 19 = .ok (.baload, 1) := by decide +kernel
theorem dX10_goBack_20 : decode cX10_goBack 20 = .ok (.ifCond .eq 16, 3) := by decide +kernel
theorem dX10_goBack_23 : decode cX10_goBack 23 = .ok (.aload_n 0, 1) := by decide +kernel
theorem dX10_goBack_24 : decode cX10_goBack 24 = .ok (.getfield 91, 3) := by decide +kernel
theorem dX10_goBack_27 : decode cX10_goBack 27 = .ok (.iload_n 1, 1) := by decide +kernel
theorem dX10_goBack_28 : decode cX10_goBack 28 = .ok (.iaload, 1) := by decide +kernel
theorem dX10_goBack_29 : decode cX10_goBack 29 = .ok (.aload_n 0, 1) := by decide +kernel
theorem dX10_goBack_30 : decode cX10_goBack 30 = .ok (.getfield 189, 3) := by decide +kernel
theorem dX10_goBack_33 : decode cX10_goBack 33 = .ok (.if_icmp .eq 7, 3) := by decide +kernel
theorem dX10_goBack_36 : decode cX10_goBack 36 = .ok (.sipush (-1003), 3) := by decide +kernel
theorem dX10_goBack_39 : decode cX10_goBack 39 = .ok (.ireturn, 1) := by decide +kernel
theorem dX10_goBack_40 : decode cX10_goBack 40 = .ok (.bipush 110, 2) := by decide +kernel
theorem dX10_goBack_42 : decode cX10_goBack 42 = .ok (.iload_n 1, 1) := by decide +kernel
theorem dX10_goBack_43 : decode cX10_goBack 43 = .ok (.imul, 1) := by decide +kernel
theorem dX10_goBack_44 : decode cX10_goBack 44 = .ok (.istore_n 2, 1) := by decide +kernel
theorem dX10_goBack_45 : decode cX10_goBack 45 = .ok (.aload_n 0, 1) := by decide +kernel
theorem dX10_goBack_46 : decode cX10_goBack 46 = .ok (.aload_n 0, 1) := by decide +kernel
theorem dX10_goBack_47 : decode cX10_goBack 47 = .ok (.getfield 88, 3) := by decide +kernel
theorem dX10_goBack_50 : decode cX10_goBack 50 = .ok (.iload_n 2, 1) := by decide +kernel
theorem dX10_goBack_51 : decode cX10_goBack 51 = .ok (.iaload, 1) := by decide +kernel
theorem dX10_goBack_52 : decode cX10_goBack 52 = .ok (.putfield 177, 3) := by decide +kernel
theorem dX10_goBack_55 : decode cX10_goBack 55 = .ok (.aload_n 0, 1) := by decide +kernel
theorem dX10_goBack_56 : decode cX10_goBack 56 = .ok (.aload_n 0, 1) := by decide +kernel
theorem dX10_goBack_57 : decode cX10_goBack 57 = .ok (.getfield 88, 3) := by decide +kernel
theorem dX10_goBack_60 : decode cX10_goBack 60 = .ok (.iload_n 2, 1) := by decide +kernel
theorem dX10_goBack_61 : decode cX10_goBack 61 = .ok (.iconst 1, 1) := by decide +kernel
theorem dX10_goBack_62 : decode cX10_goBack 62 = .ok (.iadd, 1) := by decide +kernel
theorem dX10_goBack_63 : decode cX10_goBack 63 = .ok (.iaload, 1) := by decide +kernel
theorem dX10_goBack_64 : decode cX10_goBack 64 = .ok (.putfield 180, 3) := by decide +kernel
theorem dX10_goBack_67 : decode cX10_goBack 67 = .ok (.aload_n 0, 1) := by decide +kernel
theorem dX10_goBack_68 : decode cX10_goBack 68 = .ok (.aload_n 0, 1) := by decide +kernel
theorem dX10_goBack_69 : decode cX10_goBack 69 = .ok (.getfield 88, 3) := by decide +kernel
theorem dX10_goBack_72 : decode cX10_goBack 72 = .ok (.iload_n 2, 1) := by decide +kernel
theorem dX10_goBack_73 : decode cX10_goBack 73 = .ok (.iconst 2, 1) := by decide +kernel
theorem dX10_goBack_74 : decode cX10_goBack 74 = .ok (.iadd, 1) := by decide +kernel
theorem dX10_goBack_75 : decode cX10_goBack 75 = .ok (.iaload, 1) := by decide +kernel
theorem dX10_goBack_76 : decode cX10_goBack 76 = .ok (.putfield 183, 3) := by decide +kernel
theorem dX10_goBack_79 : decode cX10_goBack 79 = .ok (.aload_n 0, 1) := by decide +kernel
theorem dX10_goBack_80 : decode cX10_goBack 80 = .ok (.aload_n 0, 1) := by decide +kernel
theorem dX10_goBack_81 : decode cX10_goBack 81 = .ok (.getfield 88, 3) := by decide +kernel
theorem dX10_goBack_84 : decode cX10_goBack 84 = .ok (.iload_n 2, 1) := by decide +kernel
theorem dX10_goBack_85 : decode cX10_goBack 85 = .ok (.iconst 3, 1) := by decide +kernel
theorem dX10_goBack_86 : decode cX10_goBack 86 = .ok (.iadd, 1) := by decide +kernel
theorem dX10_goBack_87 : decode cX10_goBack 87 = .ok (.iaload, 1) := by decide +kernel
theorem dX10_goBack_88 : decode cX10_goBack 88 = .ok (.putfield 186, 3) := by decide +kernel
theorem dX10_goBack_91 : decode cX10_goBack 91 = .ok (.iconst 0, 1) := by decide +kernel
theorem dX10_goBack_92 : decode cX10_goBack 92 = .ok (.istore_n 3, 1) := by decide +kernel
theorem dX10_goBack_93 : decode cX10_goBack 93 = .ok (.iload_n 3, 1) := by decide +kernel
theorem dX10_goBack_94 : decode cX10_goBack 94 = .ok (.bipush 12, 2) := by decide +kernel
theorem dX10_goBack_96 : decode cX10_goBack 96 = .ok (.if_icmp .ge 25, 3) := by decide +kernel
theorem dX10_goBack_99 : decode cX10_goBack 99 = .ok (.aload_n 0, 1) := by decide +kernel
theorem dX10_goBack_100 : decode cX10_goBack 100 = .ok (.getfield 55, 3) := by decide +kernel
theorem dX10_goBack_103 : decode cX10_goBack 103 = .ok (.iload_n 3, 1) := by decide +kernel
theorem dX10_goBack_104 : decode cX10_goBack 104 = .ok (.aload_n 0, 1) := by decide +kernel
theorem dX10_goBack_105 : decode cX10_goBack 105 = .ok (.getfield 88, 3) := by decide +kernel
theorem dX10_goBack_108 : decode cX10_goBack 108 = .ok (.iload_n 2, 1) := by decide +kernel
theorem dX10_goBack_109 : decode cX10_goBack 109 = .ok (.iconst 4, 1) := by decide +kernel
theorem dX10_goBack_110 : decode cX10_goBack 110 = .ok (.iadd, 1) := by decide +kernel
theorem dX10_goBack_111 : decode cX10_goBack 111 = .ok (.iload_n 3, 1) := by decide +kernel
theorem dX10_goBack_112 : decode cX10_goBack 112 = .ok (.iadd, 1) := by decide +kernel
theorem dX10_goBack_113 : decode cX10_goBack 113 = .ok (.iaload, 1) := by decide +kernel
theorem dX10_goBack_114 : decode cX10_goBack 114 = .ok (.iastore, 1) := by decide +kernel
theorem dX10_goBack_115 : decode cX10_goBack 115 = .ok (.iinc 3 1, 3) := by decide +kernel
theorem dX10_goBack_118 : decode cX10_goBack 118 = .ok (.goto (-25), 3) := by decide +kernel
theorem dX10_goBack_121 : decode cX10_goBack 121 = .ok (.iconst 0, 1) := by decide +kernel
theorem dX10_goBack_122 : decode cX10_goBack 122 = .ok (.istore_n 3, 1) := by decide +kernel
theorem dX10_goBack_123 : decode cX10_goBack 123 = .ok (.iload_n 3, 1) := by decide +kernel
theorem dX10_goBack_124 : decode cX10_goBack 124 = .ok (.bipush 72, 2) := by decide +kernel
theorem dX10_goBack_126 : decode cX10_goBack 126 = .ok (.if_icmp .ge 26, 3) := by decide +kernel
theorem dX10_goBack_129 : decode cX10_goBack 129 = .ok (.aload_n 0, 1) := by decide +kernel
theorem dX10_goBack_130 : decode cX10_goBack 130 = .ok (.getfield 58, 3) := by decide +kernel
theorem dX10_goBack_133 : decode cX10_goBack 133 = .ok (.iload_n 3, 1) := by decide +kernel
theorem dX10_goBack_134 : decode cX10_goBack 134 = .ok (.aload_n 0, 1) := by decide +kernel
theorem dX10_goBack_135 : decode cX10_goBack 135 = .ok (.getfield 88, 3) := by decide +kernel
theorem dX10_goBack_138 : decode cX10_goBack 138 = .ok (.iload_n 2, 1) := by decide +kernel
theorem dX10_goBack_139 : decode cX10_goBack 139 = .ok (.bipush 16, 2) := by decide +kernel
theorem dX10_goBack_141 : decode cX10_goBack 141 = .ok (.iadd, 1) := by decide +kernel
theorem dX10_goBack_142 : decode cX10_goBack 142 = .ok (.iload_n 3, 1) := by decide +kernel
theorem dX10_goBack_143 : decode cX10_goBack 143 = .ok (.iadd, 1) := by decide +kernel
theorem dX10_goBack_144 : decode cX10_goBack 144 = .ok (.iaload, 1) := by decide +kernel
theorem dX10_goBack_145 : decode cX10_goBack 145 = .ok (.iastore, 1) := by decide +kernel
theorem dX10_goBack_146 : decode cX10_goBack 146 = .ok (.iinc 3 1, 3) := by decide +kernel
theorem dX10_goBack_149 : decode cX10_goBack 149 = .ok (.goto (-26), 3) := by decide +kernel
theorem dX10_goBack_152 : decode cX10_goBack 152 = .ok (.iconst 0, 1) := by decide +kernel
theorem dX10_goBack_153 : decode cX10_goBack 153 = .ok (.istore_n 3, 1) := by decide +kernel
theorem dX10_goBack_154 : decode cX10_goBack 154 = .ok (.iload_n 3, 1) := by decide +kernel
theorem dX10_goBack_155 : decode cX10_goBack 155 = .ok (.bipush 6, 2) := by decide +kernel
theorem dX10_goBack_157 : decode cX10_goBack 157 = .ok (.if_icmp .ge 26, 3) := by decide +kernel
theorem dX10_goBack_160 : decode cX10_goBack 160 = .ok (.aload_n 0, 1) := by decide +kernel
theorem dX10_goBack_161 : decode cX10_goBack 161 = .ok (.getfield 61, 3) := by decide +kernel
theorem dX10_goBack_164 : decode cX10_goBack 164 = .ok (.iload_n 3, 1) := by decide +kernel
theorem dX10_goBack_165 : decode cX10_goBack 165 = .ok (.aload_n 0, 1) := by decide +kernel
theorem dX10_goBack_166 : decode cX10_goBack 166 = .ok (.getfield 88, 3) := by decide +kernel
theorem dX10_goBack_169 : decode cX10_goBack 169 = .ok (.iload_n 2, 1) := by decide +kernel
theorem dX10_goBack_170 : decode cX10_goBack 170 = .ok (.bipush 88, 2) := by decide +kernel
theorem dX10_goBack_172 : decode cX10_goBack 172 = .ok (.iadd, 1) := by decide +kernel
theorem dX10_goBack_173 : decode cX10_goBack 173 = .ok (.iload_n 3, 1) := by decide +kernel
theorem dX10_goBack_174 : decode cX10_goBack 174 = .ok (.iadd, 1) := by decide +kernel
theorem dX10_goBack_175 : decode cX10_goBack 175 = .ok (.iaload, 1) := by decide +kernel
theorem dX10_goBack_176 : decode cX10_goBack 176 = .ok (.iastore, 1) := by decide +kernel
theorem dX10_goBack_177 : decode cX10_goBack 177 = .ok (.iinc 3 1, 3) := by decide +kernel
theorem dX10_goBack_180 : decode cX10_goBack 180 = .ok (.goto (-26), 3) := by decide +kernel
theorem dX10_goBack_183 : decode cX10_goBack 183 = .ok (.iconst 0, 1) := by decide +kernel
theorem dX10_goBack_184 : decode cX10_goBack 184 = .ok (.istore_n 3, 1) := by decide +kernel
theorem dX10_goBack_185 : decode cX10_goBack 185 = .ok (.iload_n 3, 1) := by decide +kernel
theorem dX10_goBack_186 : decode cX10_goBack 186 = .ok (.bipush 8, 2) := by decide +kernel
theorem dX10_goBack_188 : decode cX10_goBack 188 = .ok (.if_icmp .ge 26, 3) := by decide +kernel
theorem dX10_goBack_191 : decode cX10_goBack 191 = .ok (.aload_n 0, 1) := by decide +kernel
theorem dX10_goBack_192 : decode cX10_goBack 192 = .ok (.getfield 22, 3) := by decide +kernel
theorem dX10_goBack_195 : decode cX10_goBack 195 = .ok (.iload_n 3, 1) := by decide +kernel
theorem dX10_goBack_196 : decode cX10_goBack 196 = .ok (.aload_n 0, 1) := by decide +kernel
theorem dX10_goBack_197 : decode cX10_goBack 197 = .ok (.getfield 88, 3) := by decide +kernel
theorem dX10_goBack_200 : decode cX10_goBack 200 = .ok (.iload_n 2, 1) := by decide +kernel
theorem dX10_goBack_201 : decode cX10_goBack 201 = .ok (.bipush 94, 2) := by decide +kernel
theorem dX10_goBack_203 : decode cX10_goBack 203 = .ok (.iadd, 1) := by decide +kernel
theorem dX10_goBack_204 : decode cX10_goBack 204 = .ok (.iload_n 3, 1) := by decide +kernel
theorem dX10_goBack_205 : decode cX10_goBack 205 = .ok (.iadd, 1) := by decide +kernel
theorem dX10_goBack_206 : decode cX10_goBack 206 = .ok (.iaload, 1) := by decide +kernel
theorem dX10_goBack_207 : decode cX10_goBack 207 = .ok (.iastore, 1) := by decide +kernel
theorem dX10_goBack_208 : decode cX10_goBack 208 = .ok (.iinc 3 1, 3) := by decide +kernel
theorem dX10_goBack_211 : decode cX10_goBack 211 = .ok (.goto (-26), 3) := by decide +kernel
theorem dX10_goBack_214 : decode cX10_goBack 214 = .ok (.iconst 1, 1) := by decide +kernel
theorem dX10_goBack_215 : decode cX10_goBack 215 = .ok (.ireturn, 1) := by decide +kernel
theorem dJ6_bitCount_0f7a4_0 : decode cJ6_bitCount_0f7a4 0 = .ok (.iload_n 0, 1) := by decide +kernel
theorem dJ6_bitCount_0f7a4_1 : decode cJ6_bitCount_0f7a4 1 = .ok (.iload_n 0, 1) := by decide +kernel
theorem dJ6_bitCount_0f7a4_2 : decode cJ6_bitCount_0f7a4 2 = .ok (.iconst 1, 1) := by decide +kernel
theorem dJ6_bitCount_0f7a4_3 : decode cJ6_bitCount_0f7a4 3 = .ok (.iushr, 1) := by decide +kernel
theorem dJ6_bitCount_0f7a4_4 : decode cJ6_bitCount_0f7a4 4 = .ok (.ldc_w 265, 3) := by decide +kernel
theorem dJ6_bitCount_0f7a4_7 : decode cJ6_bitCount_0f7a4 7 = .ok (.iand, 1) := by decide +kernel
theorem dJ6_bitCount_0f7a4_8 : decode cJ6_bitCount_0f7a4 8 = .ok (.isub, 1) := by decide +kernel
theorem dJ6_bitCount_0f7a4_9 : decode cJ6_bitCount_0f7a4 9 = .ok (.istore_n 0, 1) := by decide +kernel
theorem dJ6_bitCount_0f7a4_10 : decode cJ6_bitCount_0f7a4 10 = .ok (.iload_n 0, 1) := by decide +kernel
theorem dJ6_bitCount_0f7a4_11 : decode cJ6_bitCount_0f7a4 11 = .ok (.ldc_w 266, 3) := by decide +kernel
theorem dJ6_bitCount_0f7a4_14 : decode cJ6_bitCount_0f7a4 14 = .ok (.iand, 1) := by decide +kernel
theorem dJ6_bitCount_0f7a4_15 : decode cJ6_bitCount_0f7a4 15 = .ok (.iload_n 0, 1) := by decide +kernel
theorem dJ6_bitCount_0f7a4_16 : decode cJ6_bitCount_0f7a4 16 = .ok (.iconst 2, 1) := by decide +kernel
theorem dJ6_bitCount_0f7a4_17 : decode cJ6_bitCount_0f7a4 17 = .ok (.iushr, 1) := by decide +kernel
theorem dJ6_bitCount_0f7a4_18 : decode cJ6_bitCount_0f7a4 18 = .ok (.ldc_w 266, 3) := by decide +kernel
theorem dJ6_bitCount_0f7a4_21 : decode cJ6_bitCount_0f7a4 21 = .ok (.iand, 1) := by decide +kernel
theorem dJ6_bitCount_0f7a4_22 : decode cJ6_bitCount_0f7a4 22 = .ok (.iadd, 1) := by decide +kernel
theorem dJ6_bitCount_0f7a4_23 : decode cJ6_bitCount_0f7a4 23 = .ok (.istore_n 0, 1) := by decide +kernel
theorem dJ6_bitCount_0f7a4_24 : decode cJ6_bitCount_0f7a4 24 = .ok (.iload_n 0, 1) := by decide +kernel
theorem dJ6_bitCount_0f7a4_25 : decode cJ6_bitCount_0f7a4 25 = .ok (.iload_n 0, 1) := by decide +kernel
theorem dJ6_bitCount_0f7a4_26 : decode cJ6_bitCount_0f7a4 26 = .ok (.iconst 4, 1) := by decide +kernel
theorem dJ6_bitCount_0f7a4_27 : decode cJ6_bitCount_0f7a4 27 = .ok (.iushr, 1) := by decide +kernel
theorem dJ6_bitCount_0f7a4_28 : decode cJ6_bitCount_0f7a4 28 = .ok (.iadd, 1) := by decide +kernel
theorem dJ6_bitCount_0f7a4_29 : decode cJ6_bitCount_0f7a4 29 = .ok (.ldc_w 267, 3) := by decide +kernel
theorem dJ6_bitCount_0f7a4_32 : decode cJ6_bitCount_0f7a4 32 = .ok (.iand, 1) := by decide +kernel
theorem dJ6_bitCount_0f7a4_33 : decode cJ6_bitCount_0f7a4 33 = .ok (.istore_n 0, 1) := by decide +kernel
theorem dJ6_bitCount_0f7a4_34 : decode cJ6_bitCount_0f7a4 34 = .ok (.iload_n 0, 1) := by decide +kernel
theorem dJ6_bitCount_0f7a4_35 : decode cJ6_bitCount_0f7a4 35 = .ok (.iload_n 0, 1) := by decide +kernel
theorem dJ6_bitCount_0f7a4_36 : decode cJ6_bitCount_0f7a4 36 = .ok (.bipush 8, 2) := by decide +kernel
theorem dJ6_bitCount_0f7a4_38 : decode cJ6_bitCount_0f7a4 38 = .ok (.iushr, 1) := by decide +kernel
theorem dJ6_bitCount_0f7a4_39 : decode cJ6_bitCount_0f7a4 39 = .ok (.iadd, 1) := by decide +kernel
theorem dJ6_bitCount_0f7a4_40 : decode cJ6_bitCount_0f7a4 40 = .ok (.istore_n 0, 1) := by decide +kernel
theorem dJ6_bitCount_0f7a4_41 : decode cJ6_bitCount_0f7a4 41 = .ok (.iload_n 0, 1) := by decide +kernel
theorem dJ6_bitCount_0f7a4_42 : decode cJ6_bitCount_0f7a4 42 = .ok (.iload_n 0, 1) := by decide +kernel
theorem dJ6_bitCount_0f7a4_43 : decode cJ6_bitCount_0f7a4 43 = .ok (.bipush 16, 2) := by decide +kernel
theorem dJ6_bitCount_0f7a4_45 : decode cJ6_bitCount_0f7a4 45 = .ok (.iushr, 1) := by decide +kernel
theorem dJ6_bitCount_0f7a4_46 : decode cJ6_bitCount_0f7a4 46 = .ok (.iadd, 1) := by decide +kernel
theorem dJ6_bitCount_0f7a4_47 : decode cJ6_bitCount_0f7a4 47 = .ok (.istore_n 0, 1) := by decide +kernel
theorem dJ6_bitCount_0f7a4_48 : decode cJ6_bitCount_0f7a4 48 = .ok (.iload_n 0, 1) := by decide +kernel
theorem dJ6_bitCount_0f7a4_49 : decode cJ6_bitCount_0f7a4 49 = .ok (.bipush 63, 2) := by decide +kernel
theorem dJ6_bitCount_0f7a4_51 : decode cJ6_bitCount_0f7a4 51 = .ok (.iand, 1) := by decide +kernel
theorem dJ6_bitCount_0f7a4_52 : decode cJ6_bitCount_0f7a4 52 = .ok (.ireturn, 1) := by decide +kernel
theorem dJ9_max_7cf53_0 : decode cJ9_max_7cf53 0 = .ok (.iload_n 0, 1) := by decide +kernel
theorem dJ9_max_7cf53_1 : decode cJ9_max_7cf53 1 = .ok (.iload_n 1, 1) := by decide +kernel
theorem dJ9_max_7cf53_2 : decode cJ9_max_7cf53 2 = .ok (.if_icmp .lt 7, 3) := by decide +kernel
theorem dJ9_max_7cf53_5 : decode cJ9_max_7cf53 5 = .ok (.iload_n 0, 1) := by decide +kernel
theorem dJ9_max_7cf53_6 : decode cJ9_max_7cf53 6 = .ok (.goto 4, 3) := by decide +kernel
theorem dJ9_max_7cf53_9 : decode cJ9_max_7cf53 9 = .ok (.iload_n 1, 1) := by decide +kernel
theorem dJ9_max_7cf53_10 : decode cJ9_max_7cf53 10 = .ok (.ireturn, 1) := by decide +kernel
theorem dJ9_max_f86c9_0 : decode cJ9_max_f86c9 0 = .ok (.lload_n 0, 1) := by decide +kernel
theorem dJ9_max_f86c9_1 : decode cJ9_max_f86c9 1 = .ok (.lload_n 2, 1) := by decide +kernel
theorem dJ9_max_f86c9_2 : decode cJ9_max_f86c9 2 = .ok (.lcmp, 1) := by decide +kernel
theorem dJ9_max_f86c9_3 : decode cJ9_max_f86c9 3 = .ok (.ifCond .lt 7, 3) := by decide +kernel
theorem dJ9_max_f86c9_6 : decode cJ9_max_f86c9 6 = .ok (.lload_n 0, 1) := by decide +kernel
theorem dJ9_max_f86c9_7 : decode cJ9_max_f86c9 7 = .ok (.goto 4, 3) := by decide +kernel
theorem dJ9_max_f86c9_10 : decode cJ9_max_f86c9 10 = .ok (.lload_n 2, 1) := by decide +kernel
theorem dJ9_max_f86c9_11 : decode cJ9_max_f86c9 11 = .ok (.lreturn, 1) := by decide +kernel
theorem dJ9_min_7cf53_0 : decode cJ9_min_7cf53 0 = .ok (.iload_n 0, 1) := by decide +kernel
theorem dJ9_min_7cf53_1 : decode cJ9_min_7cf53 1 = .ok (.iload_n 1, 1) := by decide +kernel
theorem dJ9_min_7cf53_2 : decode cJ9_min_7cf53 2 = .ok (.if_icmp .gt 7, 3) := by decide +kernel
theorem dJ9_min_7cf53_5 : decode cJ9_min_7cf53 5 = .ok (.iload_n 0, 1) := by decide +kernel
theorem dJ9_min_7cf53_6 : decode cJ9_min_7cf53 6 = .ok (.goto 4, 3) := by decide +kernel
theorem dJ9_min_7cf53_9 : decode cJ9_min_7cf53 9 = .ok (.iload_n 1, 1) := by decide +kernel
theorem dJ9_min_7cf53_10 : decode cJ9_min_7cf53 10 = .ok (.ireturn, 1) := by decide +kernel
theorem dJ9_min_f86c9_0 : decode cJ9_min_f86c9 0 = .ok (.lload_n 0, 1) := by decide +kernel
theorem dJ9_min_f86c9_1 : decode cJ9_min_f86c9 1 = .ok (.lload_n 2, 1) := by decide +kernel
theorem dJ9_min_f86c9_2 : decode cJ9_min_f86c9 2 = .ok (.lcmp, 1) := by decide +kernel
theorem dJ9_min_f86c9_3 : decode cJ9_min_f86c9 3 = .ok (.ifCond .gt 7, 3) := by decide +kernel
theorem dJ9_min_f86c9_6 : decode cJ9_min_f86c9 6 = .ok (.lload_n 0, 1) := by decide +kernel
theorem dJ9_min_f86c9_7 : decode cJ9_min_f86c9 7 = .ok (.goto 4, 3) := by decide +kernel
theorem dJ9_min_f86c9_10 : decode cJ9_min_f86c9 10 = .ok (.lload_n 2, 1) := by decide +kernel
theorem dJ9_min_f86c9_11 : decode cJ9_min_f86c9 11 = .ok (.lreturn, 1) := by decide +kernel
theorem dJ0_charAt_5068e_0 : decode cJ0_charAt_5068e 0 = .ok (.aload_n 0, 1) := by decide +kernel
theorem dJ0_charAt_5068e_1 : decode cJ0_charAt_5068e 1 = .ok (.invokevirtual 492, 3) := by decide +kernel
theorem dJ0_charAt_5068e_4 : decode cJ0_charAt_5068e 4 = .ok (.ifCond .eq 12, 3) := by decide +kernel
theorem dJ0_charAt_5068e_7 : decode cJ0_charAt_5068e 7 = .ok (.aload_n 0, 1) := by decide +kernel
theorem dJ0_charAt_5068e_8 : decode cJ0_charAt_5068e 8 = .ok (.getfield 9, 3) := by decide +kernel
theorem dJ0_charAt_5068e_11 : decode cJ0_charAt_5068e 11 = .ok (.iload_n 1, 1) := by decide +kernel
theorem dJ0_charAt_5068e_12 : decode cJ0_charAt_5068e 12 = .ok (.invokestatic 495, 3) := by decide +kernel
theorem dJ0_charAt_5068e_15 : decode cJ0_charAt_5068e 15 = .ok (.ireturn, 1) := by decide +kernel
theorem dJ0_charAt_5068e_16 : decode cJ0_charAt_5068e 16 = .ok (.aload_n 0, 1) := by decide +kernel
theorem dJ0_charAt_5068e_17 : decode cJ0_charAt_5068e 17 = .ok (.getfield 9, 3) := by decide +kernel
theorem dJ0_charAt_5068e_20 : decode cJ0_charAt_5068e 20 = .ok (.iload_n 1, 1) := by decide +kernel
theorem dJ0_charAt_5068e_21 : decode cJ0_charAt_5068e 21 = .ok (.invokestatic 498, 3) := by decide +kernel
theorem dJ0_charAt_5068e_24 : decode cJ0_charAt_5068e 24 = .ok (.ireturn, 1) := by decide +kernel
theorem dJ0_isLatin1_aae02_0 : decode cJ0_isLatin1_aae02 0 = .ok (.getstatic 38, 3) := by decide +kernel
theorem dJ0_isLatin1_aae02_3 : decode cJ0_isLatin1_aae02 3 = .ok (.ifCond .eq 14, 3) := by decide +kernel
theorem dJ0_isLatin1_aae02_6 : decode cJ0_isLatin1_aae02 6 = .ok (.aload_n 0, 1) := by decide +kernel
theorem dJ0_isLatin1_aae02_7 : decode cJ0_isLatin1_aae02 7 = .ok (.getfield 15, 3) := by decide +kernel
theorem dJ0_isLatin1_aae02_10 : decode cJ0_isLatin1_aae02 10 = .ok (.ifCond .ne 7, 3) := by decide +kernel
theorem dJ0_isLatin1_aae02_13 : decode cJ0_isLatin1_aae02 13 = .ok (.iconst 1, 1) := by decide +kernel
theorem dJ0_isLatin1_aae02_14 : decode cJ0_isLatin1_aae02 14 = .ok (.goto 4, 3) := by decide +kernel
theorem dJ0_isLatin1_aae02_17 : decode cJ0_isLatin1_aae02 17 = .ok (.iconst 0, 1) := by decide +kernel
theorem dJ0_isLatin1_aae02_18 : decode cJ0_isLatin1_aae02 18 = .ok (.ireturn, 1) := by decide +kernel
theorem dJ0_checkIndex_df160_0 : decode cJ0_checkIndex_df160 0 = .ok (.iload_n 0, 1) := by decide +kernel
theorem dJ0_checkIndex_df160_1 : decode cJ0_checkIndex_df160 1 = .ok (.iload_n 1, 1) := by decide +kernel
theorem dJ0_checkIndex_df160_2 : decode cJ0_checkIndex_df160 2 = .ok (.getstatic 1053, 3) := by decide +kernel
theorem dJ0_checkIndex_df160_5 : decode cJ0_checkIndex_df160 5 = .ok (.invokestatic 1059, 3) := by decide +kernel
theorem dJ0_checkIndex_df160_8 : decode cJ0_checkIndex_df160 8 = .ok (.pop, 1) := by decide +kernel
theorem dJ0_checkIndex_df160_9 : decode cJ0_checkIndex_df160 9 = .ok (.return_, 1) := by decide +kernel
theorem dJ1_charAt_3b067_0 : decode cJ1_charAt_3b067 0 = .ok (.iload_n 1, 1) := by decide +kernel
theorem dJ1_charAt_3b067_1 : decode cJ1_charAt_3b067 1 = .ok (.aload_n 0, 1) := by decide +kernel
theorem dJ1_charAt_3b067_2 : decode cJ1_charAt_3b067 2 = .ok (.arraylength, 1) := by decide +kernel
theorem dJ1_charAt_3b067_3 : decode cJ1_charAt_3b067 3 = .ok (.invokestatic 9, 3) := by decide +kernel
theorem dJ1_charAt_3b067_6 : decode cJ1_charAt_3b067 6 = .ok (.aload_n 0, 1) := by decide +kernel
theorem dJ1_charAt_3b067_7 : decode cJ1_charAt_3b067 7 = .ok (.iload_n 1, 1) := by decide +kernel
theorem dJ1_charAt_3b067_8 : decode cJ1_charAt_3b067 8 = .ok (.baload, 1) := by decide +kernel
theorem dJ1_charAt_3b067_9 : decode cJ1_charAt_3b067 9 = .ok (.sipush 255, 3) := by decide +kernel
theorem dJ1_charAt_3b067_12 : decode cJ1_charAt_3b067 12 = .ok (.iand, 1) := by decide +kernel
end
section
theorem dJ1_charAt_3b067_13 : decode cJ1_charAt_3b067 13 = .ok (.i2c, 1) := by decide +kernel
theorem dJ1_charAt_3b067_14 : decode cJ1_charAt_3b067 14 = .ok (.ireturn, 1) := by decide +kernel
theorem dJ2_getChar_3b067_0 : decode cJ2_getChar_3b067 0 = .ok (.getstatic 44, 3) := by decide +kernel
theorem dJ2_getChar_3b067_3 : decode cJ2_getChar_3b067 3 = .ok (.ifCond .ne 25, 3) := by decide +kernel
theorem dJ2_getChar_3b067_6 : decode cJ2_getChar_3b067 6 = .ok (.iload_n 1, 1) := by decide +kernel
theorem dJ2_getChar_3b067_7 : decode cJ2_getChar_3b067 7 = .ok (.ifCond .lt 11, 3) := by decide +kernel
theorem dJ2_getChar_3b067_10 : decode cJ2_getChar_3b067 10 = .ok (.iload_n 1, 1) := by decide +kernel
theorem dJ2_getChar_3b067_11 : decode cJ2_getChar_3b067 11 = .ok (.aload_n 0, 1) := by decide +kernel
theorem dJ2_getChar_3b067_12 : decode cJ2_getChar_3b067 12 = .ok (.invokestatic 48, 3) := by decide +kernel
theorem dJ2_getChar_3b067_15 : decode cJ2_getChar_3b067 15 = .ok (.if_icmp .lt 13, 3) := by decide +kernel
theorem dJ2_getChar_3b067_18 : decode cJ2_getChar_3b067 18 = .ok (.new 52, 3) := by decide +kernel
theorem dJ2_getChar_3b067_21 : decode cJ2_getChar_3b067 21 = .ok (.dup, 1) := by decide +kernel
theorem dJ2_getChar_3b067_22 : decode cJ2_getChar_3b067 22 = .ok (.ldc 54, 2) := by decide +kernel
theorem dJ2_getChar_3b067_24 : decode cJ2_getChar_3b067 24 = .ok (.invokespecial 56, 3) := by decide +kernel
theorem dJ2_getChar_3b067_27 : decode cJ2_getChar_3b067 27 = .ok (.athrow, 1) := by decide +kernel
theorem dJ2_getChar_3b067_28 : decode cJ2_getChar_3b067 28 = .ok (.iload_n 1, 1) := by decide +kernel
theorem dJ2_getChar_3b067_29 : decode cJ2_getChar_3b067 29 = .ok (.iconst 1, 1) := by decide +kernel
theorem dJ2_getChar_3b067_30 : decode cJ2_getChar_3b067 30 = .ok (.ishl, 1) := by decide +kernel
theorem dJ2_getChar_3b067_31 : decode cJ2_getChar_3b067 31 = .ok (.istore_n 1, 1) := by decide +kernel
theorem dJ2_getChar_3b067_32 : decode cJ2_getChar_3b067 32 = .ok (.aload_n 0, 1) := by decide +kernel
theorem dJ2_getChar_3b067_33 : decode cJ2_getChar_3b067 33 = .ok (.iload_n 1, 1) := by decide +kernel
theorem dJ2_getChar_3b067_34 : decode cJ2_getChar_3b067 34 = .ok (.iinc 1 1, 3) := by decide +kernel
theorem dJ2_getChar_3b067_37 : decode cJ2_getChar_3b067 37 = .ok (.baload, 1) := by decide +kernel
theorem dJ2_getChar_3b067_38 : decode cJ2_getChar_3b067 38 = .ok (.sipush 255, 3) := by decide +kernel
theorem dJ2_getChar_3b067_41 : decode cJ2_getChar_3b067 41 = .ok (.iand, 1) := by decide +kernel
theorem dJ2_getChar_3b067_42 : decode cJ2_getChar_3b067 42 = .ok (.getstatic 59, 3) := by decide +kernel
theorem dJ2_getChar_3b067_45 : decode cJ2_getChar_3b067 45 = .ok (.ishl, 1) := by decide +kernel
theorem dJ2_getChar_3b067_46 : decode cJ2_getChar_3b067 46 = .ok (.aload_n 0, 1) := by decide +kernel
theorem dJ2_getChar_3b067_47 : decode cJ2_getChar_3b067 47 = .ok (.iload_n 1, 1) := by decide +kernel
theorem dJ2_getChar_3b067_48 : decode cJ2_getChar_3b067 48 = .ok (.baload, 1) := by decide +kernel
theorem dJ2_getChar_3b067_49 : decode cJ2_getChar_3b067 49 = .ok (.sipush 255, 3) := by decide +kernel
theorem dJ2_getChar_3b067_52 : decode cJ2_getChar_3b067 52 = .ok (.iand, 1) := by decide +kernel
theorem dJ2_getChar_3b067_53 : decode cJ2_getChar_3b067 53 = .ok (.getstatic 63, 3) := by decide +kernel
theorem dJ2_getChar_3b067_56 : decode cJ2_getChar_3b067 56 = .ok (.ishl, 1) := by decide +kernel
theorem dJ2_getChar_3b067_57 : decode cJ2_getChar_3b067 57 = .ok (.ior, 1) := by decide +kernel
theorem dJ2_getChar_3b067_58 : decode cJ2_getChar_3b067 58 = .ok (.i2c, 1) := by decide +kernel
theorem dJ2_getChar_3b067_59 : decode cJ2_getChar_3b067 59 = .ok (.ireturn, 1) := by decide +kernel
theorem dJ2_length_9d52b_0 : decode cJ2_length_9d52b 0 = .ok (.aload_n 0, 1) := by decide +kernel
theorem dJ2_length_9d52b_1 : decode cJ2_length_9d52b 1 = .ok (.arraylength, 1) := by decide +kernel
theorem dJ2_length_9d52b_2 : decode cJ2_length_9d52b 2 = .ok (.iconst 1, 1) := by decide +kernel
theorem dJ2_length_9d52b_3 : decode cJ2_length_9d52b 3 = .ok (.ishr, 1) := by decide +kernel
theorem dJ2_length_9d52b_4 : decode cJ2_length_9d52b 4 = .ok (.ireturn, 1) := by decide +kernel
theorem dJ2_charAt_3b067_0 : decode cJ2_charAt_3b067 0 = .ok (.iload_n 1, 1) := by decide +kernel
theorem dJ2_charAt_3b067_1 : decode cJ2_charAt_3b067 1 = .ok (.aload_n 0, 1) := by decide +kernel
theorem dJ2_charAt_3b067_2 : decode cJ2_charAt_3b067 2 = .ok (.invokestatic 67, 3) := by decide +kernel
theorem dJ2_charAt_3b067_5 : decode cJ2_charAt_3b067 5 = .ok (.aload_n 0, 1) := by decide +kernel
theorem dJ2_charAt_3b067_6 : decode cJ2_charAt_3b067 6 = .ok (.iload_n 1, 1) := by decide +kernel
theorem dJ2_charAt_3b067_7 : decode cJ2_charAt_3b067 7 = .ok (.invokestatic 71, 3) := by decide +kernel
theorem dJ2_charAt_3b067_10 : decode cJ2_charAt_3b067 10 = .ok (.ireturn, 1) := by decide +kernel
theorem dJ2_checkIndex_2214a_0 : decode cJ2_checkIndex_2214a 0 = .ok (.iload_n 0, 1) := by decide +kernel
theorem dJ2_checkIndex_2214a_1 : decode cJ2_checkIndex_2214a 1 = .ok (.aload_n 1, 1) := by decide +kernel
theorem dJ2_checkIndex_2214a_2 : decode cJ2_checkIndex_2214a 2 = .ok (.invokestatic 48, 3) := by decide +kernel
theorem dJ2_checkIndex_2214a_5 : decode cJ2_checkIndex_2214a 5 = .ok (.invokestatic 414, 3) := by decide +kernel
theorem dJ2_checkIndex_2214a_8 : decode cJ2_checkIndex_2214a 8 = .ok (.return_, 1) := by decide +kernel
theorem dJ3_checkIndex_8e157_0 : decode cJ3_checkIndex_8e157 0 = .ok (.iload_n 0, 1) := by decide +kernel
theorem dJ3_checkIndex_8e157_1 : decode cJ3_checkIndex_8e157 1 = .ok (.ifCond .lt 8, 3) := by decide +kernel
theorem dJ3_checkIndex_8e157_4 : decode cJ3_checkIndex_8e157 4 = .ok (.iload_n 0, 1) := by decide +kernel
theorem dJ3_checkIndex_8e157_5 : decode cJ3_checkIndex_8e157 5 = .ok (.iload_n 1, 1) := by decide +kernel
theorem dJ3_checkIndex_8e157_6 : decode cJ3_checkIndex_8e157 6 = .ok (.if_icmp .lt 10, 3) := by decide +kernel
theorem dJ3_checkIndex_8e157_9 : decode cJ3_checkIndex_8e157 9 = .ok (.aload_n 2, 1) := by decide +kernel
theorem dJ3_checkIndex_8e157_10 : decode cJ3_checkIndex_8e157 10 = .ok (.iload_n 0, 1) := by decide +kernel
theorem dJ3_checkIndex_8e157_11 : decode cJ3_checkIndex_8e157 11 = .ok (.iload_n 1, 1) := by decide +kernel
theorem dJ3_checkIndex_8e157_12 : decode cJ3_checkIndex_8e157 12 = .ok (.invokestatic 95, 3) := by decide +kernel
theorem dJ3_checkIndex_8e157_15 : decode cJ3_checkIndex_8e157 15 = .ok (.athrow, 1) := by decide +kernel
theorem dJ3_checkIndex_8e157_16 : decode cJ3_checkIndex_8e157 16 = .ok (.iload_n 0, 1) := by decide +kernel
theorem dJ3_checkIndex_8e157_17 : decode cJ3_checkIndex_8e157 17 = .ok (.ireturn, 1) := by decide +kernel
theorem dL_law_0 : decode cL_law 0 = .ok (.new 7, 3) := by decide +kernel
theorem dL_law_3 : decode cL_law 3 = .ok (.dup, 1) := by decide +kernel
theorem dL_law_4 : decode cL_law 4 = .ok (.invokespecial 9, 3) := by decide +kernel
theorem dL_law_7 : decode cL_law 7 = .ok (.astore_n 1, 1) := by decide +kernel
theorem dL_law_8 : decode cL_law 8 = .ok (.new 10, 3) := by decide +kernel
theorem dL_law_11 : decode cL_law 11 = .ok (.dup, 1) := by decide +kernel
theorem dL_law_12 : decode cL_law 12 = .ok (.invokespecial 12, 3) := by decide +kernel
theorem dL_law_15 : decode cL_law 15 = .ok (.astore_n 2, 1) := by decide +kernel
theorem dL_law_16 : decode cL_law 16 = .ok (.iconst 0, 1) := by decide +kernel
theorem dL_law_17 : decode cL_law 17 = .ok (.istore_n 3, 1) := by decide +kernel
theorem dL_law_18 : decode cL_law 18 = .ok (.iload_n 3, 1) := by decide +kernel
theorem dL_law_19 : decode cL_law 19 = .ok (.aload_n 0, 1) := by decide +kernel
theorem dL_law_20 : decode cL_law 20 = .ok (.arraylength, 1) := by decide +kernel
theorem dL_law_21 : decode cL_law 21 = .ok (.iconst 5, 1) := by decide +kernel
theorem dL_law_22 : decode cL_law 22 = .ok (.isub, 1) := by decide +kernel
theorem dL_law_23 : decode cL_law 23 = .ok (.if_icmp .gt 954, 3) := by decide +kernel
theorem dL_law_26 : decode cL_law 26 = .ok (.aload_n 0, 1) := by decide +kernel
theorem dL_law_27 : decode cL_law 27 = .ok (.iload_n 3, 1) := by decide +kernel
theorem dL_law_28 : decode cL_law 28 = .ok (.iaload, 1) := by decide +kernel
theorem dL_law_29 : decode cL_law 29 = .ok (.bipush 31, 2) := by decide +kernel
theorem dL_law_31 : decode cL_law 31 = .ok (.iand, 1) := by decide +kernel
theorem dL_law_32 : decode cL_law 32 = .ok (.tableswitch 939 0 27 #[128, 191, 204, 217, 250, 309, 332, 365, 388, 412, 485, 498, 531, 554, 577, 600, 633, 666, 689, 702, 715, 728, 761, 774, 817, 860, 893, 916], 128) := by decide +kernel
theorem dL_law_160 : decode cL_law 160 = .ok (.aload_n 1, 1) := by decide +kernel
theorem dL_law_161 : decode cL_law 161 = .ok (.aload_n 0, 1) := by decide +kernel
theorem dL_law_162 : decode cL_law 162 = .ok (.iload_n 3, 1) := by decide +kernel
theorem dL_law_163 : decode cL_law 163 = .ok (.iconst 1, 1) := by decide +kernel
theorem dL_law_164 : decode cL_law 164 = .ok (.iadd, 1) := by decide +kernel
theorem dL_law_165 : decode cL_law 165 = .ok (.iaload, 1) := by decide +kernel
theorem dL_law_166 : decode cL_law 166 = .ok (.aload_n 0, 1) := by decide +kernel
theorem dL_law_167 : decode cL_law 167 = .ok (.iload_n 3, 1) := by decide +kernel
theorem dL_law_168 : decode cL_law 168 = .ok (.iconst 2, 1) := by decide +kernel
theorem dL_law_169 : decode cL_law 169 = .ok (.iadd, 1) := by decide +kernel
theorem dL_law_170 : decode cL_law 170 = .ok (.iaload, 1) := by decide +kernel
theorem dL_law_171 : decode cL_law 171 = .ok (.i2l, 1) := by decide +kernel
theorem dL_law_172 : decode cL_law 172 = .ok (.bipush 32, 2) := by decide +kernel
theorem dL_law_174 : decode cL_law 174 = .ok (.lshl, 1) := by decide +kernel
theorem dL_law_175 : decode cL_law 175 = .ok (.aload_n 0, 1) := by decide +kernel
theorem dL_law_176 : decode cL_law 176 = .ok (.iload_n 3, 1) := by decide +kernel
theorem dL_law_177 : decode cL_law 177 = .ok (.iconst 3, 1) := by decide +kernel
theorem dL_law_178 : decode cL_law 178 = .ok (.iadd, 1) := by decide +kernel
theorem dL_law_179 : decode cL_law 179 = .ok (.iaload, 1) := by decide +kernel
theorem dL_law_180 : decode cL_law 180 = .ok (.i2l, 1) := by decide +kernel
theorem dL_law_181 : decode cL_law 181 = .ok (.ldc2_w 13, 3) := by decide +kernel
theorem dL_law_184 : decode cL_law 184 = .ok (.land, 1) := by decide +kernel
theorem dL_law_185 : decode cL_law 185 = .ok (.lor, 1) := by decide +kernel
theorem dL_law_186 : decode cL_law 186 = .ok (.invokevirtual 15, 3) := by decide +kernel
theorem dL_law_189 : decode cL_law 189 = .ok (.aload_n 2, 1) := by decide +kernel
theorem dL_law_190 : decode cL_law 190 = .ok (.aload_n 0, 1) := by decide +kernel
theorem dL_law_191 : decode cL_law 191 = .ok (.iload_n 3, 1) := by decide +kernel
theorem dL_law_192 : decode cL_law 192 = .ok (.iconst 1, 1) := by decide +kernel
theorem dL_law_193 : decode cL_law 193 = .ok (.iadd, 1) := by decide +kernel
theorem dL_law_194 : decode cL_law 194 = .ok (.iaload, 1) := by decide +kernel
theorem dL_law_195 : decode cL_law 195 = .ok (.aload_n 0, 1) := by decide +kernel
theorem dL_law_196 : decode cL_law 196 = .ok (.iload_n 3, 1) := by decide +kernel
theorem dL_law_197 : decode cL_law 197 = .ok (.iconst 2, 1) := by decide +kernel
theorem dL_law_198 : decode cL_law 198 = .ok (.iadd, 1) := by decide +kernel
theorem dL_law_199 : decode cL_law 199 = .ok (.iaload, 1) := by decide +kernel
theorem dL_law_200 : decode cL_law 200 = .ok (.i2l, 1) := by decide +kernel
theorem dL_law_201 : decode cL_law 201 = .ok (.bipush 32, 2) := by decide +kernel
theorem dL_law_203 : decode cL_law 203 = .ok (.lshl, 1) := by decide +kernel
theorem dL_law_204 : decode cL_law 204 = .ok (.aload_n 0, 1) := by decide +kernel
theorem dL_law_205 : decode cL_law 205 = .ok (.iload_n 3, 1) := by decide +kernel
theorem dL_law_206 : decode cL_law 206 = .ok (.iconst 3, 1) := by decide +kernel
theorem dL_law_207 : decode cL_law 207 = .ok (.iadd, 1) := by decide +kernel
theorem dL_law_208 : decode cL_law 208 = .ok (.iaload, 1) := by decide +kernel
theorem dL_law_209 : decode cL_law 209 = .ok (.i2l, 1) := by decide +kernel
theorem dL_law_210 : decode cL_law 210 = .ok (.ldc2_w 13, 3) := by decide +kernel
theorem dL_law_213 : decode cL_law 213 = .ok (.land, 1) := by decide +kernel
theorem dL_law_214 : decode cL_law 214 = .ok (.lor, 1) := by decide +kernel
theorem dL_law_215 : decode cL_law 215 = .ok (.invokevirtual 19, 3) := by decide +kernel
theorem dL_law_218 : decode cL_law 218 = .ok (.if_icmp .eq 753, 3) := by decide +kernel
theorem dL_law_221 : decode cL_law 221 = .ok (.iconst 0, 1) := by decide +kernel
theorem dL_law_222 : decode cL_law 222 = .ok (.ireturn, 1) := by decide +kernel
theorem dL_law_223 : decode cL_law 223 = .ok (.aload_n 1, 1) := by decide +kernel
theorem dL_law_224 : decode cL_law 224 = .ok (.invokevirtual 20, 3) := by decide +kernel
theorem dL_law_227 : decode cL_law 227 = .ok (.aload_n 2, 1) := by decide +kernel
theorem dL_law_228 : decode cL_law 228 = .ok (.invokevirtual 24, 3) := by decide +kernel
theorem dL_law_231 : decode cL_law 231 = .ok (.if_icmp .eq 740, 3) := by decide +kernel
theorem dL_law_234 : decode cL_law 234 = .ok (.iconst 0, 1) := by decide +kernel
theorem dL_law_235 : decode cL_law 235 = .ok (.ireturn, 1) := by decide +kernel
theorem dL_law_236 : decode cL_law 236 = .ok (.aload_n 1, 1) := by decide +kernel
theorem dL_law_237 : decode cL_law 237 = .ok (.invokevirtual 25, 3) := by decide +kernel
theorem dL_law_240 : decode cL_law 240 = .ok (.aload_n 2, 1) := by decide +kernel
theorem dL_law_241 : decode cL_law 241 = .ok (.invokevirtual 28, 3) := by decide +kernel
theorem dL_law_244 : decode cL_law 244 = .ok (.if_icmp .eq 727, 3) := by decide +kernel
theorem dL_law_247 : decode cL_law 247 = .ok (.iconst 0, 1) := by decide +kernel
theorem dL_law_248 : decode cL_law 248 = .ok (.ireturn, 1) := by decide +kernel
theorem dL_law_249 : decode cL_law 249 = .ok (.aload_n 1, 1) := by decide +kernel
theorem dL_law_250 : decode cL_law 250 = .ok (.aload_n 0, 1) := by decide +kernel
theorem dL_law_251 : decode cL_law 251 = .ok (.iload_n 3, 1) := by decide +kernel
theorem dL_law_252 : decode cL_law 252 = .ok (.iconst 1, 1) := by decide +kernel
theorem dL_law_253 : decode cL_law 253 = .ok (.iadd, 1) := by decide +kernel
theorem dL_law_254 : decode cL_law 254 = .ok (.iaload, 1) := by decide +kernel
theorem dL_law_255 : decode cL_law 255 = .ok (.aload_n 0, 1) := by decide +kernel
theorem dL_law_256 : decode cL_law 256 = .ok (.iload_n 3, 1) := by decide +kernel
theorem dL_law_257 : decode cL_law 257 = .ok (.iconst 2, 1) := by decide +kernel
theorem dL_law_258 : decode cL_law 258 = .ok (.iadd, 1) := by decide +kernel
theorem dL_law_259 : decode cL_law 259 = .ok (.iaload, 1) := by decide +kernel
theorem dL_law_260 : decode cL_law 260 = .ok (.invokevirtual 29, 3) := by decide +kernel
theorem dL_law_263 : decode cL_law 263 = .ok (.aload_n 2, 1) := by decide +kernel
theorem dL_law_264 : decode cL_law 264 = .ok (.aload_n 0, 1) := by decide +kernel
theorem dL_law_265 : decode cL_law 265 = .ok (.iload_n 3, 1) := by decide +kernel
theorem dL_law_266 : decode cL_law 266 = .ok (.iconst 1, 1) := by decide +kernel
theorem dL_law_267 : decode cL_law 267 = .ok (.iadd, 1) := by decide +kernel
theorem dL_law_268 : decode cL_law 268 = .ok (.iaload, 1) := by decide +kernel
theorem dL_law_269 : decode cL_law 269 = .ok (.aload_n 0, 1) := by decide +kernel
theorem dL_law_270 : decode cL_law 270 = .ok (.iload_n 3, 1) := by decide +kernel
theorem dL_law_271 : decode cL_law 271 = .ok (.iconst 2, 1) := by decide +kernel
theorem dL_law_272 : decode cL_law 272 = .ok (.iadd, 1) := by decide +kernel
theorem dL_law_273 : decode cL_law 273 = .ok (.iaload, 1) := by decide +kernel
theorem dL_law_274 : decode cL_law 274 = .ok (.invokevirtual 33, 3) := by decide +kernel
theorem dL_law_277 : decode cL_law 277 = .ok (.if_icmp .eq 694, 3) := by decide +kernel
theorem dL_law_280 : decode cL_law 280 = .ok (.iconst 0, 1) := by decide +kernel
theorem dL_law_281 : decode cL_law 281 = .ok (.ireturn, 1) := by decide +kernel
theorem dL_law_282 : decode cL_law 282 = .ok (.aload_n 1, 1) := by decide +kernel
theorem dL_law_283 : decode cL_law 283 = .ok (.aload_n 0, 1) := by decide +kernel
theorem dL_law_284 : decode cL_law 284 = .ok (.iload_n 3, 1) := by decide +kernel
theorem dL_law_285 : decode cL_law 285 = .ok (.iconst 1, 1) := by decide +kernel
theorem dL_law_286 : decode cL_law 286 = .ok (.iadd, 1) := by decide +kernel
theorem dL_law_287 : decode cL_law 287 = .ok (.iaload, 1) := by decide +kernel
theorem dL_law_288 : decode cL_law 288 = .ok (.aload_n 0, 1) := by decide +kernel
theorem dL_law_289 : decode cL_law 289 = .ok (.iload_n 3, 1) := by decide +kernel
theorem dL_law_290 : decode cL_law 290 = .ok (.iconst 2, 1) := by decide +kernel
theorem dL_law_291 : decode cL_law 291 = .ok (.iadd, 1) := by decide +kernel
theorem dL_law_292 : decode cL_law 292 = .ok (.iaload, 1) := by decide +kernel
theorem dL_law_293 : decode cL_law 293 = .ok (.aload_n 0, 1) := by decide +kernel
theorem dL_law_294 : decode cL_law 294 = .ok (.iload_n 3, 1) := by decide +kernel
theorem dL_law_295 : decode cL_law 295 = .ok (.iconst 3, 1) := by decide +kernel
theorem dL_law_296 : decode cL_law 296 = .ok (.iadd, 1) := by decide +kernel
theorem dL_law_297 : decode cL_law 297 = .ok (.iaload, 1) := by decide +kernel
theorem dL_law_298 : decode cL_law 298 = .ok (.ifCond .eq 7, 3) := by decide +kernel
theorem dL_law_301 : decode cL_law 301 = .ok (.iconst 1, 1) := by decide +kernel
theorem dL_law_302 : decode cL_law 302 = .ok (.goto 4, 3) := by decide +kernel
theorem dL_law_305 : decode cL_law 305 = .ok (.iconst 0, 1) := by decide +kernel
theorem dL_law_306 : decode cL_law 306 = .ok (.invokevirtual 34, 3) := by decide +kernel
theorem dL_law_309 : decode cL_law 309 = .ok (.aload_n 2, 1) := by decide +kernel
theorem dL_law_310 : decode cL_law 310 = .ok (.aload_n 0, 1) := by decide +kernel
theorem dL_law_311 : decode cL_law 311 = .ok (.iload_n 3, 1) := by decide +kernel
theorem dL_law_312 : decode cL_law 312 = .ok (.iconst 1, 1) := by decide +kernel
theorem dL_law_313 : decode cL_law 313 = .ok (.iadd, 1) := by decide +kernel
theorem dL_law_314 : decode cL_law 314 = .ok (.iaload, 1) := by decide +kernel
theorem dL_law_315 : decode cL_law 315 = .ok (.aload_n 0, 1) := by decide +kernel
theorem dL_law_316 : decode cL_law 316 = .ok (.iload_n 3, 1) := by decide +kernel
theorem dL_law_317 : decode cL_law 317 = .ok (.iconst 2, 1) := by decide +kernel
theorem dL_law_318 : decode cL_law 318 = .ok (.iadd, 1) := by decide +kernel
theorem dL_law_319 : decode cL_law 319 = .ok (.iaload, 1) := by decide +kernel
theorem dL_law_320 : decode cL_law 320 = .ok (.aload_n 0, 1) := by decide +kernel
theorem dL_law_321 : decode cL_law 321 = .ok (.iload_n 3, 1) := by decide +kernel
theorem dL_law_322 : decode cL_law 322 = .ok (.iconst 3, 1) := by decide +kernel
theorem dL_law_323 : decode cL_law 323 = .ok (.iadd, 1) := by decide +kernel
theorem dL_law_324 : decode cL_law 324 = .ok (.iaload, 1) := by decide +kernel
theorem dL_law_325 : decode cL_law 325 = .ok (.ifCond .eq 7, 3) := by decide +kernel
theorem dL_law_328 : decode cL_law 328 = .ok (.iconst 1, 1) := by decide +kernel
theorem dL_law_329 : decode cL_law 329 = .ok (.goto 4, 3) := by decide +kernel
theorem dL_law_332 : decode cL_law 332 = .ok (.iconst 0, 1) := by decide +kernel
theorem dL_law_333 : decode cL_law 333 = .ok (.invokevirtual 38, 3) := by decide +kernel
theorem dL_law_336 : decode cL_law 336 = .ok (.if_icmp .eq 635, 3) := by decide +kernel
theorem dL_law_339 : decode cL_law 339 = .ok (.iconst 0, 1) := by decide +kernel
theorem dL_law_340 : decode cL_law 340 = .ok (.ireturn, 1) := by decide +kernel
theorem dL_law_341 : decode cL_law 341 = .ok (.aload_n 1, 1) := by decide +kernel
theorem dL_law_342 : decode cL_law 342 = .ok (.aload_n 0, 1) := by decide +kernel
theorem dL_law_343 : decode cL_law 343 = .ok (.iload_n 3, 1) := by decide +kernel
theorem dL_law_344 : decode cL_law 344 = .ok (.iconst 1, 1) := by decide +kernel
theorem dL_law_345 : decode cL_law 345 = .ok (.iadd, 1) := by decide +kernel
theorem dL_law_346 : decode cL_law 346 = .ok (.iaload, 1) := by decide +kernel
theorem dL_law_347 : decode cL_law 347 = .ok (.invokevirtual 39, 3) := by decide +kernel
theorem dL_law_350 : decode cL_law 350 = .ok (.aload_n 2, 1) := by decide +kernel
theorem dL_law_351 : decode cL_law 351 = .ok (.aload_n 0, 1) := by decide +kernel
theorem dL_law_352 : decode cL_law 352 = .ok (.iload_n 3, 1) := by decide +kernel
theorem dL_law_353 : decode cL_law 353 = .ok (.iconst 1, 1) := by decide +kernel
theorem dL_law_354 : decode cL_law 354 = .ok (.iadd, 1) := by decide +kernel
theorem dL_law_355 : decode cL_law 355 = .ok (.iaload, 1) := by decide +kernel
theorem dL_law_356 : decode cL_law 356 = .ok (.invokevirtual 43, 3) := by decide +kernel
theorem dL_law_359 : decode cL_law 359 = .ok (.if_icmp .eq 612, 3) := by decide +kernel
theorem dL_law_362 : decode cL_law 362 = .ok (.iconst 0, 1) := by decide +kernel
theorem dL_law_363 : decode cL_law 363 = .ok (.ireturn, 1) := by decide +kernel
theorem dL_law_364 : decode cL_law 364 = .ok (.aload_n 1, 1) := by decide +kernel
theorem dL_law_365 : decode cL_law 365 = .ok (.aload_n 0, 1) := by decide +kernel
theorem dL_law_366 : decode cL_law 366 = .ok (.iload_n 3, 1) := by decide +kernel
theorem dL_law_367 : decode cL_law 367 = .ok (.iconst 1, 1) := by decide +kernel
theorem dL_law_368 : decode cL_law 368 = .ok (.iadd, 1) := by decide +kernel
theorem dL_law_369 : decode cL_law 369 = .ok (.iaload, 1) := by decide +kernel
theorem dL_law_370 : decode cL_law 370 = .ok (.aload_n 0, 1) := by decide +kernel
theorem dL_law_371 : decode cL_law 371 = .ok (.iload_n 3, 1) := by decide +kernel
theorem dL_law_372 : decode cL_law 372 = .ok (.iconst 2, 1) := by decide +kernel
theorem dL_law_373 : decode cL_law 373 = .ok (.iadd, 1) := by decide +kernel
theorem dL_law_374 : decode cL_law 374 = .ok (.iaload, 1) := by decide +kernel
theorem dL_law_375 : decode cL_law 375 = .ok (.invokevirtual 44, 3) := by decide +kernel
theorem dL_law_378 : decode cL_law 378 = .ok (.aload_n 2, 1) := by decide +kernel
theorem dL_law_379 : decode cL_law 379 = .ok (.aload_n 0, 1) := by decide +kernel
theorem dL_law_380 : decode cL_law 380 = .ok (.iload_n 3, 1) := by decide +kernel
theorem dL_law_381 : decode cL_law 381 = .ok (.iconst 1, 1) := by decide +kernel
theorem dL_law_382 : decode cL_law 382 = .ok (.iadd, 1) := by decide +kernel
theorem dL_law_383 : decode cL_law 383 = .ok (.iaload, 1) := by decide +kernel
theorem dL_law_384 : decode cL_law 384 = .ok (.aload_n 0, 1) := by decide +kernel
theorem dL_law_385 : decode cL_law 385 = .ok (.iload_n 3, 1) := by decide +kernel
theorem dL_law_386 : decode cL_law 386 = .ok (.iconst 2, 1) := by decide +kernel
theorem dL_law_387 : decode cL_law 387 = .ok (.iadd, 1) := by decide +kernel
theorem dL_law_388 : decode cL_law 388 = .ok (.iaload, 1) := by decide +kernel
theorem dL_law_389 : decode cL_law 389 = .ok (.invokevirtual 47, 3) := by decide +kernel
theorem dL_law_392 : decode cL_law 392 = .ok (.if_icmp .eq 579, 3) := by decide +kernel
theorem dL_law_395 : decode cL_law 395 = .ok (.iconst 0, 1) := by decide +kernel
theorem dL_law_396 : decode cL_law 396 = .ok (.ireturn, 1) := by decide +kernel
theorem dL_law_397 : decode cL_law 397 = .ok (.aload_n 1, 1) := by decide +kernel
theorem dL_law_398 : decode cL_law 398 = .ok (.aload_n 0, 1) := by decide +kernel
theorem dL_law_399 : decode cL_law 399 = .ok (.iload_n 3, 1) := by decide +kernel
theorem dL_law_400 : decode cL_law 400 = .ok (.iconst 1, 1) := by decide +kernel
theorem dL_law_401 : decode cL_law 401 = .ok (.iadd, 1) := by decide +kernel
theorem dL_law_402 : decode cL_law 402 = .ok (.iaload, 1) := by decide +kernel
theorem dL_law_403 : decode cL_law 403 = .ok (.invokevirtual 48, 3) := by decide +kernel
theorem dL_law_406 : decode cL_law 406 = .ok (.aload_n 2, 1) := by decide +kernel
theorem dL_law_407 : decode cL_law 407 = .ok (.aload_n 0, 1) := by decide +kernel
theorem dL_law_408 : decode cL_law 408 = .ok (.iload_n 3, 1) := by decide +kernel
theorem dL_law_409 : decode cL_law 409 = .ok (.iconst 1, 1) := by decide +kernel
theorem dL_law_410 : decode cL_law 410 = .ok (.iadd, 1) := by decide +kernel
theorem dL_law_411 : decode cL_law 411 = .ok (.iaload, 1) := by decide +kernel
theorem dL_law_412 : decode cL_law 412 = .ok (.invokevirtual 51, 3) := by decide +kernel
theorem dL_law_415 : decode cL_law 415 = .ok (.if_icmp .eq 556, 3) := by decide +kernel
theorem dL_law_418 : decode cL_law 418 = .ok (.iconst 0, 1) := by decide +kernel
theorem dL_law_419 : decode cL_law 419 = .ok (.ireturn, 1) := by decide +kernel
theorem dL_law_420 : decode cL_law 420 = .ok (.aload_n 1, 1) := by decide +kernel
theorem dL_law_421 : decode cL_law 421 = .ok (.aload_n 0, 1) := by decide +kernel
theorem dL_law_422 : decode cL_law 422 = .ok (.iload_n 3, 1) := by decide +kernel
theorem dL_law_423 : decode cL_law 423 = .ok (.iconst 1, 1) := by decide +kernel
theorem dL_law_424 : decode cL_law 424 = .ok (.iadd, 1) := by decide +kernel
theorem dL_law_425 : decode cL_law 425 = .ok (.iaload, 1) := by decide +kernel
theorem dL_law_426 : decode cL_law 426 = .ok (.invokevirtual 52, 3) := by decide +kernel
theorem dL_law_429 : decode cL_law 429 = .ok (.aload_n 2, 1) := by decide +kernel
theorem dL_law_430 : decode cL_law 430 = .ok (.aload_n 0, 1) := by decide +kernel
theorem dL_law_431 : decode cL_law 431 = .ok (.iload_n 3, 1) := by decide +kernel
theorem dL_law_432 : decode cL_law 432 = .ok (.iconst 1, 1) := by decide +kernel
theorem dL_law_433 : decode cL_law 433 = .ok (.iadd, 1) := by decide +kernel
theorem dL_law_434 : decode cL_law 434 = .ok (.iaload, 1) := by decide +kernel
theorem dL_law_435 : decode cL_law 435 = .ok (.invokevirtual 56, 3) := by decide +kernel
theorem dL_law_438 : decode cL_law 438 = .ok (.lcmp, 1) := by decide +kernel
theorem dL_law_439 : decode cL_law 439 = .ok (.ifCond .eq 532, 3) := by decide +kernel
theorem dL_law_442 : decode cL_law 442 = .ok (.iconst 0, 1) := by decide +kernel
theorem dL_law_443 : decode cL_law 443 = .ok (.ireturn, 1) := by decide +kernel
theorem dL_law_444 : decode cL_law 444 = .ok (.aload_n 1, 1) := by decide +kernel
theorem dL_law_445 : decode cL_law 445 = .ok (.aload_n 0, 1) := by decide +kernel
theorem dL_law_446 : decode cL_law 446 = .ok (.iload_n 3, 1) := by decide +kernel
theorem dL_law_447 : decode cL_law 447 = .ok (.iconst 1, 1) := by decide +kernel
theorem dL_law_448 : decode cL_law 448 = .ok (.iadd, 1) := by decide +kernel
theorem dL_law_449 : decode cL_law 449 = .ok (.iaload, 1) := by decide +kernel
theorem dL_law_450 : decode cL_law 450 = .ok (.aload_n 0, 1) := by decide +kernel
theorem dL_law_451 : decode cL_law 451 = .ok (.iload_n 3, 1) := by decide +kernel
theorem dL_law_452 : decode cL_law 452 = .ok (.iconst 2, 1) := by decide +kernel
theorem dL_law_453 : decode cL_law 453 = .ok (.iadd, 1) := by decide +kernel
theorem dL_law_454 : decode cL_law 454 = .ok (.iaload, 1) := by decide +kernel
theorem dL_law_455 : decode cL_law 455 = .ok (.i2l, 1) := by decide +kernel
theorem dL_law_456 : decode cL_law 456 = .ok (.bipush 32, 2) := by decide +kernel
theorem dL_law_458 : decode cL_law 458 = .ok (.lshl, 1) := by decide +kernel
theorem dL_law_459 : decode cL_law 459 = .ok (.aload_n 0, 1) := by decide +kernel
theorem dL_law_460 : decode cL_law 460 = .ok (.iload_n 3, 1) := by decide +kernel
theorem dL_law_461 : decode cL_law 461 = .ok (.iconst 3, 1) := by decide +kernel
theorem dL_law_462 : decode cL_law 462 = .ok (.iadd, 1) := by decide +kernel
theorem dL_law_463 : decode cL_law 463 = .ok (.iaload, 1) := by decide +kernel
theorem dL_law_464 : decode cL_law 464 = .ok (.i2l, 1) := by decide +kernel
theorem dL_law_465 : decode cL_law 465 = .ok (.ldc2_w 13, 3) := by decide +kernel
theorem dL_law_468 : decode cL_law 468 = .ok (.land, 1) := by decide +kernel
theorem dL_law_469 : decode cL_law 469 = .ok (.lor, 1) := by decide +kernel
theorem dL_law_470 : decode cL_law 470 = .ok (.aload_n 0, 1) := by decide +kernel
theorem dL_law_471 : decode cL_law 471 = .ok (.iload_n 3, 1) := by decide +kernel
theorem dL_law_472 : decode cL_law 472 = .ok (.iconst 4, 1) := by decide +kernel
theorem dL_law_473 : decode cL_law 473 = .ok (.iadd, 1) := by decide +kernel
theorem dL_law_474 : decode cL_law 474 = .ok (.iaload, 1) := by decide +kernel
theorem dL_law_475 : decode cL_law 475 = .ok (.invokevirtual 57, 3) := by decide +kernel
theorem dL_law_478 : decode cL_law 478 = .ok (.aload_n 2, 1) := by decide +kernel
theorem dL_law_479 : decode cL_law 479 = .ok (.aload_n 0, 1) := by decide +kernel
theorem dL_law_480 : decode cL_law 480 = .ok (.iload_n 3, 1) := by decide +kernel
theorem dL_law_481 : decode cL_law 481 = .ok (.iconst 1, 1) := by decide +kernel
theorem dL_law_482 : decode cL_law 482 = .ok (.iadd, 1) := by decide +kernel
theorem dL_law_483 : decode cL_law 483 = .ok (.iaload, 1) := by decide +kernel
theorem dL_law_484 : decode cL_law 484 = .ok (.aload_n 0, 1) := by decide +kernel
theorem dL_law_485 : decode cL_law 485 = .ok (.iload_n 3, 1) := by decide +kernel
theorem dL_law_486 : decode cL_law 486 = .ok (.iconst 2, 1) := by decide +kernel
theorem dL_law_487 : decode cL_law 487 = .ok (.iadd, 1) := by decide +kernel
theorem dL_law_488 : decode cL_law 488 = .ok (.iaload, 1) := by decide +kernel
theorem dL_law_489 : decode cL_law 489 = .ok (.i2l, 1) := by decide +kernel
theorem dL_law_490 : decode cL_law 490 = .ok (.bipush 32, 2) := by decide +kernel
theorem dL_law_492 : decode cL_law 492 = .ok (.lshl, 1) := by decide +kernel
theorem dL_law_493 : decode cL_law 493 = .ok (.aload_n 0, 1) := by decide +kernel
theorem dL_law_494 : decode cL_law 494 = .ok (.iload_n 3, 1) := by decide +kernel
theorem dL_law_495 : decode cL_law 495 = .ok (.iconst 3, 1) := by decide +kernel
theorem dL_law_496 : decode cL_law 496 = .ok (.iadd, 1) := by decide +kernel
theorem dL_law_497 : decode cL_law 497 = .ok (.iaload, 1) := by decide +kernel
theorem dL_law_498 : decode cL_law 498 = .ok (.i2l, 1) := by decide +kernel
theorem dL_law_499 : decode cL_law 499 = .ok (.ldc2_w 13, 3) := by decide +kernel
theorem dL_law_502 : decode cL_law 502 = .ok (.land, 1) := by decide +kernel
theorem dL_law_503 : decode cL_law 503 = .ok (.lor, 1) := by decide +kernel
theorem dL_law_504 : decode cL_law 504 = .ok (.aload_n 0, 1) := by decide +kernel
theorem dL_law_505 : decode cL_law 505 = .ok (.iload_n 3, 1) := by decide +kernel
theorem dL_law_506 : decode cL_law 506 = .ok (.iconst 4, 1) := by decide +kernel
theorem dL_law_507 : decode cL_law 507 = .ok (.iadd, 1) := by decide +kernel
theorem dL_law_508 : decode cL_law 508 = .ok (.iaload, 1) := by decide +kernel
theorem dL_law_509 : decode cL_law 509 = .ok (.invokevirtual 61, 3) := by decide +kernel
theorem dL_law_512 : decode cL_law 512 = .ok (.if_icmp .eq 459, 3) := by decide +kernel
theorem dL_law_515 : decode cL_law 515 = .ok (.iconst 0, 1) := by decide +kernel
theorem dL_law_516 : decode cL_law 516 = .ok (.ireturn, 1) := by decide +kernel
theorem dL_law_517 : decode cL_law 517 = .ok (.aload_n 1, 1) := by decide +kernel
theorem dL_law_518 : decode cL_law 518 = .ok (.invokevirtual 62, 3) := by decide +kernel
theorem dL_law_521 : decode cL_law 521 = .ok (.aload_n 2, 1) := by decide +kernel
theorem dL_law_522 : decode cL_law 522 = .ok (.invokevirtual 65, 3) := by decide +kernel
theorem dL_law_525 : decode cL_law 525 = .ok (.if_icmp .eq 446, 3) := by decide +kernel
theorem dL_law_528 : decode cL_law 528 = .ok (.iconst 0, 1) := by decide +kernel
theorem dL_law_529 : decode cL_law 529 = .ok (.ireturn, 1) := by decide +kernel
theorem dL_law_530 : decode cL_law 530 = .ok (.aload_n 1, 1) := by decide +kernel
theorem dL_law_531 : decode cL_law 531 = .ok (.aload_n 0, 1) := by decide +kernel
theorem dL_law_532 : decode cL_law 532 = .ok (.iload_n 3, 1) := by decide +kernel
theorem dL_law_533 : decode cL_law 533 = .ok (.iconst 1, 1) := by decide +kernel
theorem dL_law_534 : decode cL_law 534 = .ok (.iadd, 1) := by decide +kernel
theorem dL_law_535 : decode cL_law 535 = .ok (.iaload, 1) := by decide +kernel
theorem dL_law_536 : decode cL_law 536 = .ok (.aload_n 0, 1) := by decide +kernel
theorem dL_law_537 : decode cL_law 537 = .ok (.iload_n 3, 1) := by decide +kernel
theorem dL_law_538 : decode cL_law 538 = .ok (.iconst 2, 1) := by decide +kernel
theorem dL_law_539 : decode cL_law 539 = .ok (.iadd, 1) := by decide +kernel
theorem dL_law_540 : decode cL_law 540 = .ok (.iaload, 1) := by decide +kernel
theorem dL_law_541 : decode cL_law 541 = .ok (.invokevirtual 66, 3) := by decide +kernel
theorem dL_law_544 : decode cL_law 544 = .ok (.aload_n 2, 1) := by decide +kernel
theorem dL_law_545 : decode cL_law 545 = .ok (.aload_n 0, 1) := by decide +kernel
theorem dL_law_546 : decode cL_law 546 = .ok (.iload_n 3, 1) := by decide +kernel
theorem dL_law_547 : decode cL_law 547 = .ok (.iconst 1, 1) := by decide +kernel
theorem dL_law_548 : decode cL_law 548 = .ok (.iadd, 1) := by decide +kernel
theorem dL_law_549 : decode cL_law 549 = .ok (.iaload, 1) := by decide +kernel
theorem dL_law_550 : decode cL_law 550 = .ok (.aload_n 0, 1) := by decide +kernel
theorem dL_law_551 : decode cL_law 551 = .ok (.iload_n 3, 1) := by decide +kernel
theorem dL_law_552 : decode cL_law 552 = .ok (.iconst 2, 1) := by decide +kernel
theorem dL_law_553 : decode cL_law 553 = .ok (.iadd, 1) := by decide +kernel
theorem dL_law_554 : decode cL_law 554 = .ok (.iaload, 1) := by decide +kernel
theorem dL_law_555 : decode cL_law 555 = .ok (.invokevirtual 69, 3) := by decide +kernel
theorem dL_law_558 : decode cL_law 558 = .ok (.if_icmp .eq 413, 3) := by decide +kernel
theorem dL_law_561 : decode cL_law 561 = .ok (.iconst 0, 1) := by decide +kernel
theorem dL_law_562 : decode cL_law 562 = .ok (.ireturn, 1) := by decide +kernel
theorem dL_law_563 : decode cL_law 563 = .ok (.aload_n 1, 1) := by decide +kernel
theorem dL_law_564 : decode cL_law 564 = .ok (.aload_n 0, 1) := by decide +kernel
theorem dL_law_565 : decode cL_law 565 = .ok (.iload_n 3, 1) := by decide +kernel
theorem dL_law_566 : decode cL_law 566 = .ok (.iconst 1, 1) := by decide +kernel
theorem dL_law_567 : decode cL_law 567 = .ok (.iadd, 1) := by decide +kernel
theorem dL_law_568 : decode cL_law 568 = .ok (.iaload, 1) := by decide +kernel
theorem dL_law_569 : decode cL_law 569 = .ok (.invokevirtual 70, 3) := by decide +kernel
theorem dL_law_572 : decode cL_law 572 = .ok (.aload_n 2, 1) := by decide +kernel
theorem dL_law_573 : decode cL_law 573 = .ok (.aload_n 0, 1) := by decide +kernel
theorem dL_law_574 : decode cL_law 574 = .ok (.iload_n 3, 1) := by decide +kernel
theorem dL_law_575 : decode cL_law 575 = .ok (.iconst 1, 1) := by decide +kernel
theorem dL_law_576 : decode cL_law 576 = .ok (.iadd, 1) := by decide +kernel
theorem dL_law_577 : decode cL_law 577 = .ok (.iaload, 1) := by decide +kernel
theorem dL_law_578 : decode cL_law 578 = .ok (.invokevirtual 73, 3) := by decide +kernel
theorem dL_law_581 : decode cL_law 581 = .ok (.if_icmp .eq 390, 3) := by decide +kernel
theorem dL_law_584 : decode cL_law 584 = .ok (.iconst 0, 1) := by decide +kernel
theorem dL_law_585 : decode cL_law 585 = .ok (.ireturn, 1) := by decide +kernel
theorem dL_law_586 : decode cL_law 586 = .ok (.aload_n 1, 1) := by decide +kernel
theorem dL_law_587 : decode cL_law 587 = .ok (.aload_n 0, 1) := by decide +kernel
theorem dL_law_588 : decode cL_law 588 = .ok (.iload_n 3, 1) := by decide +kernel
theorem dL_law_589 : decode cL_law 589 = .ok (.iconst 1, 1) := by decide +kernel
theorem dL_law_590 : decode cL_law 590 = .ok (.iadd, 1) := by decide +kernel
theorem dL_law_591 : decode cL_law 591 = .ok (.iaload, 1) := by decide +kernel
theorem dL_law_592 : decode cL_law 592 = .ok (.invokevirtual 74, 3) := by decide +kernel
theorem dL_law_595 : decode cL_law 595 = .ok (.aload_n 2, 1) := by decide +kernel
theorem dL_law_596 : decode cL_law 596 = .ok (.aload_n 0, 1) := by decide +kernel
theorem dL_law_597 : decode cL_law 597 = .ok (.iload_n 3, 1) := by decide +kernel
theorem dL_law_598 : decode cL_law 598 = .ok (.iconst 1, 1) := by decide +kernel
theorem dL_law_599 : decode cL_law 599 = .ok (.iadd, 1) := by decide +kernel
theorem dL_law_600 : decode cL_law 600 = .ok (.iaload, 1) := by decide +kernel
theorem dL_law_601 : decode cL_law 601 = .ok (.invokevirtual 77, 3) := by decide +kernel
theorem dL_law_604 : decode cL_law 604 = .ok (.if_icmp .eq 367, 3) := by decide +kernel
theorem dL_law_607 : decode cL_law 607 = .ok (.iconst 0, 1) := by decide +kernel
theorem dL_law_608 : decode cL_law 608 = .ok (.ireturn, 1) := by decide +kernel
theorem dL_law_609 : decode cL_law 609 = .ok (.aload_n 1, 1) := by decide +kernel
theorem dL_law_610 : decode cL_law 610 = .ok (.aload_n 0, 1) := by decide +kernel
theorem dL_law_611 : decode cL_law 611 = .ok (.iload_n 3, 1) := by decide +kernel
theorem dL_law_612 : decode cL_law 612 = .ok (.iconst 1, 1) := by decide +kernel
theorem dL_law_613 : decode cL_law 613 = .ok (.iadd, 1) := by decide +kernel
theorem dL_law_614 : decode cL_law 614 = .ok (.iaload, 1) := by decide +kernel
theorem dL_law_615 : decode cL_law 615 = .ok (.invokevirtual 78, 3) := by decide +kernel
theorem dL_law_618 : decode cL_law 618 = .ok (.aload_n 2, 1) := by decide +kernel
theorem dL_law_619 : decode cL_law 619 = .ok (.aload_n 0, 1) := by decide +kernel
theorem dL_law_620 : decode cL_law 620 = .ok (.iload_n 3, 1) := by decide +kernel
theorem dL_law_621 : decode cL_law 621 = .ok (.iconst 1, 1) := by decide +kernel
theorem dL_law_622 : decode cL_law 622 = .ok (.iadd, 1) := by decide +kernel
theorem dL_law_623 : decode cL_law 623 = .ok (.iaload, 1) := by decide +kernel
theorem dL_law_624 : decode cL_law 624 = .ok (.invokevirtual 81, 3) := by decide +kernel
theorem dL_law_627 : decode cL_law 627 = .ok (.if_icmp .eq 344, 3) := by decide +kernel
theorem dL_law_630 : decode cL_law 630 = .ok (.iconst 0, 1) := by decide +kernel
theorem dL_law_631 : decode cL_law 631 = .ok (.ireturn, 1) := by decide +kernel
theorem dL_law_632 : decode cL_law 632 = .ok (.aload_n 1, 1) := by decide +kernel
theorem dL_law_633 : decode cL_law 633 = .ok (.aload_n 0, 1) := by decide +kernel
theorem dL_law_634 : decode cL_law 634 = .ok (.iload_n 3, 1) := by decide +kernel
theorem dL_law_635 : decode cL_law 635 = .ok (.iconst 1, 1) := by decide +kernel
theorem dL_law_636 : decode cL_law 636 = .ok (.iadd, 1) := by decide +kernel
theorem dL_law_637 : decode cL_law 637 = .ok (.iaload, 1) := by decide +kernel
theorem dL_law_638 : decode cL_law 638 = .ok (.aload_n 0, 1) := by decide +kernel
theorem dL_law_639 : decode cL_law 639 = .ok (.iload_n 3, 1) := by decide +kernel
theorem dL_law_640 : decode cL_law 640 = .ok (.iconst 2, 1) := by decide +kernel
theorem dL_law_641 : decode cL_law 641 = .ok (.iadd, 1) := by decide +kernel
theorem dL_law_642 : decode cL_law 642 = .ok (.iaload, 1) := by decide +kernel
theorem dL_law_643 : decode cL_law 643 = .ok (.invokevirtual 82, 3) := by decide +kernel
theorem dL_law_646 : decode cL_law 646 = .ok (.aload_n 2, 1) := by decide +kernel
theorem dL_law_647 : decode cL_law 647 = .ok (.aload_n 0, 1) := by decide +kernel
theorem dL_law_648 : decode cL_law 648 = .ok (.iload_n 3, 1) := by decide +kernel
theorem dL_law_649 : decode cL_law 649 = .ok (.iconst 1, 1) := by decide +kernel
theorem dL_law_650 : decode cL_law 650 = .ok (.iadd, 1) := by decide +kernel
theorem dL_law_651 : decode cL_law 651 = .ok (.iaload, 1) := by decide +kernel
theorem dL_law_652 : decode cL_law 652 = .ok (.aload_n 0, 1) := by decide +kernel
theorem dL_law_653 : decode cL_law 653 = .ok (.iload_n 3, 1) := by decide +kernel
theorem dL_law_654 : decode cL_law 654 = .ok (.iconst 2, 1) := by decide +kernel
theorem dL_law_655 : decode cL_law 655 = .ok (.iadd, 1) := by decide +kernel
theorem dL_law_656 : decode cL_law 656 = .ok (.iaload, 1) := by decide +kernel
theorem dL_law_657 : decode cL_law 657 = .ok (.invokevirtual 85, 3) := by decide +kernel
theorem dL_law_660 : decode cL_law 660 = .ok (.if_icmp .eq 311, 3) := by decide +kernel
theorem dL_law_663 : decode cL_law 663 = .ok (.iconst 0, 1) := by decide +kernel
theorem dL_law_664 : decode cL_law 664 = .ok (.ireturn, 1) := by decide +kernel
theorem dL_law_665 : decode cL_law 665 = .ok (.aload_n 1, 1) := by decide +kernel
theorem dL_law_666 : decode cL_law 666 = .ok (.aload_n 0, 1) := by decide +kernel
theorem dL_law_667 : decode cL_law 667 = .ok (.iload_n 3, 1) := by decide +kernel
theorem dL_law_668 : decode cL_law 668 = .ok (.iconst 1, 1) := by decide +kernel
theorem dL_law_669 : decode cL_law 669 = .ok (.iadd, 1) := by decide +kernel
theorem dL_law_670 : decode cL_law 670 = .ok (.iaload, 1) := by decide +kernel
theorem dL_law_671 : decode cL_law 671 = .ok (.aload_n 0, 1) := by decide +kernel
theorem dL_law_672 : decode cL_law 672 = .ok (.iload_n 3, 1) := by decide +kernel
theorem dL_law_673 : decode cL_law 673 = .ok (.iconst 2, 1) := by decide +kernel
theorem dL_law_674 : decode cL_law 674 = .ok (.iadd, 1) := by decide +kernel
theorem dL_law_675 : decode cL_law 675 = .ok (.iaload, 1) := by decide +kernel
theorem dL_law_676 : decode cL_law 676 = .ok (.invokevirtual 86, 3) := by decide +kernel
theorem dL_law_679 : decode cL_law 679 = .ok (.aload_n 2, 1) := by decide +kernel
theorem dL_law_680 : decode cL_law 680 = .ok (.aload_n 0, 1) := by decide +kernel
theorem dL_law_681 : decode cL_law 681 = .ok (.iload_n 3, 1) := by decide +kernel
theorem dL_law_682 : decode cL_law 682 = .ok (.iconst 1, 1) := by decide +kernel
theorem dL_law_683 : decode cL_law 683 = .ok (.iadd, 1) := by decide +kernel
theorem dL_law_684 : decode cL_law 684 = .ok (.iaload, 1) := by decide +kernel
theorem dL_law_685 : decode cL_law 685 = .ok (.aload_n 0, 1) := by decide +kernel
theorem dL_law_686 : decode cL_law 686 = .ok (.iload_n 3, 1) := by decide +kernel
theorem dL_law_687 : decode cL_law 687 = .ok (.iconst 2, 1) := by decide +kernel
theorem dL_law_688 : decode cL_law 688 = .ok (.iadd, 1) := by decide +kernel
theorem dL_law_689 : decode cL_law 689 = .ok (.iaload, 1) := by decide +kernel
theorem dL_law_690 : decode cL_law 690 = .ok (.invokevirtual 89, 3) := by decide +kernel
theorem dL_law_693 : decode cL_law 693 = .ok (.if_icmp .eq 278, 3) := by decide +kernel
theorem dL_law_696 : decode cL_law 696 = .ok (.iconst 0, 1) := by decide +kernel
theorem dL_law_697 : decode cL_law 697 = .ok (.ireturn, 1) := by decide +kernel
theorem dL_law_698 : decode cL_law 698 = .ok (.aload_n 1, 1) := by decide +kernel
theorem dL_law_699 : decode cL_law 699 = .ok (.aload_n 0, 1) := by decide +kernel
theorem dL_law_700 : decode cL_law 700 = .ok (.iload_n 3, 1) := by decide +kernel
theorem dL_law_701 : decode cL_law 701 = .ok (.iconst 1, 1) := by decide +kernel
theorem dL_law_702 : decode cL_law 702 = .ok (.iadd, 1) := by decide +kernel
theorem dL_law_703 : decode cL_law 703 = .ok (.iaload, 1) := by decide +kernel
theorem dL_law_704 : decode cL_law 704 = .ok (.invokevirtual 90, 3) := by decide +kernel
theorem dL_law_707 : decode cL_law 707 = .ok (.aload_n 2, 1) := by decide +kernel
theorem dL_law_708 : decode cL_law 708 = .ok (.aload_n 0, 1) := by decide +kernel
theorem dL_law_709 : decode cL_law 709 = .ok (.iload_n 3, 1) := by decide +kernel
theorem dL_law_710 : decode cL_law 710 = .ok (.iconst 1, 1) := by decide +kernel
theorem dL_law_711 : decode cL_law 711 = .ok (.iadd, 1) := by decide +kernel
theorem dL_law_712 : decode cL_law 712 = .ok (.iaload, 1) := by decide +kernel
theorem dL_law_713 : decode cL_law 713 = .ok (.invokevirtual 93, 3) := by decide +kernel
theorem dL_law_716 : decode cL_law 716 = .ok (.if_icmp .eq 255, 3) := by decide +kernel
theorem dL_law_719 : decode cL_law 719 = .ok (.iconst 0, 1) := by decide +kernel
theorem dL_law_720 : decode cL_law 720 = .ok (.ireturn, 1) := by decide +kernel
theorem dL_law_721 : decode cL_law 721 = .ok (.aload_n 1, 1) := by decide +kernel
theorem dL_law_722 : decode cL_law 722 = .ok (.invokevirtual 94, 3) := by decide +kernel
theorem dL_law_725 : decode cL_law 725 = .ok (.aload_n 2, 1) := by decide +kernel
theorem dL_law_726 : decode cL_law 726 = .ok (.invokevirtual 97, 3) := by decide +kernel
theorem dL_law_729 : decode cL_law 729 = .ok (.if_icmp .eq 242, 3) := by decide +kernel
theorem dL_law_732 : decode cL_law 732 = .ok (.iconst 0, 1) := by decide +kernel
theorem dL_law_733 : decode cL_law 733 = .ok (.ireturn, 1) := by decide +kernel
theorem dL_law_734 : decode cL_law 734 = .ok (.aload_n 1, 1) := by decide +kernel
theorem dL_law_735 : decode cL_law 735 = .ok (.invokevirtual 98, 3) := by decide +kernel
theorem dL_law_738 : decode cL_law 738 = .ok (.aload_n 2, 1) := by decide +kernel
theorem dL_law_739 : decode cL_law 739 = .ok (.invokevirtual 101, 3) := by decide +kernel
theorem dL_law_742 : decode cL_law 742 = .ok (.if_icmp .eq 229, 3) := by decide +kernel
theorem dL_law_745 : decode cL_law 745 = .ok (.iconst 0, 1) := by decide +kernel
theorem dL_law_746 : decode cL_law 746 = .ok (.ireturn, 1) := by decide +kernel
theorem dL_law_747 : decode cL_law 747 = .ok (.aload_n 1, 1) := by decide +kernel
theorem dL_law_748 : decode cL_law 748 = .ok (.invokevirtual 102, 3) := by decide +kernel
theorem dL_law_751 : decode cL_law 751 = .ok (.aload_n 2, 1) := by decide +kernel
theorem dL_law_752 : decode cL_law 752 = .ok (.invokevirtual 105, 3) := by decide +kernel
theorem dL_law_755 : decode cL_law 755 = .ok (.if_icmp .eq 216, 3) := by decide +kernel
theorem dL_law_758 : decode cL_law 758 = .ok (.iconst 0, 1) := by decide +kernel
theorem dL_law_759 : decode cL_law 759 = .ok (.ireturn, 1) := by decide +kernel
theorem dL_law_760 : decode cL_law 760 = .ok (.aload_n 1, 1) := by decide +kernel
theorem dL_law_761 : decode cL_law 761 = .ok (.aload_n 0, 1) := by decide +kernel
theorem dL_law_762 : decode cL_law 762 = .ok (.iload_n 3, 1) := by decide +kernel
theorem dL_law_763 : decode cL_law 763 = .ok (.iconst 1, 1) := by decide +kernel
theorem dL_law_764 : decode cL_law 764 = .ok (.iadd, 1) := by decide +kernel
theorem dL_law_765 : decode cL_law 765 = .ok (.iaload, 1) := by decide +kernel
theorem dL_law_766 : decode cL_law 766 = .ok (.aload_n 0, 1) := by decide +kernel
theorem dL_law_767 : decode cL_law 767 = .ok (.iload_n 3, 1) := by decide +kernel
theorem dL_law_768 : decode cL_law 768 = .ok (.iconst 2, 1) := by decide +kernel
theorem dL_law_769 : decode cL_law 769 = .ok (.iadd, 1) := by decide +kernel
theorem dL_law_770 : decode cL_law 770 = .ok (.iaload, 1) := by decide +kernel
theorem dL_law_771 : decode cL_law 771 = .ok (.invokevirtual 106, 3) := by decide +kernel
theorem dL_law_774 : decode cL_law 774 = .ok (.aload_n 2, 1) := by decide +kernel
theorem dL_law_775 : decode cL_law 775 = .ok (.aload_n 0, 1) := by decide +kernel
theorem dL_law_776 : decode cL_law 776 = .ok (.iload_n 3, 1) := by decide +kernel
theorem dL_law_777 : decode cL_law 777 = .ok (.iconst 1, 1) := by decide +kernel
theorem dL_law_778 : decode cL_law 778 = .ok (.iadd, 1) := by decide +kernel
theorem dL_law_779 : decode cL_law 779 = .ok (.iaload, 1) := by decide +kernel
theorem dL_law_780 : decode cL_law 780 = .ok (.aload_n 0, 1) := by decide +kernel
theorem dL_law_781 : decode cL_law 781 = .ok (.iload_n 3, 1) := by decide +kernel
theorem dL_law_782 : decode cL_law 782 = .ok (.iconst 2, 1) := by decide +kernel
theorem dL_law_783 : decode cL_law 783 = .ok (.iadd, 1) := by decide +kernel
theorem dL_law_784 : decode cL_law 784 = .ok (.iaload, 1) := by decide +kernel
theorem dL_law_785 : decode cL_law 785 = .ok (.invokevirtual 109, 3) := by decide +kernel
theorem dL_law_788 : decode cL_law 788 = .ok (.if_icmp .eq 183, 3) := by decide +kernel
theorem dL_law_791 : decode cL_law 791 = .ok (.iconst 0, 1) := by decide +kernel
theorem dL_law_792 : decode cL_law 792 = .ok (.ireturn, 1) := by decide +kernel
theorem dL_law_793 : decode cL_law 793 = .ok (.aload_n 1, 1) := by decide +kernel
theorem dL_law_794 : decode cL_law 794 = .ok (.invokevirtual 110, 3) := by decide +kernel
theorem dL_law_797 : decode cL_law 797 = .ok (.aload_n 2, 1) := by decide +kernel
theorem dL_law_798 : decode cL_law 798 = .ok (.invokevirtual 113, 3) := by decide +kernel
theorem dL_law_801 : decode cL_law 801 = .ok (.if_icmp .eq 170, 3) := by decide +kernel
theorem dL_law_804 : decode cL_law 804 = .ok (.iconst 0, 1) := by decide +kernel
theorem dL_law_805 : decode cL_law 805 = .ok (.ireturn, 1) := by decide +kernel
theorem dL_law_806 : decode cL_law 806 = .ok (.aload_n 1, 1) := by decide +kernel
theorem dL_law_807 : decode cL_law 807 = .ok (.aload_n 0, 1) := by decide +kernel
theorem dL_law_808 : decode cL_law 808 = .ok (.iload_n 3, 1) := by decide +kernel
theorem dL_law_809 : decode cL_law 809 = .ok (.iconst 1, 1) := by decide +kernel
theorem dL_law_810 : decode cL_law 810 = .ok (.iadd, 1) := by decide +kernel
theorem dL_law_811 : decode cL_law 811 = .ok (.iaload, 1) := by decide +kernel
theorem dL_law_812 : decode cL_law 812 = .ok (.aload_n 0, 1) := by decide +kernel
theorem dL_law_813 : decode cL_law 813 = .ok (.iload_n 3, 1) := by decide +kernel
theorem dL_law_814 : decode cL_law 814 = .ok (.iconst 2, 1) := by decide +kernel
theorem dL_law_815 : decode cL_law 815 = .ok (.iadd, 1) := by decide +kernel
theorem dL_law_816 : decode cL_law 816 = .ok (.iaload, 1) := by decide +kernel
theorem dL_law_817 : decode cL_law 817 = .ok (.aload_n 0, 1) := by decide +kernel
theorem dL_law_818 : decode cL_law 818 = .ok (.iload_n 3, 1) := by decide +kernel
theorem dL_law_819 : decode cL_law 819 = .ok (.iconst 3, 1) := by decide +kernel
theorem dL_law_820 : decode cL_law 820 = .ok (.iadd, 1) := by decide +kernel
theorem dL_law_821 : decode cL_law 821 = .ok (.iaload, 1) := by decide +kernel
theorem dL_law_822 : decode cL_law 822 = .ok (.invokevirtual 114, 3) := by decide +kernel
theorem dL_law_825 : decode cL_law 825 = .ok (.aload_n 2, 1) := by decide +kernel
theorem dL_law_826 : decode cL_law 826 = .ok (.aload_n 0, 1) := by decide +kernel
theorem dL_law_827 : decode cL_law 827 = .ok (.iload_n 3, 1) := by decide +kernel
theorem dL_law_828 : decode cL_law 828 = .ok (.iconst 1, 1) := by decide +kernel
theorem dL_law_829 : decode cL_law 829 = .ok (.iadd, 1) := by decide +kernel
theorem dL_law_830 : decode cL_law 830 = .ok (.iaload, 1) := by decide +kernel
theorem dL_law_831 : decode cL_law 831 = .ok (.aload_n 0, 1) := by decide +kernel
theorem dL_law_832 : decode cL_law 832 = .ok (.iload_n 3, 1) := by decide +kernel
theorem dL_law_833 : decode cL_law 833 = .ok (.iconst 2, 1) := by decide +kernel
theorem dL_law_834 : decode cL_law 834 = .ok (.iadd, 1) := by decide +kernel
theorem dL_law_835 : decode cL_law 835 = .ok (.iaload, 1) := by decide +kernel
theorem dL_law_836 : decode cL_law 836 = .ok (.aload_n 0, 1) := by decide +kernel
theorem dL_law_837 : decode cL_law 837 = .ok (.iload_n 3, 1) := by decide +kernel
theorem dL_law_838 : decode cL_law 838 = .ok (.iconst 3, 1) := by decide +kernel
theorem dL_law_839 : decode cL_law 839 = .ok (.iadd, 1) := by decide +kernel
theorem dL_law_840 : decode cL_law 840 = .ok (.iaload, 1) := by decide +kernel
theorem dL_law_841 : decode cL_law 841 = .ok (.invokevirtual 118, 3) := by decide +kernel
theorem dL_law_844 : decode cL_law 844 = .ok (.if_icmp .eq 127, 3) := by decide +kernel
theorem dL_law_847 : decode cL_law 847 = .ok (.iconst 0, 1) := by decide +kernel
theorem dL_law_848 : decode cL_law 848 = .ok (.ireturn, 1) := by decide +kernel
theorem dL_law_849 : decode cL_law 849 = .ok (.aload_n 1, 1) := by decide +kernel
theorem dL_law_850 : decode cL_law 850 = .ok (.aload_n 0, 1) := by decide +kernel
theorem dL_law_851 : decode cL_law 851 = .ok (.iload_n 3, 1) := by decide +kernel
theorem dL_law_852 : decode cL_law 852 = .ok (.iconst 1, 1) := by decide +kernel
theorem dL_law_853 : decode cL_law 853 = .ok (.iadd, 1) := by decide +kernel
theorem dL_law_854 : decode cL_law 854 = .ok (.iaload, 1) := by decide +kernel
theorem dL_law_855 : decode cL_law 855 = .ok (.aload_n 0, 1) := by decide +kernel
theorem dL_law_856 : decode cL_law 856 = .ok (.iload_n 3, 1) := by decide +kernel
theorem dL_law_857 : decode cL_law 857 = .ok (.iconst 2, 1) := by decide +kernel
theorem dL_law_858 : decode cL_law 858 = .ok (.iadd, 1) := by decide +kernel
theorem dL_law_859 : decode cL_law 859 = .ok (.iaload, 1) := by decide +kernel
theorem dL_law_860 : decode cL_law 860 = .ok (.aload_n 0, 1) := by decide +kernel
theorem dL_law_861 : decode cL_law 861 = .ok (.iload_n 3, 1) := by decide +kernel
theorem dL_law_862 : decode cL_law 862 = .ok (.iconst 3, 1) := by decide +kernel
theorem dL_law_863 : decode cL_law 863 = .ok (.iadd, 1) := by decide +kernel
theorem dL_law_864 : decode cL_law 864 = .ok (.iaload, 1) := by decide +kernel
theorem dL_law_865 : decode cL_law 865 = .ok (.invokevirtual 119, 3) := by decide +kernel
theorem dL_law_868 : decode cL_law 868 = .ok (.aload_n 2, 1) := by decide +kernel
theorem dL_law_869 : decode cL_law 869 = .ok (.aload_n 0, 1) := by decide +kernel
theorem dL_law_870 : decode cL_law 870 = .ok (.iload_n 3, 1) := by decide +kernel
theorem dL_law_871 : decode cL_law 871 = .ok (.iconst 1, 1) := by decide +kernel
theorem dL_law_872 : decode cL_law 872 = .ok (.iadd, 1) := by decide +kernel
theorem dL_law_873 : decode cL_law 873 = .ok (.iaload, 1) := by decide +kernel
theorem dL_law_874 : decode cL_law 874 = .ok (.aload_n 0, 1) := by decide +kernel
theorem dL_law_875 : decode cL_law 875 = .ok (.iload_n 3, 1) := by decide +kernel
theorem dL_law_876 : decode cL_law 876 = .ok (.iconst 2, 1) := by decide +kernel
theorem dL_law_877 : decode cL_law 877 = .ok (.iadd, 1) := by decide +kernel
theorem dL_law_878 : decode cL_law 878 = .ok (.iaload, 1) := by decide +kernel
theorem dL_law_879 : decode cL_law 879 = .ok (.aload_n 0, 1) := by decide +kernel
theorem dL_law_880 : decode cL_law 880 = .ok (.iload_n 3, 1) := by decide +kernel
theorem dL_law_881 : decode cL_law 881 = .ok (.iconst 3, 1) := by decide +kernel
theorem dL_law_882 : decode cL_law 882 = .ok (.iadd, 1) := by decide +kernel
theorem dL_law_883 : decode cL_law 883 = .ok (.iaload, 1) := by decide +kernel
theorem dL_law_884 : decode cL_law 884 = .ok (.invokevirtual 122, 3) := by decide +kernel
theorem dL_law_887 : decode cL_law 887 = .ok (.if_icmp .eq 84, 3) := by decide +kernel
theorem dL_law_890 : decode cL_law 890 = .ok (.iconst 0, 1) := by decide +kernel
theorem dL_law_891 : decode cL_law 891 = .ok (.ireturn, 1) := by decide +kernel
theorem dL_law_892 : decode cL_law 892 = .ok (.aload_n 1, 1) := by decide +kernel
theorem dL_law_893 : decode cL_law 893 = .ok (.aload_n 0, 1) := by decide +kernel
theorem dL_law_894 : decode cL_law 894 = .ok (.iload_n 3, 1) := by decide +kernel
theorem dL_law_895 : decode cL_law 895 = .ok (.iconst 1, 1) := by decide +kernel
theorem dL_law_896 : decode cL_law 896 = .ok (.iadd, 1) := by decide +kernel
theorem dL_law_897 : decode cL_law 897 = .ok (.iaload, 1) := by decide +kernel
theorem dL_law_898 : decode cL_law 898 = .ok (.aload_n 0, 1) := by decide +kernel
theorem dL_law_899 : decode cL_law 899 = .ok (.iload_n 3, 1) := by decide +kernel
theorem dL_law_900 : decode cL_law 900 = .ok (.iconst 2, 1) := by decide +kernel
theorem dL_law_901 : decode cL_law 901 = .ok (.iadd, 1) := by decide +kernel
theorem dL_law_902 : decode cL_law 902 = .ok (.iaload, 1) := by decide +kernel
theorem dL_law_903 : decode cL_law 903 = .ok (.invokevirtual 123, 3) := by decide +kernel
theorem dL_law_906 : decode cL_law 906 = .ok (.aload_n 2, 1) := by decide +kernel
theorem dL_law_907 : decode cL_law 907 = .ok (.aload_n 0, 1) := by decide +kernel
theorem dL_law_908 : decode cL_law 908 = .ok (.iload_n 3, 1) := by decide +kernel
theorem dL_law_909 : decode cL_law 909 = .ok (.iconst 1, 1) := by decide +kernel
theorem dL_law_910 : decode cL_law 910 = .ok (.iadd, 1) := by decide +kernel
theorem dL_law_911 : decode cL_law 911 = .ok (.iaload, 1) := by decide +kernel
theorem dL_law_912 : decode cL_law 912 = .ok (.aload_n 0, 1) := by decide +kernel
theorem dL_law_913 : decode cL_law 913 = .ok (.iload_n 3, 1) := by decide +kernel
theorem dL_law_914 : decode cL_law 914 = .ok (.iconst 2, 1) := by decide +kernel
theorem dL_law_915 : decode cL_law 915 = .ok (.iadd, 1) := by decide +kernel
theorem dL_law_916 : decode cL_law 916 = .ok (.iaload, 1) := by decide +kernel
theorem dL_law_917 : decode cL_law 917 = .ok (.invokevirtual 126, 3) := by decide +kernel
theorem dL_law_920 : decode cL_law 920 = .ok (.if_icmp .eq 51, 3) := by decide +kernel
theorem dL_law_923 : decode cL_law 923 = .ok (.iconst 0, 1) := by decide +kernel
theorem dL_law_924 : decode cL_law 924 = .ok (.ireturn, 1) := by decide +kernel
theorem dL_law_925 : decode cL_law 925 = .ok (.aload_n 1, 1) := by decide +kernel
theorem dL_law_926 : decode cL_law 926 = .ok (.aload_n 0, 1) := by decide +kernel
theorem dL_law_927 : decode cL_law 927 = .ok (.iload_n 3, 1) := by decide +kernel
theorem dL_law_928 : decode cL_law 928 = .ok (.iconst 1, 1) := by decide +kernel
theorem dL_law_929 : decode cL_law 929 = .ok (.iadd, 1) := by decide +kernel
theorem dL_law_930 : decode cL_law 930 = .ok (.iaload, 1) := by decide +kernel
theorem dL_law_931 : decode cL_law 931 = .ok (.invokevirtual 127, 3) := by decide +kernel
theorem dL_law_934 : decode cL_law 934 = .ok (.aload_n 2, 1) := by decide +kernel
theorem dL_law_935 : decode cL_law 935 = .ok (.aload_n 0, 1) := by decide +kernel
theorem dL_law_936 : decode cL_law 936 = .ok (.iload_n 3, 1) := by decide +kernel
theorem dL_law_937 : decode cL_law 937 = .ok (.iconst 1, 1) := by decide +kernel
theorem dL_law_938 : decode cL_law 938 = .ok (.iadd, 1) := by decide +kernel
theorem dL_law_939 : decode cL_law 939 = .ok (.iaload, 1) := by decide +kernel
theorem dL_law_940 : decode cL_law 940 = .ok (.invokevirtual 130, 3) := by decide +kernel
theorem dL_law_943 : decode cL_law 943 = .ok (.if_icmp .eq 28, 3) := by decide +kernel
theorem dL_law_946 : decode cL_law 946 = .ok (.iconst 0, 1) := by decide +kernel
theorem dL_law_947 : decode cL_law 947 = .ok (.ireturn, 1) := by decide +kernel
theorem dL_law_948 : decode cL_law 948 = .ok (.aload_n 1, 1) := by decide +kernel
theorem dL_law_949 : decode cL_law 949 = .ok (.aload_n 0, 1) := by decide +kernel
theorem dL_law_950 : decode cL_law 950 = .ok (.iload_n 3, 1) := by decide +kernel
theorem dL_law_951 : decode cL_law 951 = .ok (.iconst 1, 1) := by decide +kernel
theorem dL_law_952 : decode cL_law 952 = .ok (.iadd, 1) := by decide +kernel
theorem dL_law_953 : decode cL_law 953 = .ok (.iaload, 1) := by decide +kernel
theorem dL_law_954 : decode cL_law 954 = .ok (.invokevirtual 131, 3) := by decide +kernel
theorem dL_law_957 : decode cL_law 957 = .ok (.aload_n 2, 1) := by decide +kernel
theorem dL_law_958 : decode cL_law 958 = .ok (.aload_n 0, 1) := by decide +kernel
theorem dL_law_959 : decode cL_law 959 = .ok (.iload_n 3, 1) := by decide +kernel
theorem dL_law_960 : decode cL_law 960 = .ok (.iconst 1, 1) := by decide +kernel
theorem dL_law_961 : decode cL_law 961 = .ok (.iadd, 1) := by decide +kernel
theorem dL_law_962 : decode cL_law 962 = .ok (.iaload, 1) := by decide +kernel
theorem dL_law_963 : decode cL_law 963 = .ok (.invokevirtual 134, 3) := by decide +kernel
theorem dL_law_966 : decode cL_law 966 = .ok (.if_icmp .eq 5, 3) := by decide +kernel
theorem dL_law_969 : decode cL_law 969 = .ok (.iconst 0, 1) := by decide +kernel
theorem dL_law_970 : decode cL_law 970 = .ok (.ireturn, 1) := by decide +kernel
theorem dL_law_971 : decode cL_law 971 = .ok (.iinc 3 5, 3) := by decide +kernel
theorem dL_law_974 : decode cL_law 974 = .ok (.goto (-956), 3) := by decide +kernel
theorem dL_law_977 : decode cL_law 977 = .ok (.iconst 1, 1) := by decide +kernel
theorem dL_law_978 : decode cL_law 978 = .ok (.ireturn, 1) := by decide +kernel
end
section
/-! MY OWN JUDGEMENT over the kit's rows: one room of cells at the addresses b0, b0 + 1 .. (ids 0, 1 ..), what they hold as a function; Sp: a call; Go: a place in a body -/
abbrev gC : Type := va_G × Nat × (Nat → ClassId) × (Nat → Nat)
abbrev Mem : Type := Nat × (Nat → Nat → Int32) × (Nat → Int64)
def gm_r (μ : Mem) (o k : Nat) : Int32 := μ.2.1 o k
def gm_l (μ : Mem) (k : Nat) : Int64 := μ.2.2 k
def gm_row (μ : Mem) (o : Nat) (r : Nat → Int32) : Mem := (μ.1, va_up μ.2.1 o r, μ.2.2)
def gm_w (μ : Mem) (o k : Nat) (x : Int32) : Mem := gm_row μ o (upd (μ.2.1 o) k x)
def gm_wl (μ : Mem) (k : Nat) (x : Int64) : Mem := (μ.1, μ.2.1, vp_updL μ.2.2 k x)
def ga (G : gC) (j : Nat) : Nat := G.2.1 + j
theorem ga_inj {G : gC} {i j : Nat} (h : ga G i = ga G j) : i = j := by unfold ga at h; omega
def gk_kd : List Nat := [9, 8, 11, 4, 7, 14, 11, 11, 11, 11, 11, 11, 11, 11, 11, 11, 7, 14, 11, 11, 11, 11, 11, 11, 11, 11, 11, 11, 5, 11, 6, 11, 11, 11, 11, 11, 11, 11, 11, 11, 11, 11, 0, 11, 11, 11, 3, 1, 14, 11, 11, 11, 11, 11, 11, 11, 11, 11, 14, 11, 11, 11, 11, 11, 11, 11, 11, 11, 15, 0, 11, 11, 11, 0, 11, 11, 11, 12,
  10, 11, 11, 11, 11, 11, 11, 11, 11, 11, 13, 12, 11, 11, 11, 11, 11, 12, 11, 11, 11, 11, 11, 11, 11, 11, 11, 12,
  2, 11, 14, 11, 11, 11, 11, 11, 11, 11, 11, 11, 11, 11, 14, 11, 11, 11, 11, 11, 11, 11, 11, 11, 11, 11, 14, 11, 11, 11, 11, 11, 11, 11, 11, 11, 11, 11]
def gk_ln : List Nat := [0, 0, 400, 0, 0, 10, 9, 9, 9, 9, 9, 9, 9, 9, 9, 9, 0, 10, 9, 9, 9, 9, 9, 9, 9, 9, 9, 9, 0, 8, 0, 1024, 1024, 1024, 1024, 1024, 1024, 1024, 1024, 1024, 1024, 1024, 0, 10, 12, 8, 0, 0, 9, 11, 11, 11, 11, 11, 11, 11, 11, 11, 9, 11, 11, 11, 11, 11, 11, 11, 11, 11, 2, 0, 10, 12, 8, 0, 10, 12, 8, 2,
  0, 10, 10, 80, 8, 8, 400, 10, 10, 80, 1024, 1024, 1024, 1024, 12, 72, 6, 1024, 1024, 13312, 13312, 13312, 10, 99, 99, 220, 2, 2,
  0, 1024, 11, 1024, 1024, 1024, 1024, 1024, 1024, 1024, 1024, 1024, 1024, 1024, 11, 1024, 1024, 1024, 1024, 1024, 1024, 1024, 1024, 1024, 1024, 1024, 11, 1024, 1024, 1024, 1024, 1024, 1024, 1024, 1024, 1024, 1024, 1024]
def gk_k (i : Nat) : Nat := gk_kd.getD i 99
def gk_n (i : Nat) : Nat := gk_ln.getD i 0
/-- what the cell i is, its variable numbers being r (q: those of the one row of longs) -/
def gs (G : gC) (i : Nat) (r : Nat → Int32) (q : Nat → Int64) : va_E := match gk_k i with
  | 0 => .inr (0, [.ref (ga G (i + 1)), .int (r 1), .ref (ga G (i + 2)), .int (r 3), .ref (ga G (i + 3))])
  | 1 => .inr (1, [.ref (ga G 4), .ref (ga G 42), .ref (ga G 48), .ref (ga G 58)])
  | 2 => .inr (2, [.ref (ga G 4), .ref (ga G 30), .ref (ga G 42), .int (r 3), .ref (ga G 107), .ref (ga G 108), .ref (ga G 120), .int (r 7), .ref (ga G 132), .int (r 9)])
  | 3 => .inr (3, [.ref (ga G 4), .ref (ga G 42)])
  | 4 => .inr (4, [.ref (ga G 1), if r 1 = 0 then .null else .ref (ga G 16), .int (r 2), .int (r 3), .int (r 4), .int (r 5), .int (r 6), .int (r 7)])
  | 5 => .inr (5, [.ref (ga G 4), .ref (ga G 29), .int (r 2)])
  | 6 => .inr (6, [.ref (ga G 4), .ref (ga G 28), .int (r 2), .int (r 3), .ref (ga G 31), .ref (ga G 32), .ref (ga G 33), .ref (ga G 34), .ref (ga G 35), .ref (ga G 36), .ref (ga G 37), .ref (ga G 38), .ref (ga G 39), .ref (ga G 40), .ref (ga G 41), .int (r 15)])
  | 7 => .inr (7, [.ref (ga G (i + 1)), .int (r 1)])
  | 8 => .inr (8, [.ref (ga G 2), .int (r 1)])
  | 9 => .inr (9, [.ref (ga G 1), .ref (ga G 3), .ref (ga G 4), .ref (ga G 16), .ref (ga G 28), .ref (ga G 30), .ref (ga G 42), .ref (ga G 46), .ref (ga G 47), .ref (ga G 68), .ref (ga G 77), if r 11 = 0 then .null else .ref (ga G 106)])
  | 10 => .inr (10, [.int (r 0), .int (r 1), .ref (ga G 79), .ref (ga G 80), .ref (ga G 81), .ref (ga G 82), .ref (ga G 83), .ref (ga G 84), .int (r 8), .int (r 9), .int (r 10), .int (r 11), .int (r 12), .int (r 13), .int (r 14), .ref (ga G 85), .ref (ga G 86), .ref (ga G 87), .ref (ga G 88), .ref (ga G 89), .ref (ga G 90), .ref (ga G 91), .int (r 22), .int (r 23), .ref (ga G 92), .ref (ga G 93), .int (r 26), .int (r 27), .ref (ga G 94), .ref (ga G 95), .ref (ga G 96), .ref (ga G 97), .ref (ga G 98), .ref (ga G 99), .ref (ga G 100), .ref (ga G 101), .ref (ga G 102), .ref (ga G 103), .ref (ga G 104), .ref (ga G 105)])
  | 11 => .inl (G.2.2.1 0, gk_n i, .inl r)
  | 12 => .inl (G.2.2.1 1, gk_n i, .inl r)
  | 13 => .inl (G.2.2.1 2, gk_n i, .inr (.inl q))
  | 14 => .inl (G.2.2.1 4, gk_n i, .inr (.inr (.inr (.inr (fun j => if j < gk_n i then some (ga G (i + 1 + j)) else none)))))
  | _ => .inl (G.2.2.1 3, gk_n i, .inr (.inr (.inr (.inr (fun j => if j = 0 then some (ga G 69) else if j = 1 then some (ga G 73) else none)))))
def gw (G : gC) (μ : Mem) (H : Heap) : Prop := (106 ≤ μ.1 ∧ H.size = G.2.1 + μ.1) ∧ ∀ i, i < μ.1 → va_at G.1 vwCl (ga G i, gs G i (μ.2.1 i) μ.2.2) H
def gA (G : gC) : Nat → Prop := fun q => G.2.1 ≤ q
def gt (G : gC) : List (ClassId × FieldType) := [(G.2.2.1 0, .int), (G.2.2.1 1, .boolean), (G.2.2.1 2, .long), (G.2.2.1 3, .object "StoryNumbers$Book"), (G.2.2.1 4, .array .int)]
def gz_atFirst : List Int32 := [1, 60, 2, 3, 4, 2, 1, 8]
def gz_lowest : List Int32 := [1, 1, 1, 0, 0, 0, 0, 0]
def gz_highest : List Int32 := [99, 200, 9, 20, 20, 20, 20, 99]
def gz_greatest : List Int32 := [99, 9, 7, 9, 7, 7, 7, 7, 7]
def gz_words : List Int32 := [115, 99, 101, 110, 101, 106, 111, 121, 32, 32, 119, 105, 116, 104, 32, 97, 102, 116, 101, 114, 111, 112, 101, 110, 115, 115, 104, 117, 116, 115, 116, 101, 108, 108, 115, 110, 101, 101, 100, 115, 100, 105, 101, 115, 32]
/-- the statics that are read: nobody writes them -/
def gz (G : gC) (U : State) (H : Heap) : Prop :=
  (va_Z "StoryNumbers$Book" "AT_FIRST" "[I" (.ref (G.2.2.2 0)) (gA G) U H ∧ va_T .int (G.2.2.2 0) 8 (fun j => .int (gz_atFirst.getD j 0)) (gA G) U H)
  ∧ (va_Z "StoryNumbers$Book" "LOWEST" "[I" (.ref (G.2.2.2 1)) (gA G) U H ∧ va_T .int (G.2.2.2 1) 8 (fun j => .int (gz_lowest.getD j 0)) (gA G) U H)
  ∧ (va_Z "StoryNumbers$Book" "HIGHEST" "[I" (.ref (G.2.2.2 2)) (gA G) U H ∧ va_T .int (G.2.2.2 2) 8 (fun j => .int (gz_highest.getD j 0)) (gA G) U H)
  ∧ (va_Z "StoryNumbers$Reader" "GREATEST" "[I" (.ref (G.2.2.2 3)) (gA G) U H ∧ va_T .int (G.2.2.2 3) 9 (fun j => .int (gz_greatest.getD j 0)) (gA G) U H)
  ∧ (va_Z "java/lang/String" "COMPACT_STRINGS" "Z" (.int 1) (gA G) U H ∧ va_Zq "jdk/internal/util/Preconditions" "SIOOBE_FORMATTER" "Ljava/util/function/BiFunction;" (gA G) U H)
  ∧ (va_Nw (.methodLinkNest "StoryNumbers$Chapters" 37 ⟨"StoryNumbers$Book", "setFrom", "(II)I"⟩ "StoryNumbers") U ∧ vk_R "StoryNumbers$Reader" 89 "scenejoy  with afteropensshutstellsneedsdies " (G.2.2.2 4) U) ∧ vk_S 1 [45] [gz_words] (fun _ => G.2.2.2 4) (fun _ => G.2.2.2 5) (gA G) U H
theorem gz_move {G : gC} {s U : State} {H0 H : Heap} (h : gz G s H0) (hW : s.WarmedH U.vm) (hq : ∀ a : Nat, a < H0.size → ¬ gA G a → H[a]? = H0[a]?) : gz G U H := by
  obtain ⟨⟨a1, b1⟩, ⟨a2, b2⟩, ⟨a3, b3⟩, ⟨a4, b4⟩, ⟨a5, b5⟩, ⟨w6, a6⟩, b6⟩ := h
  have hv := hW.alike
  exact ⟨⟨(a1.moved hv).kept hq, (b1.moved hv).kept hq⟩, ⟨(a2.moved hv).kept hq, (b2.moved hv).kept hq⟩, ⟨(a3.moved hv).kept hq, (b3.moved hv).kept hq⟩, ⟨(a4.moved hv).kept hq, (b4.moved hv).kept hq⟩, ⟨(a5.moved hv).kept hq, (b5.moved hv).kept hq⟩, ⟨w6.warmM hW, a6.warm hW⟩, (b6.moved hv).kept hq⟩
theorem gw_at {G : gC} {μ : Mem} {H : Heap} (h : gw G μ H) {i : Nat} (hi : i < μ.1) : va_P G.1 vwCl [(ga G i, gs G i (μ.2.1 i) μ.2.2)] H := by
  intro k q hq
  match k, hq with
  | 0, hq => cases hq; exact h.2 i hi
  | k + 1, hq => simp at hq
theorem gw_row {G : gC} {μ : Mem} {H H1 : Heap} {o : Nat} {r : Nat → Int32} (h : gw G μ H) (hz : H1.size = H.size) (ho : ∀ q : Nat, q ≠ ga G o → H1[q]? = H[q]?) (hc : va_at G.1 vwCl (ga G o, gs G o r μ.2.2) H1) : gw G (gm_row μ o r) H1 := by
  refine ⟨⟨h.1.1, hz.trans h.1.2⟩, fun i hi => ?_⟩
  show va_at G.1 vwCl (ga G i, gs G i (va_up μ.2.1 o r i) μ.2.2) H1
  by_cases e : i = o
  · subst e
    simpa [va_up] using hc
  · have e1 : va_up μ.2.1 o r i = μ.2.1 i := by simp [va_up, e]
    rw [e1]
    exact (h.2 i hi).kept (ho _ (fun q => e (ga_inj q)))
theorem gw_long {G : gC} {μ : Mem} {H H1 : Heap} {f : Nat → Int64} (h : gw G μ H) (hz : H1.size = H.size) (ho : ∀ q : Nat, q ≠ ga G 88 → H1[q]? = H[q]?) (hc : va_at G.1 vwCl (ga G 88, gs G 88 (μ.2.1 88) f) H1) (hk : ∀ i, i < μ.1 → i ≠ 88 → gk_k i ≠ 13) : gw G (μ.1, μ.2.1, f) H1 := by
  refine ⟨⟨h.1.1, hz.trans h.1.2⟩, fun i hi => ?_⟩
  show va_at G.1 vwCl (ga G i, gs G i (μ.2.1 i) f) H1
  by_cases e : i = 88
  · subst e
    exact hc
  · have h1 := (h.2 i hi).kept (ho (ga G i) (fun q => e (ga_inj q)))
    have e2 : gs G i (μ.2.1 i) f = gs G i (μ.2.1 i) μ.2.2 := by
      have := hk i hi e
      unfold gs
      split <;> first | rfl | (rename_i h13; exact absurd h13 this)
    rw [e2]
    exact h1
abbrev gM : Type := MethodName × ByteArray × Nat × Option FieldType × Nat × Nat × Nat
abbrev gM.y (M : gM) : MethodName := M.1
abbrev gM.cc (M : gM) : ByteArray := M.2.1
abbrev gM.nL (M : gM) : Nat := M.2.2.1
abbrev gM.ret (M : gM) : Option FieldType := M.2.2.2.1
abbrev gM.d (M : gM) : Nat := M.2.2.2.2.1
abbrev gM.mc (M : gM) : Nat := M.2.2.2.2.2.1
abbrev gM.ms (M : gM) : Nat := M.2.2.2.2.2.2
def g_rm (d mc ms : Nat) : Room := { frames := d, cells := mc, slots := ms, locals := 40 * d }
def g_tbl : List Cond := lw_tbl.filter goodWord
theorem g_in {w : Cond} (i : Nat) (h : lw_tbl[i]? = some w) (hg : goodWord w = true) : w ∈ g_tbl := List.mem_filter.mpr ⟨List.mem_of_getElem? h, hg⟩
theorem g_good {w : Cond} (h : w ∈ g_tbl) : goodWord w = true := (List.mem_filter.mp h).2
abbrev g_ws (M : gM) : List Cond := Cond.code M.y M.cc M.nL M.ret :: g_tbl
def g_Q (G : gC) (P : Option Value → Mem → Prop) : Array Value → State → Outcome → State → Prop := fun _ st oc t => (∃ (r : Option Value) (μ : Mem), oc = .returned r ∧ P r μ ∧ gw G μ t.heap) ∧ va_F (gA G) st t
def g_P (G : gC) (av : List Value) (μ : Mem) : Array Value → State → Prop := va_Pc av (fun U => gw G μ U.heap ∧ va_K G.1 vwCl (gt G) U ∧ gz G U U.heap)
/-- the call of M with av in the memory μ returns, and what comes of it has P -/
def Sp (G : gC) (l : Launch) (M : gM) (av : List Value) (μ : Mem) (P : Option Value → Mem → Prop) : Prop := Met l M.y (g_ws M) (g_rm M.d M.mc M.ms) (g_P G av μ) (g_Q G P) M.mc M.ms (gA G)
def g_cx (G : gC) (M : gM) (p : Program) (s : State) (m : MethodId) (args : Array Value) (meth : Method) (c : Code) : Prop :=
  p.tables.exec = Jvm.exec ∧ c.code = M.cc ∧ meth.sig.returnType = M.ret ∧ c.maxLocals = M.nL ∧ s.vm.findClass M.y.cls = some m.cls ∧ (∀ w ∈ g_tbl, w.before args s = true) ∧ meth.locks = false ∧ va_K G.1 vwCl (gt G) s ∧ gz G s s.heap ∧ meth.name = M.y.name ∧ G.2.1 ≤ s.heap.size
/-- at pc of M's body, k1 cells and k2 slots being new: it comes to an end that has P -/
def Go (G : gC) (l : Launch) (M : gM) (P : Option Value → Mem → Prop) (k1 k2 pc : Nat) (μ : Mem) (lv : List (Nat × Value)) (st : List Value) : Prop :=
  ∀ (p : Program) (e : Env) (s : State) (m : MethodId) (args : Array Value) (below : List Frame) (meth : Method) (c : Code), g_cx G M p s m args meth c → ∀ (H : Heap) (locs : List Loc) (ls : Array Slot), gw G μ H → va_S (gA G) s.heap H locs → lv_has ls M.nL lv →
    W p l e (g_rm M.d M.mc M.ms) s m args below meth c H locs k1 k2 (MQ below (g_Q G P) args s M.mc M.ms (gA G)) (F0 m pc ls st)
theorem Sp.mono {G : gC} {l : Launch} {M : gM} {av : List Value} {μ : Mem} {P P' : Option Value → Mem → Prop} (h : Sp G l M av μ P) (hP : ∀ r μ', P r μ' → P' r μ') : Sp G l M av μ P' := by
  intro p e ha hc hk s m args below hf happ hp
  intro hK
  obtain ⟨k, o, h1, h2, h3, ⟨⟨r, μ', e1, e2, e3⟩, e4⟩, e5⟩ := h p e ha hc hk s m args below hf happ hp hK
  exact ⟨k, o, h1, h2, h3, ⟨⟨r, μ', e1, hP _ _ e2, e3⟩, e4⟩, e5⟩
theorem Sp.of {G : gC} {l : Launch} {M : gM} {av : List Value} {μ : Mem} {P : Option Value → Mem → Prop} (hy : plainName M.y.cls = true) (hn : (lg_sl av).length ≤ M.nL) {lv : List (Nat × Value)} (hlv : lv_args 0 av = lv) (h : Go G l M P 0 0 0 μ lv []) : Sp G l M av μ P := by
  refine Met.ofW (cc := M.cc) (maxL := M.nL) (ret := M.ret) hy rfl ?_
  intro p e s m args below meth c s₁ B hml hv
  obtain ⟨rfl, hP, hK, hZ⟩ := hv
  rw [lg_entry_eq]
  have hl := lv_entry av (n := M.nL) hn
  rw [hlv] at hl
  exact h p e s m _ below meth c ⟨B.exec, B.bytes, B.returns, hml, findClass_of_methodNamed B.named, fun w hw => atoms_spec (ws := g_ws M) B.pre w (List.mem_cons_of_mem _ hw), B.notSynchronized, hK, hZ, (name_of_methodNamed B.named B.method).1, by rw [hP.1.2]; exact Nat.le_add_right _ _⟩ s.heap [] _ hP va_S.rf hl
end
section
section GOR
variable {G : gC} {l : Launch} {M : gM} {P : Option Value → Mem → Prop} {k1 k2 pc : Nat} {μ : Mem} {lv : List (Nat × Value)} {st : List Value}
theorem go_sub (ks : List Nat) {lv' : List (Nat × Value)} (hl : lv_pick lv ks = lv') (k : Go G l M P k1 k2 pc μ lv' st) : Go G l M P k1 k2 pc μ lv st := fun p e s m args below meth c cx H locs ls hP hS hl0 => k p e s m args below meth c cx H locs ls hP hS (lv_sub hl0 ks hl)
theorem go_widen {n1 n2 : Nat} (h1 : k1 ≤ n1) (h2 : k2 ≤ n2) (k : Go G l M P n1 n2 pc μ lv st) : Go G l M P k1 k2 pc μ lv st := fun p e s m args below meth c cx H locs ls hP hS hl => W.widen h1 h2 (k p e s m args below meth c cx H locs ls hP hS hl)
theorem go_iconst {n : Int} {v : Int32} (hd : decode M.cc pc = .ok (.iconst n, 1)) (hv : Int32.ofInt n = v) (k : Go G l M P k1 k2 (pc + 1) μ lv (.int v :: st)) : Go G l M P k1 k2 pc μ lv st := fun p e s m args below meth c cx H locs ls hP hS hl => lv_iconst cx.1 cx.2.1 hd hv (k p e s m args below meth c cx H locs ls hP hS hl)
theorem go_bipush {n : Int} {v : Int32} (hd : decode M.cc pc = .ok (.bipush n, 2)) (hv : (Int8.ofInt n).toInt32 = v) (k : Go G l M P k1 k2 (pc + 2) μ lv (.int v :: st)) : Go G l M P k1 k2 pc μ lv st := fun p e s m args below meth c cx H locs ls hP hS hl => lv_bipush cx.1 cx.2.1 hd hv (k p e s m args below meth c cx H locs ls hP hS hl)
theorem go_sipush {n : Int} {v : Int32} (hd : decode M.cc pc = .ok (.sipush n, 3)) (hv : (Int16.ofInt n).toInt32 = v) (k : Go G l M P k1 k2 (pc + 3) μ lv (.int v :: st)) : Go G l M P k1 k2 pc μ lv st := fun p e s m args below meth c cx H locs ls hP hS hl => lv_sipush cx.1 cx.2.1 hd hv (k p e s m args below meth c cx H locs ls hP hS hl)
theorem go_lconst {n : Fin 2} {v : Int64} (hd : decode M.cc pc = .ok (.lconst n, 1)) (hv : Int64.ofNat (n : Nat) = v) (k : Go G l M P k1 k2 (pc + 1) μ lv (.long v :: st)) : Go G l M P k1 k2 pc μ lv st := fun p e s m args below meth c cx H locs ls hP hS hl => lv_lconst cx.1 cx.2.1 hd hv (k p e s m args below meth c cx H locs ls hP hS hl)
theorem go_iload_n {q : Fin 4} {i : Nat} {x : Int32} (hd : decode M.cc pc = .ok (.iload_n q, 1)) (hi : (q : Nat) = i) (j : Nat) (hj : lv[j]? = some (i, .int x)) (k : Go G l M P k1 k2 (pc + 1) μ lv (.int x :: st)) : Go G l M P k1 k2 pc μ lv st := fun p e s m args below meth c cx H locs ls hP hS hl => lv_iload_n cx.1 cx.2.1 hd hi (lv_at hl j hj) (k p e s m args below meth c cx H locs ls hP hS hl)
theorem go_iload {i : Nat} {x : Int32} (hd : decode M.cc pc = .ok (.iload i, 2)) (j : Nat) (hj : lv[j]? = some (i, .int x)) (k : Go G l M P k1 k2 (pc + 2) μ lv (.int x :: st)) : Go G l M P k1 k2 pc μ lv st := fun p e s m args below meth c cx H locs ls hP hS hl => lv_iload cx.1 cx.2.1 hd (lv_at hl j hj) (k p e s m args below meth c cx H locs ls hP hS hl)
theorem go_lload_n {q : Fin 4} {i : Nat} {x : Int64} (hd : decode M.cc pc = .ok (.lload_n q, 1)) (hi : (q : Nat) = i) (j : Nat) (hj : lv[j]? = some (i, .long x)) (k : Go G l M P k1 k2 (pc + 1) μ lv (.long x :: st)) : Go G l M P k1 k2 pc μ lv st := fun p e s m args below meth c cx H locs ls hP hS hl => lv_lload_n cx.1 cx.2.1 hd hi (lv_at hl j hj) (k p e s m args below meth c cx H locs ls hP hS hl)
theorem go_lload {i : Nat} {x : Int64} (hd : decode M.cc pc = .ok (.lload i, 2)) (j : Nat) (hj : lv[j]? = some (i, .long x)) (k : Go G l M P k1 k2 (pc + 2) μ lv (.long x :: st)) : Go G l M P k1 k2 pc μ lv st := fun p e s m args below meth c cx H locs ls hP hS hl => lv_lload cx.1 cx.2.1 hd (lv_at hl j hj) (k p e s m args below meth c cx H locs ls hP hS hl)
theorem go_aload_n {q : Fin 4} {i : Nat} {x : Nat} (hd : decode M.cc pc = .ok (.aload_n q, 1)) (hi : (q : Nat) = i) (j : Nat) (hj : lv[j]? = some (i, .ref x)) (k : Go G l M P k1 k2 (pc + 1) μ lv (.ref x :: st)) : Go G l M P k1 k2 pc μ lv st := fun p e s m args below meth c cx H locs ls hP hS hl => lv_aload_n cx.1 cx.2.1 hd hi (lv_at hl j hj) (k p e s m args below meth c cx H locs ls hP hS hl)
theorem go_aload {i : Nat} {x : Nat} (hd : decode M.cc pc = .ok (.aload i, 2)) (j : Nat) (hj : lv[j]? = some (i, .ref x)) (k : Go G l M P k1 k2 (pc + 2) μ lv (.ref x :: st)) : Go G l M P k1 k2 pc μ lv st := fun p e s m args below meth c cx H locs ls hP hS hl => lv_aload cx.1 cx.2.1 hd (lv_at hl j hj) (k p e s m args below meth c cx H locs ls hP hS hl)
theorem go_istore_n {q : Fin 4} {i : Nat} {x : Int32} (lv' : List (Nat × Value)) (ks : List Nat) (hd : decode M.cc pc = .ok (.istore_n q, 1)) (hi : (q : Nat) = i) (hn : i < M.nL) (hl' : lv_pick ((i, Value.int x) :: lv.filter (fun q => !(q.1 == i) && !(q.1 + 1 == i && q.2.category == 2))) ks = lv') (k : Go G l M P k1 k2 (pc + 1) μ lv' st) : Go G l M P k1 k2 pc μ lv (.int x :: st) := fun p e s m args below meth c cx H locs ls hP hS hl => lv_istore_n cx.1 cx.2.1 hd hi hl hn rfl (fun ls hl1 => k p e s m args below meth c cx H locs ls hP hS (lv_sub hl1 ks hl'))
theorem go_istore {i : Nat} {x : Int32} (lv' : List (Nat × Value)) (ks : List Nat) (hd : decode M.cc pc = .ok (.istore i, 2)) (hn : i < M.nL) (hl' : lv_pick ((i, Value.int x) :: lv.filter (fun q => !(q.1 == i) && !(q.1 + 1 == i && q.2.category == 2))) ks = lv') (k : Go G l M P k1 k2 (pc + 2) μ lv' st) : Go G l M P k1 k2 pc μ lv (.int x :: st) := fun p e s m args below meth c cx H locs ls hP hS hl => lv_istore cx.1 cx.2.1 hd hl hn rfl (fun ls hl1 => k p e s m args below meth c cx H locs ls hP hS (lv_sub hl1 ks hl'))
theorem go_lstore_n {q : Fin 4} {i : Nat} {x : Int64} (lv' : List (Nat × Value)) (ks : List Nat) (hd : decode M.cc pc = .ok (.lstore_n q, 1)) (hi : (q : Nat) = i) (hn : i + 1 < M.nL) (hl' : lv_pick ((i, Value.long x) :: lv.filter (fun q => !(q.1 == i) && (!(q.1 == i + 1) && !(q.1 + 1 == i && q.2.category == 2)))) ks = lv') (k : Go G l M P k1 k2 (pc + 1) μ lv' st) : Go G l M P k1 k2 pc μ lv (.long x :: st) := fun p e s m args below meth c cx H locs ls hP hS hl => lv_lstore_n cx.1 cx.2.1 hd hi hl hn rfl (fun ls hl1 => k p e s m args below meth c cx H locs ls hP hS (lv_sub hl1 ks hl'))
theorem go_lstore {i : Nat} {x : Int64} (lv' : List (Nat × Value)) (ks : List Nat) (hd : decode M.cc pc = .ok (.lstore i, 2)) (hn : i + 1 < M.nL) (hl' : lv_pick ((i, Value.long x) :: lv.filter (fun q => !(q.1 == i) && (!(q.1 == i + 1) && !(q.1 + 1 == i && q.2.category == 2)))) ks = lv') (k : Go G l M P k1 k2 (pc + 2) μ lv' st) : Go G l M P k1 k2 pc μ lv (.long x :: st) := fun p e s m args below meth c cx H locs ls hP hS hl => lv_lstore cx.1 cx.2.1 hd hl hn rfl (fun ls hl1 => k p e s m args below meth c cx H locs ls hP hS (lv_sub hl1 ks hl'))
theorem go_astore_n {q : Fin 4} {i : Nat} {x : Nat} (lv' : List (Nat × Value)) (ks : List Nat) (hd : decode M.cc pc = .ok (.astore_n q, 1)) (hi : (q : Nat) = i) (hn : i < M.nL) (hl' : lv_pick ((i, Value.ref x) :: lv.filter (fun q => !(q.1 == i) && !(q.1 + 1 == i && q.2.category == 2))) ks = lv') (k : Go G l M P k1 k2 (pc + 1) μ lv' st) : Go G l M P k1 k2 pc μ lv (.ref x :: st) := fun p e s m args below meth c cx H locs ls hP hS hl => lv_astore_n cx.1 cx.2.1 hd hi hl hn rfl (fun ls hl1 => k p e s m args below meth c cx H locs ls hP hS (lv_sub hl1 ks hl'))
theorem go_astore {i : Nat} {x : Nat} (lv' : List (Nat × Value)) (ks : List Nat) (hd : decode M.cc pc = .ok (.astore i, 2)) (hn : i < M.nL) (hl' : lv_pick ((i, Value.ref x) :: lv.filter (fun q => !(q.1 == i) && !(q.1 + 1 == i && q.2.category == 2))) ks = lv') (k : Go G l M P k1 k2 (pc + 2) μ lv' st) : Go G l M P k1 k2 pc μ lv (.ref x :: st) := fun p e s m args below meth c cx H locs ls hP hS hl => lv_astore cx.1 cx.2.1 hd hl hn rfl (fun ls hl1 => k p e s m args below meth c cx H locs ls hP hS (lv_sub hl1 ks hl'))
theorem go_iinc {i : Nat} {n : Int} {x v : Int32} (lv' : List (Nat × Value)) (ks : List Nat) (j : Nat) (hd : decode M.cc pc = .ok (.iinc i n, 3)) (hj : lv[j]? = some (i, .int x)) (hv : x + Int32.ofInt n = v) (hn : i < M.nL) (hl' : lv_pick ((i, Value.int v) :: lv.filter (fun q => !(q.1 == i) && !(q.1 + 1 == i && q.2.category == 2))) ks = lv') (k : Go G l M P k1 k2 (pc + 3) μ lv' st) : Go G l M P k1 k2 pc μ lv st := fun p e s m args below meth c cx H locs ls hP hS hl => lv_iinc cx.1 cx.2.1 hd hl hj hv hn rfl (fun ls hl1 => k p e s m args below meth c cx H locs ls hP hS (lv_sub hl1 ks hl'))
theorem go_iadd {x y : Int32} (hd : decode M.cc pc = .ok (.iadd, 1)) (k : Go G l M P k1 k2 (pc + 1) μ lv (.int (x + y) :: st)) : Go G l M P k1 k2 pc μ lv (.int y :: .int x :: st) := fun p e s m args below meth c cx H locs ls hP hS hl => lv_iadd cx.1 cx.2.1 hd (k p e s m args below meth c cx H locs ls hP hS hl)
theorem go_isub {x y : Int32} (hd : decode M.cc pc = .ok (.isub, 1)) (k : Go G l M P k1 k2 (pc + 1) μ lv (.int (x - y) :: st)) : Go G l M P k1 k2 pc μ lv (.int y :: .int x :: st) := fun p e s m args below meth c cx H locs ls hP hS hl => lv_isub cx.1 cx.2.1 hd (k p e s m args below meth c cx H locs ls hP hS hl)
theorem go_imul {x y : Int32} (hd : decode M.cc pc = .ok (.imul, 1)) (k : Go G l M P k1 k2 (pc + 1) μ lv (.int (x * y) :: st)) : Go G l M P k1 k2 pc μ lv (.int y :: .int x :: st) := fun p e s m args below meth c cx H locs ls hP hS hl => lv_imul cx.1 cx.2.1 hd (k p e s m args below meth c cx H locs ls hP hS hl)
theorem go_iand {x y : Int32} (hd : decode M.cc pc = .ok (.iand, 1)) (k : Go G l M P k1 k2 (pc + 1) μ lv (.int (x &&& y) :: st)) : Go G l M P k1 k2 pc μ lv (.int y :: .int x :: st) := fun p e s m args below meth c cx H locs ls hP hS hl => lv_iand cx.1 cx.2.1 hd (k p e s m args below meth c cx H locs ls hP hS hl)
theorem go_ior {x y : Int32} (hd : decode M.cc pc = .ok (.ior, 1)) (k : Go G l M P k1 k2 (pc + 1) μ lv (.int (x ||| y) :: st)) : Go G l M P k1 k2 pc μ lv (.int y :: .int x :: st) := fun p e s m args below meth c cx H locs ls hP hS hl => lv_ior cx.1 cx.2.1 hd (k p e s m args below meth c cx H locs ls hP hS hl)
theorem go_ixor {x y : Int32} (hd : decode M.cc pc = .ok (.ixor, 1)) (k : Go G l M P k1 k2 (pc + 1) μ lv (.int (x ^^^ y) :: st)) : Go G l M P k1 k2 pc μ lv (.int y :: .int x :: st) := fun p e s m args below meth c cx H locs ls hP hS hl => lv_ixor cx.1 cx.2.1 hd (k p e s m args below meth c cx H locs ls hP hS hl)
theorem go_ishl {x y : Int32} (hd : decode M.cc pc = .ok (.ishl, 1)) (k : Go G l M P k1 k2 (pc + 1) μ lv (.int (x <<< (y &&& 31)) :: st)) : Go G l M P k1 k2 pc μ lv (.int y :: .int x :: st) := fun p e s m args below meth c cx H locs ls hP hS hl => lv_ishl cx.1 cx.2.1 hd (k p e s m args below meth c cx H locs ls hP hS hl)
theorem go_ishr {x y : Int32} (hd : decode M.cc pc = .ok (.ishr, 1)) (k : Go G l M P k1 k2 (pc + 1) μ lv (.int (x >>> (y &&& 31)) :: st)) : Go G l M P k1 k2 pc μ lv (.int y :: .int x :: st) := fun p e s m args below meth c cx H locs ls hP hS hl => lv_ishr cx.1 cx.2.1 hd (k p e s m args below meth c cx H locs ls hP hS hl)
theorem go_ladd {x y : Int64} (hd : decode M.cc pc = .ok (.ladd, 1)) (k : Go G l M P k1 k2 (pc + 1) μ lv (.long (x + y) :: st)) : Go G l M P k1 k2 pc μ lv (.long y :: .long x :: st) := fun p e s m args below meth c cx H locs ls hP hS hl => lv_ladd cx.1 cx.2.1 hd (k p e s m args below meth c cx H locs ls hP hS hl)
theorem go_lsub {x y : Int64} (hd : decode M.cc pc = .ok (.lsub, 1)) (k : Go G l M P k1 k2 (pc + 1) μ lv (.long (x - y) :: st)) : Go G l M P k1 k2 pc μ lv (.long y :: .long x :: st) := fun p e s m args below meth c cx H locs ls hP hS hl => lv_lsub cx.1 cx.2.1 hd (k p e s m args below meth c cx H locs ls hP hS hl)
theorem go_lmul {x y : Int64} (hd : decode M.cc pc = .ok (.lmul, 1)) (k : Go G l M P k1 k2 (pc + 1) μ lv (.long (x * y) :: st)) : Go G l M P k1 k2 pc μ lv (.long y :: .long x :: st) := fun p e s m args below meth c cx H locs ls hP hS hl => lv_lmul cx.1 cx.2.1 hd (k p e s m args below meth c cx H locs ls hP hS hl)
theorem go_land {x y : Int64} (hd : decode M.cc pc = .ok (.land, 1)) (k : Go G l M P k1 k2 (pc + 1) μ lv (.long (x &&& y) :: st)) : Go G l M P k1 k2 pc μ lv (.long y :: .long x :: st) := fun p e s m args below meth c cx H locs ls hP hS hl => lv_land cx.1 cx.2.1 hd (k p e s m args below meth c cx H locs ls hP hS hl)
theorem go_lor {x y : Int64} (hd : decode M.cc pc = .ok (.lor, 1)) (k : Go G l M P k1 k2 (pc + 1) μ lv (.long (x ||| y) :: st)) : Go G l M P k1 k2 pc μ lv (.long y :: .long x :: st) := fun p e s m args below meth c cx H locs ls hP hS hl => lv_lor cx.1 cx.2.1 hd (k p e s m args below meth c cx H locs ls hP hS hl)
theorem go_iushr {x y : Int32} (hd : decode M.cc pc = .ok (.iushr, 1)) (k : Go G l M P k1 k2 (pc + 1) μ lv (.int (x.toUInt32 >>> (y.toUInt32 &&& Int32.toUInt32 31)).toInt32 :: st)) : Go G l M P k1 k2 pc μ lv (.int y :: .int x :: st) := fun p e s m args below meth c cx H locs ls hP hS hl => lv_iushr cx.1 cx.2.1 hd rfl (k p e s m args below meth c cx H locs ls hP hS hl)
theorem go_lshl {x : Int64} {y : Int32} (hd : decode M.cc pc = .ok (.lshl, 1)) (k : Go G l M P k1 k2 (pc + 1) μ lv (.long (x <<< (y.toInt64 &&& 63)) :: st)) : Go G l M P k1 k2 pc μ lv (.int y :: .long x :: st) := fun p e s m args below meth c cx H locs ls hP hS hl => lv_lshl cx.1 cx.2.1 hd rfl (k p e s m args below meth c cx H locs ls hP hS hl)
theorem go_lshr {x : Int64} {y : Int32} (hd : decode M.cc pc = .ok (.lshr, 1)) (k : Go G l M P k1 k2 (pc + 1) μ lv (.long (x >>> (y.toInt64 &&& 63)) :: st)) : Go G l M P k1 k2 pc μ lv (.int y :: .long x :: st) := fun p e s m args below meth c cx H locs ls hP hS hl => lv_lshr cx.1 cx.2.1 hd rfl (k p e s m args below meth c cx H locs ls hP hS hl)
theorem go_lushr {x : Int64} {y : Int32} (hd : decode M.cc pc = .ok (.lushr, 1)) (k : Go G l M P k1 k2 (pc + 1) μ lv (.long ((x.toUInt64 >>> (y.toInt64.toUInt64 &&& Int64.toUInt64 63)).toInt64) :: st)) : Go G l M P k1 k2 pc μ lv (.int y :: .long x :: st) := fun p e s m args below meth c cx H locs ls hP hS hl => lv_lushr cx.1 cx.2.1 hd rfl (k p e s m args below meth c cx H locs ls hP hS hl)
theorem go_idiv {x y : Int32} (hd : decode M.cc pc = .ok (.idiv, 1)) (hne : ¬ y = 0) (k : Go G l M P k1 k2 (pc + 1) μ lv (.int (x / y) :: st)) : Go G l M P k1 k2 pc μ lv (.int y :: .int x :: st) := fun p e s m args below meth c cx H locs ls hP hS hl => lv_idiv cx.1 cx.2.1 hd hne (k p e s m args below meth c cx H locs ls hP hS hl)
theorem go_irem {x y : Int32} (hd : decode M.cc pc = .ok (.irem, 1)) (hne : ¬ y = 0) (k : Go G l M P k1 k2 (pc + 1) μ lv (.int (x - x / y * y) :: st)) : Go G l M P k1 k2 pc μ lv (.int y :: .int x :: st) := fun p e s m args below meth c cx H locs ls hP hS hl => lv_irem cx.1 cx.2.1 hd hne (k p e s m args below meth c cx H locs ls hP hS hl)
theorem go_ldiv {x y : Int64} (hd : decode M.cc pc = .ok (.ldiv, 1)) (hne : ¬ y = 0) (k : Go G l M P k1 k2 (pc + 1) μ lv (.long (x / y) :: st)) : Go G l M P k1 k2 pc μ lv (.long y :: .long x :: st) := fun p e s m args below meth c cx H locs ls hP hS hl => lv_ldiv cx.1 cx.2.1 hd hne (k p e s m args below meth c cx H locs ls hP hS hl)
theorem go_i2l {x : Int32} (hd : decode M.cc pc = .ok (.i2l, 1)) (k : Go G l M P k1 k2 (pc + 1) μ lv (.long x.toInt64 :: st)) : Go G l M P k1 k2 pc μ lv (.int x :: st) := fun p e s m args below meth c cx H locs ls hP hS hl => lv_i2l cx.1 cx.2.1 hd rfl (k p e s m args below meth c cx H locs ls hP hS hl)
theorem go_l2i {x : Int64} (hd : decode M.cc pc = .ok (.l2i, 1)) (k : Go G l M P k1 k2 (pc + 1) μ lv (.int x.toInt32 :: st)) : Go G l M P k1 k2 pc μ lv (.long x :: st) := fun p e s m args below meth c cx H locs ls hP hS hl => lv_l2i cx.1 cx.2.1 hd rfl (k p e s m args below meth c cx H locs ls hP hS hl)
theorem go_i2c {x : Int32} (hd : decode M.cc pc = .ok (.i2c, 1)) (k : Go G l M P k1 k2 (pc + 1) μ lv (.int (x.toUInt32 % 65536).toInt32 :: st)) : Go G l M P k1 k2 pc μ lv (.int x :: st) := fun p e s m args below meth c cx H locs ls hP hS hl => lv_i2c cx.1 cx.2.1 hd rfl (k p e s m args below meth c cx H locs ls hP hS hl)
theorem go_lcmp {x y : Int64} (hd : decode M.cc pc = .ok (.lcmp, 1)) (k : Go G l M P k1 k2 (pc + 1) μ lv (.int (lg_cmp x y) :: st)) : Go G l M P k1 k2 pc μ lv (.long y :: .long x :: st) := fun p e s m args below meth c cx H locs ls hP hS hl => W.lcmp cx.1 cx.2.1 hd (k p e s m args below meth c cx H locs ls hP hS hl)
theorem go_dup {v : Value} (hd : decode M.cc pc = .ok (.dup, 1)) (hv : v.category = 1) (k : Go G l M P k1 k2 (pc + 1) μ lv (v :: v :: st)) : Go G l M P k1 k2 pc μ lv (v :: st) := fun p e s m args below meth c cx H locs ls hP hS hl => lv_dup cx.1 cx.2.1 hd hv (k p e s m args below meth c cx H locs ls hP hS hl)
theorem go_dup2 {v w : Value} (hd : decode M.cc pc = .ok (.dup2, 1)) (hv : v.category = 1) (hw : w.category = 1) (k : Go G l M P k1 k2 (pc + 1) μ lv (v :: w :: v :: w :: st)) : Go G l M P k1 k2 pc μ lv (v :: w :: st) := fun p e s m args below meth c cx H locs ls hP hS hl => lv_dup2_11 cx.1 cx.2.1 hd hv hw (k p e s m args below meth c cx H locs ls hP hS hl)
theorem go_pop {v : Value} (hd : decode M.cc pc = .ok (.pop, 1)) (hv : v.category = 1) (k : Go G l M P k1 k2 (pc + 1) μ lv st) : Go G l M P k1 k2 pc μ lv (v :: st) := fun p e s m args below meth c cx H locs ls hP hS hl => lv_pop cx.1 cx.2.1 hd hv (k p e s m args below meth c cx H locs ls hP hS hl)
theorem go_goto {off : Int} (tgt : Nat) (hd : decode M.cc pc = .ok (.goto off, 3)) (ht : (pc : Int) + off = (tgt : Int)) (k : Go G l M P k1 k2 tgt μ lv st) : Go G l M P k1 k2 pc μ lv st := fun p e s m args below meth c cx H locs ls hP hS hl => lv_goto cx.1 cx.2.1 hd ht (k p e s m args below meth c cx H locs ls hP hS hl)
theorem go_if_eq {x : Int32} {off : Int} (tgt : Nat) (hd : decode M.cc pc = .ok (.ifCond .eq off, 3)) (ht : (pc : Int) + off = (tgt : Int)) (kt : x = 0 → Go G l M P k1 k2 tgt μ lv st) (kf : ¬ x = 0 → Go G l M P k1 k2 (pc + 3) μ lv st) : Go G l M P k1 k2 pc μ lv (.int x :: st) := fun p e s m args below meth c cx H locs ls hP hS hl => lv_if_eq cx.1 cx.2.1 hd ht (fun h => kt h p e s m args below meth c cx H locs ls hP hS hl) (fun h => kf h p e s m args below meth c cx H locs ls hP hS hl)
theorem go_if_ne {x : Int32} {off : Int} (tgt : Nat) (hd : decode M.cc pc = .ok (.ifCond .ne off, 3)) (ht : (pc : Int) + off = (tgt : Int)) (kt : ¬ x = 0 → Go G l M P k1 k2 tgt μ lv st) (kf : x = 0 → Go G l M P k1 k2 (pc + 3) μ lv st) : Go G l M P k1 k2 pc μ lv (.int x :: st) := fun p e s m args below meth c cx H locs ls hP hS hl => lv_if_ne cx.1 cx.2.1 hd ht (fun h => kt h p e s m args below meth c cx H locs ls hP hS hl) (fun h => kf h p e s m args below meth c cx H locs ls hP hS hl)
theorem go_if_lt {x : Int32} {off : Int} (tgt : Nat) (hd : decode M.cc pc = .ok (.ifCond .lt off, 3)) (ht : (pc : Int) + off = (tgt : Int)) (kt : x < 0 → Go G l M P k1 k2 tgt μ lv st) (kf : ¬ x < 0 → Go G l M P k1 k2 (pc + 3) μ lv st) : Go G l M P k1 k2 pc μ lv (.int x :: st) := fun p e s m args below meth c cx H locs ls hP hS hl => lv_if_lt cx.1 cx.2.1 hd ht (fun h => kt h p e s m args below meth c cx H locs ls hP hS hl) (fun h => kf h p e s m args below meth c cx H locs ls hP hS hl)
theorem go_if_ge {x : Int32} {off : Int} (tgt : Nat) (hd : decode M.cc pc = .ok (.ifCond .ge off, 3)) (ht : (pc : Int) + off = (tgt : Int)) (kt : 0 ≤ x → Go G l M P k1 k2 tgt μ lv st) (kf : ¬ 0 ≤ x → Go G l M P k1 k2 (pc + 3) μ lv st) : Go G l M P k1 k2 pc μ lv (.int x :: st) := fun p e s m args below meth c cx H locs ls hP hS hl => lv_if_ge cx.1 cx.2.1 hd ht (fun h => kt h p e s m args below meth c cx H locs ls hP hS hl) (fun h => kf h p e s m args below meth c cx H locs ls hP hS hl)
theorem go_if_gt {x : Int32} {off : Int} (tgt : Nat) (hd : decode M.cc pc = .ok (.ifCond .gt off, 3)) (ht : (pc : Int) + off = (tgt : Int)) (kt : 0 < x → Go G l M P k1 k2 tgt μ lv st) (kf : ¬ 0 < x → Go G l M P k1 k2 (pc + 3) μ lv st) : Go G l M P k1 k2 pc μ lv (.int x :: st) := fun p e s m args below meth c cx H locs ls hP hS hl => lv_if_gt cx.1 cx.2.1 hd ht (fun h => kt h p e s m args below meth c cx H locs ls hP hS hl) (fun h => kf h p e s m args below meth c cx H locs ls hP hS hl)
theorem go_if_le {x : Int32} {off : Int} (tgt : Nat) (hd : decode M.cc pc = .ok (.ifCond .le off, 3)) (ht : (pc : Int) + off = (tgt : Int)) (kt : x ≤ 0 → Go G l M P k1 k2 tgt μ lv st) (kf : ¬ x ≤ 0 → Go G l M P k1 k2 (pc + 3) μ lv st) : Go G l M P k1 k2 pc μ lv (.int x :: st) := fun p e s m args below meth c cx H locs ls hP hS hl => lv_if_le cx.1 cx.2.1 hd ht (fun h => kt h p e s m args below meth c cx H locs ls hP hS hl) (fun h => kf h p e s m args below meth c cx H locs ls hP hS hl)
theorem go_icmp_eq {x y : Int32} {off : Int} (tgt : Nat) (hd : decode M.cc pc = .ok (.if_icmp .eq off, 3)) (ht : (pc : Int) + off = (tgt : Int)) (kt : x = y → Go G l M P k1 k2 tgt μ lv st) (kf : ¬ x = y → Go G l M P k1 k2 (pc + 3) μ lv st) : Go G l M P k1 k2 pc μ lv (.int y :: .int x :: st) := fun p e s m args below meth c cx H locs ls hP hS hl => lv_icmp_eq cx.1 cx.2.1 hd ht (fun h => kt h p e s m args below meth c cx H locs ls hP hS hl) (fun h => kf h p e s m args below meth c cx H locs ls hP hS hl)
theorem go_icmp_ne {x y : Int32} {off : Int} (tgt : Nat) (hd : decode M.cc pc = .ok (.if_icmp .ne off, 3)) (ht : (pc : Int) + off = (tgt : Int)) (kt : ¬ x = y → Go G l M P k1 k2 tgt μ lv st) (kf : x = y → Go G l M P k1 k2 (pc + 3) μ lv st) : Go G l M P k1 k2 pc μ lv (.int y :: .int x :: st) := fun p e s m args below meth c cx H locs ls hP hS hl => lv_icmp_ne cx.1 cx.2.1 hd ht (fun h => kt h p e s m args below meth c cx H locs ls hP hS hl) (fun h => kf h p e s m args below meth c cx H locs ls hP hS hl)
theorem go_icmp_lt {x y : Int32} {off : Int} (tgt : Nat) (hd : decode M.cc pc = .ok (.if_icmp .lt off, 3)) (ht : (pc : Int) + off = (tgt : Int)) (kt : x < y → Go G l M P k1 k2 tgt μ lv st) (kf : ¬ x < y → Go G l M P k1 k2 (pc + 3) μ lv st) : Go G l M P k1 k2 pc μ lv (.int y :: .int x :: st) := fun p e s m args below meth c cx H locs ls hP hS hl => lv_icmp_lt cx.1 cx.2.1 hd ht (fun h => kt h p e s m args below meth c cx H locs ls hP hS hl) (fun h => kf h p e s m args below meth c cx H locs ls hP hS hl)
theorem go_icmp_ge {x y : Int32} {off : Int} (tgt : Nat) (hd : decode M.cc pc = .ok (.if_icmp .ge off, 3)) (ht : (pc : Int) + off = (tgt : Int)) (kt : y ≤ x → Go G l M P k1 k2 tgt μ lv st) (kf : ¬ y ≤ x → Go G l M P k1 k2 (pc + 3) μ lv st) : Go G l M P k1 k2 pc μ lv (.int y :: .int x :: st) := fun p e s m args below meth c cx H locs ls hP hS hl => lv_icmp_ge cx.1 cx.2.1 hd ht (fun h => kt h p e s m args below meth c cx H locs ls hP hS hl) (fun h => kf h p e s m args below meth c cx H locs ls hP hS hl)
theorem go_icmp_gt {x y : Int32} {off : Int} (tgt : Nat) (hd : decode M.cc pc = .ok (.if_icmp .gt off, 3)) (ht : (pc : Int) + off = (tgt : Int)) (kt : y < x → Go G l M P k1 k2 tgt μ lv st) (kf : ¬ y < x → Go G l M P k1 k2 (pc + 3) μ lv st) : Go G l M P k1 k2 pc μ lv (.int y :: .int x :: st) := fun p e s m args below meth c cx H locs ls hP hS hl => lv_icmp_gt cx.1 cx.2.1 hd ht (fun h => kt h p e s m args below meth c cx H locs ls hP hS hl) (fun h => kf h p e s m args below meth c cx H locs ls hP hS hl)
theorem go_icmp_le {x y : Int32} {off : Int} (tgt : Nat) (hd : decode M.cc pc = .ok (.if_icmp .le off, 3)) (ht : (pc : Int) + off = (tgt : Int)) (kt : x ≤ y → Go G l M P k1 k2 tgt μ lv st) (kf : ¬ x ≤ y → Go G l M P k1 k2 (pc + 3) μ lv st) : Go G l M P k1 k2 pc μ lv (.int y :: .int x :: st) := fun p e s m args below meth c cx H locs ls hP hS hl => lv_icmp_le cx.1 cx.2.1 hd ht (fun h => kt h p e s m args below meth c cx H locs ls hP hS hl) (fun h => kf h p e s m args below meth c cx H locs ls hP hS hl)
theorem go_tableOut {dflt lo hi : Int} {offs : Array Int} {len : Nat} {x : Int32} (tgt : Nat) (hd : decode M.cc pc = .ok (.tableswitch dflt lo hi offs, len)) (h : x.toInt < lo ∨ hi < x.toInt) (ht : (pc : Int) + dflt = (tgt : Int)) (k : Go G l M P k1 k2 tgt μ lv st) : Go G l M P k1 k2 pc μ lv (.int x :: st) := fun p e s m args below meth c cx H locs ls hP hS hl => lv_tableOut cx.1 cx.2.1 hd h ht (k p e s m args below meth c cx H locs ls hP hS hl)
theorem go_tableIn {dflt lo hi : Int} {offs : Array Int} {len : Nat} {x : Int32} {off : Int} (tgt : Nat) (hd : decode M.cc pc = .ok (.tableswitch dflt lo hi offs, len)) (h1 : ¬ x.toInt < lo) (h2 : ¬ hi < x.toInt) (ho : offs[(x.toInt - lo).toNat]? = some off) (ht : (pc : Int) + off = (tgt : Int)) (k : Go G l M P k1 k2 tgt μ lv st) : Go G l M P k1 k2 pc μ lv (.int x :: st) := fun p e s m args below meth c cx H locs ls hP hS hl => lv_tableIn cx.1 cx.2.1 hd h1 h2 ho ht (k p e s m args below meth c cx H locs ls hP hS hl)
theorem go_ldc {index : Nat} {v : Int32} (hw : Cond.constant M.y.cls index v ∈ g_tbl) (hd : decode M.cc pc = .ok (.ldc index, 2)) (k : Go G l M P k1 k2 (pc + 2) μ lv (.int v :: st)) : Go G l M P k1 k2 pc μ lv st := fun p e s m args below meth c cx H locs ls hP hS hl => lv_ldc cx.1 cx.2.1 cx.2.2.2.2.1 (cx.2.2.2.2.2.1 _ hw) hd (k p e s m args below meth c cx H locs ls hP hS hl)
theorem go_ldc_w {index : Nat} {v : Int32} (hw : Cond.constant M.y.cls index v ∈ g_tbl) (hd : decode M.cc pc = .ok (.ldc_w index, 3)) (k : Go G l M P k1 k2 (pc + 3) μ lv (.int v :: st)) : Go G l M P k1 k2 pc μ lv st := fun p e s m args below meth c cx H locs ls hP hS hl => lv_ldcw cx.1 cx.2.1 cx.2.2.2.2.1 (cx.2.2.2.2.2.1 _ hw) hd (k p e s m args below meth c cx H locs ls hP hS hl)
theorem go_ldc2_w {index : Nat} {v : Int64} (hw : Cond.constantLong M.y.cls index v ∈ g_tbl) (hd : decode M.cc pc = .ok (.ldc2_w index, 3)) (k : Go G l M P k1 k2 (pc + 3) μ lv (.long v :: st)) : Go G l M P k1 k2 pc μ lv st := fun p e s m args below meth c cx H locs ls hP hS hl => lv_ldc2 cx.1 cx.2.1 cx.2.2.2.2.1 (cx.2.2.2.2.2.1 _ hw) hd (k p e s m args below meth c cx H locs ls hP hS hl)
theorem go_iret {v : Int32} (hd : decode M.cc pc = .ok (.ireturn, 1)) (hr : M.ret = some .int) (h1 : k1 ≤ M.mc) (h2 : k2 ≤ M.ms) (k : P (some (.int v)) μ) : Go G l M P k1 k2 pc μ lv [.int v] := fun p e s m args below meth c cx H locs ls hP hS hl => W.widen h1 h2 (W.iret cx.1 cx.2.1 (cx.2.2.1.trans hr) (fun t ht _ => ⟨⟨some (.int v), μ, rfl, k, by rw [ht]; exact hP⟩, hS.F ht⟩) hS.2.2 hd (hlocks := cx.2.2.2.2.2.2.1))
theorem go_zret {v : Int32} (hd : decode M.cc pc = .ok (.ireturn, 1)) (hr : M.ret = some .boolean) (h1 : k1 ≤ M.mc) (h2 : k2 ≤ M.ms) (hn : narrow .boolean (.int v) = .int v) (k : P (some (.int v)) μ) : Go G l M P k1 k2 pc μ lv [.int v] := fun p e s m args below meth c cx H locs ls hP hS hl => W.widen h1 h2 (W.zret cx.1 cx.2.1 (cx.2.2.1.trans hr) hn (fun t ht _ => ⟨⟨some (.int v), μ, rfl, k, by rw [ht]; exact hP⟩, hS.F ht⟩) hS.2.2 hd (hlocks := cx.2.2.2.2.2.2.1))
theorem go_cret {v : Int32} (hd : decode M.cc pc = .ok (.ireturn, 1)) (hr : M.ret = some .char) (h1 : k1 ≤ M.mc) (h2 : k2 ≤ M.ms) (hn : narrow .char (.int v) = .int v) (k : P (some (.int v)) μ) : Go G l M P k1 k2 pc μ lv [.int v] := fun p e s m args below meth c cx H locs ls hP hS hl => W.widen h1 h2 (W.zret cx.1 cx.2.1 (cx.2.2.1.trans hr) hn (fun t ht _ => ⟨⟨some (.int v), μ, rfl, k, by rw [ht]; exact hP⟩, hS.F ht⟩) hS.2.2 hd (hlocks := cx.2.2.2.2.2.2.1))
theorem go_lret {v : Int64} (hd : decode M.cc pc = .ok (.lreturn, 1)) (hr : M.ret = some .long) (h1 : k1 ≤ M.mc) (h2 : k2 ≤ M.ms) (k : P (some (.long v)) μ) : Go G l M P k1 k2 pc μ lv [.long v] := fun p e s m args below meth c cx H locs ls hP hS hl => W.widen h1 h2 (W.lret cx.1 cx.2.1 (cx.2.2.1.trans hr) (fun t ht _ => ⟨⟨some (.long v), μ, rfl, k, by rw [ht]; exact hP⟩, hS.F ht⟩) hS.2.2 hd (hlocks := cx.2.2.2.2.2.2.1))
theorem go_aret {v : Nat} {n : String} (hd : decode M.cc pc = .ok (.areturn, 1)) (hr : M.ret = some (.object n)) (h1 : k1 ≤ M.mc) (h2 : k2 ≤ M.ms) (k : P (some (.ref v)) μ) : Go G l M P k1 k2 pc μ lv [.ref v] := fun p e s m args below meth c cx H locs ls hP hS hl => W.widen h1 h2 (W.aret cx.1 cx.2.1 (cx.2.2.1.trans hr) (Or.inl ⟨n, rfl⟩) (Or.inr ⟨v, rfl⟩) (fun t ht _ => ⟨⟨some (.ref v), μ, rfl, k, by rw [ht]; exact hP⟩, hS.F ht⟩) hS.2.2 hd (hlocks := cx.2.2.2.2.2.2.1))
theorem go_vret (hd : decode M.cc pc = .ok (.return_, 1)) (hr : M.ret = none) (h1 : k1 ≤ M.mc) (h2 : k2 ≤ M.ms) (k : P none μ) : Go G l M P k1 k2 pc μ lv [] := fun p e s m args below meth c cx H locs ls hP hS hl => W.widen h1 h2 (W.vret cx.1 cx.2.1 (cx.2.2.1.trans hr) (fun t ht _ => ⟨⟨none, μ, rfl, k, by rw [ht]; exact hP⟩, hS.F ht⟩) hS.2.2 hd (hlocks := cx.2.2.2.2.2.2.1))
end GOR
end
section
theorem g_goodIn {y : MethodName} {cc : ByteArray} {n : Nat} {ret : Option FieldType} (h : Cond.code y cc n ret ∈ g_tbl) : GoodIn g_tbl (Cond.code y cc n ret :: g_tbl) := by
  intro w hw
  have hm : w ∈ g_tbl := by
    rcases List.mem_cons.mp hw with rfl | h1
    · exact h
    · exact h1
  exact ⟨hm, good_of_word (g_good hm)⟩
/-- a field of ours, read or written by the entry idx of own -/
def gF (own : String) (idx ci k : Nat) : Prop := ∃ (C : String) (T : u_T) (N : Nat), vwCl[ci]? = some (C, T, N) ∧ k < N ∧ (∀ w ∈ u_ws C T N, w ∈ g_tbl) ∧ Cond.fieldLink own idx C (T k).2.1 (T k).2.2.1 ∈ g_tbl ∧ (T k).1 = C
def gFp (own : String) (idx ci k : Nat) (ty : FieldType) : Prop := ∃ (C : String) (T : u_T) (N : Nat) (t0 : Nat → FieldType), vwCl[ci]? = some (C, T, N) ∧ k < N ∧ (∀ w ∈ u_ws C T N, w ∈ g_tbl) ∧ Cond.fieldLink own idx C (T k).2.1 (T k).2.2.1 ∈ g_tbl ∧ (T k).1 = C ∧ (T k).2.2.2 = false ∧ t0 k = ty ∧ (∀ k, k < N → parseFieldDescriptor (T k).2.2.1 = some (t0 k)) ∧ ∀ a, a < N → ∀ b, b < N → a ≠ b → (T a).2.1 ≠ (T b).2.1
section GOM
variable {G : gC} {l : Launch} {M : gM} {P : Option Value → Mem → Prop} {k1 k2 pc : Nat} {μ : Mem} {lv : List (Nat × Value)} {st : List Value}
theorem go_get {o idx ci k : Nat} {fs : List Value} (v : Value) (hd : decode M.cc pc = .ok (.getfield idx, 3)) (hF : gF M.y.cls idx ci k) (ho : 106 ≤ μ.1 → o < μ.1) (he : gs G o (μ.2.1 o) μ.2.2 = .inr (ci, fs)) (hv : fs[k]? = some v) (kk : Go G l M P k1 k2 (pc + 3) μ lv (v :: st)) : Go G l M P k1 k2 pc μ lv (.ref (ga G o) :: st) := by
  intro p e s m args below meth c cx H locs ls hP hS hl
  obtain ⟨C, T, N, h1, h2, h3, h4, h5⟩ := hF
  have hp := gw_at hP (ho hP.1.1)
  rw [he] at hp
  exact va_get cx.1 cx.2.1 (Ts := g_tbl) cx.2.2.2.2.2.1 h3 cx.2.2.2.2.1 cx.2.2.2.2.2.2.2.1 hp 0 rfl h1 k h2 (cx.2.2.2.2.2.1 _ h4) (fun x hx => by rw [h5] at hx; exact hx) hv hd (kk p e s m args below meth c cx H locs ls hP hS hl)
theorem gs_put {G : gC} {s : State} {H H' : Heap} {o ci k : Nat} {fs : List Value} {v : Value} {C : String} {T : u_T} {N : Nat} {slot : Nat} {cell : Cell} (hap : ∀ x y, x < N → y < N → x ≠ y → (G.1.2 ci) x ≠ (G.1.2 ci) y) (hc : vwCl[ci]? = some (C, T, N)) (hk : k < N) (hl : k < fs.length) (q2 : cell.cls = G.1.1 ci) (q3 : cell.vm = .none) (q4 : ∀ j, j < N → cell.slots[G.1.2 ci j]? = some (vp_V fs j)) (hsl : slot = G.1.2 ci k) (e1 : H'[ga G o]? = some (cell.setSlot slot v)) : va_at G.1 vwCl (ga G o, .inr (ci, fs.set k v)) H' := by
  subst hsl
  exact ⟨_, hc, t_OB.to (V := updV (vp_V fs) k v) ⟨_, e1, q2, q3, t_set q4 hap hk v⟩ (fun j _ => vp_updV_set hl v j)⟩
theorem go_putv {o idx ci k : Nat} {fs : List Value} {v : Value} {ty : FieldType} (x : Int32) (hd : decode M.cc pc = .ok (.putfield idx, 3)) (hF : gFp M.y.cls idx ci k ty) (hn : narrow ty v = v) (hfit : fits ty v = true) (ho : 106 ≤ μ.1 → o < μ.1) (he : gs G o (μ.2.1 o) μ.2.2 = .inr (ci, fs)) (hl : k < fs.length) (hs : gs G o (upd (μ.2.1 o) k x) μ.2.2 = .inr (ci, fs.set k v)) (kk : Go G l M P k1 k2 (pc + 3) (gm_w μ o k x) lv st) : Go G l M P k1 k2 pc μ lv (v :: .ref (ga G o) :: st) := by
  intro p e s m args below meth c cx H locs ls hP hS hlv
  obtain ⟨C, T, N, t0, h1, h2, h3, h4, h5, h6, h7, h8, h9⟩ := hF
  have hts := cx.2.2.2.2.2.1
  have hK := cx.2.2.2.2.2.2.2.1
  have hap := va_apart (own := M.y.cls) hts h3 t0 h8 h9 hK h1
  have hp := hP.2 o (ho hP.1.1)
  rw [he] at hp
  obtain ⟨r, g1, cell, q1, q2, q3, q4⟩ := hp
  have hr : r = (C, T, N) := Option.some.inj (g1.symm.trans h1)
  subst hr
  obtain ⟨hSl, hfc, kC, hkC, hkind⟩ := hK.1 ci _ h1
  obtain ⟨cf, kf, fi, f, hi, hsl⟩ := hSl k h2
  have hlay := hts _ (h3 _ (u_in_lay h2))
  unfold u_lay at hlay
  rw [if_neg (by rw [h6]; decide)] at hlay
  have hst := (u_facts hfc hkC (u_lays hts h3 h2) hi).1
  have hsto := u_store hfc hkC hkind hlay hi (by rw [h8 k h2, h7]) hn hfit
  refine W.putK cx.1 cx.2.1 (f := f) ⟨cx.2.2.2.2.1, hts _ h4, ⟨_, _, _, by rw [h5] at hi; exact hi⟩, hst⟩ (by rw [q2]; exact hsto) q1 q3 (by rw [hsl]; exact k2_hasslot (q4 k h2)) rfl rfl hd fun H' e1 e2 e3 => ?_
  refine kk p e s m args below meth c cx H' _ ls (gw_row hP e2 e3 ?_) (hS.put e2 e3 ?_) hlv
  · rw [hs]
    exact gs_put (s := s) (H := H) hap h1 h2 hl q2 q3 q4 hsl e1
  · exact Nat.le_add_right _ _
theorem go_puti {o idx ci k : Nat} {fs : List Value} {x : Int32} (hd : decode M.cc pc = .ok (.putfield idx, 3)) (hF : gFp M.y.cls idx ci k .int) (ho : 106 ≤ μ.1 → o < μ.1) (he : gs G o (μ.2.1 o) μ.2.2 = .inr (ci, fs)) (hl : k < fs.length) (hs : gs G o (upd (μ.2.1 o) k x) μ.2.2 = .inr (ci, fs.set k (.int x))) (kk : Go G l M P k1 k2 (pc + 3) (gm_w μ o k x) lv st) : Go G l M P k1 k2 pc μ lv (.int x :: .ref (ga G o) :: st) := go_putv x hd hF rfl rfl ho he hl hs kk
theorem go_iald {o n : Nat} {i : Int32} (hd : decode M.cc pc = .ok (.iaload, 1)) (ho : 106 ≤ μ.1 → o < μ.1) (he : ∀ r q, gs G o r q = .inl (G.2.2.1 0, n, .inl r)) (hin : vp_in i n) (kk : Go G l M P k1 k2 (pc + 1) μ lv (.int (gm_r μ o i.toNatClampNeg) :: st)) : Go G l M P k1 k2 pc μ lv (.int i :: .ref (ga G o) :: st) := by
  intro p e s m args below meth c cx H locs ls hP hS hl
  have hp := gw_at hP (ho hP.1.1)
  rw [he] at hp
  exact va_iald cx.1 cx.2.1 cx.2.2.2.2.2.2.2.1 hp 0 0 rfl rfl hin hd (kk p e s m args below meth c cx H locs ls hP hS hl)
theorem go_zald {o n : Nat} {i : Int32} (hd : decode M.cc pc = .ok (.baload, 1)) (ho : 106 ≤ μ.1 → o < μ.1) (he : ∀ r q, gs G o r q = .inl (G.2.2.1 1, n, .inl r)) (hin : vp_in i n) (kk : Go G l M P k1 k2 (pc + 1) μ lv (.int (gm_r μ o i.toNatClampNeg) :: st)) : Go G l M P k1 k2 pc μ lv (.int i :: .ref (ga G o) :: st) := by
  intro p e s m args below meth c cx H locs ls hP hS hl
  have hp := gw_at hP (ho hP.1.1)
  rw [he] at hp
  exact va_zald cx.1 cx.2.1 cx.2.2.2.2.2.2.2.1 hp 0 1 rfl rfl hin hd (kk p e s m args below meth c cx H locs ls hP hS hl)
set_option maxRecDepth 100000 in
theorem go_lald {i : Int32} (hd : decode M.cc pc = .ok (.laload, 1)) (hin : vp_in i 1024) (kk : Go G l M P k1 k2 (pc + 1) μ lv (.long (gm_l μ i.toNatClampNeg) :: st)) : Go G l M P k1 k2 pc μ lv (.int i :: .ref (ga G 88) :: st) := by
  intro p e s m args below meth c cx H locs ls hP hS hl
  have hp := gw_at hP (i := 88) (by have := hP.1.1; omega)
  exact va_lald cx.1 cx.2.1 cx.2.2.2.2.2.2.2.1 hp 0 2 (n := 1024) (f := μ.2.2) rfl rfl hin hd (kk p e s m args below meth c cx H locs ls hP hS hl)
theorem gw_arr {G : gC} {μ : Mem} {H H1 : Heap} {o n i : Nat} {x : Int32} {c : Nat} (h : gw G μ H) (he : ∀ r q, gs G o r q = .inl (G.2.2.1 c, n, .inl r)) (z : H1.size = H.size) (oq : ∀ q : Nat, q ≠ ga G o → H1[q]? = H[q]?) (e : H1[ga G o]? = some ((vp_cell (G.2.2.1 c) (n, .inl (μ.2.1 o))).setSlot i (.int x))) : gw G (gm_w μ o i x) H1 := by
  refine gw_row h z oq ?_
  · rw [he]
    show H1[ga G o]? = some (vp_cell _ _)
    rw [e, vp_cell_i, vp_cell_i, arrV_store]
    congr 2
    funext q
    by_cases hq : q = i
    · subst hq
      simp [updV, upd]
    · simp [updV, upd, hq]
theorem go_iast {o n : Nat} {i x : Int32} (hd : decode M.cc pc = .ok (.iastore, 1)) (ho : 106 ≤ μ.1 → o < μ.1) (he : ∀ r q, gs G o r q = .inl (G.2.2.1 0, n, .inl r)) (hin : vp_in i n) (kk : Go G l M P k1 k2 (pc + 1) (gm_w μ o i.toNatClampNeg x) lv st) : Go G l M P k1 k2 pc μ lv (.int x :: .int i :: .ref (ga G o) :: st) := by
  intro p e s m args below meth c cx H locs ls hP hS hl
  have hp := hP.2 o (ho hP.1.1)
  rw [he] at hp
  have hT := (cx.2.2.2.2.2.2.2.1).2 0 _ rfl
  refine W.iast cx.1 cx.2.1 hp (hT.1 n (fun j => .int (μ.2.1 o j))) (fun q => by cases q) (by show ¬ (i < 0 ∨ (arrV _ _ _).slots.size ≤ _); rw [arrV_size]; exact hin) rfl rfl hd fun H1 e1 z oq => ?_
  exact kk p e s m args below meth c cx H1 _ ls (gw_arr hP he z oq e1) (hS.put z oq (Nat.le_add_right _ _)) hl
theorem go_zast {o n : Nat} {i x : Int32} (hd : decode M.cc pc = .ok (.bastore, 1)) (ho : 106 ≤ μ.1 → o < μ.1) (he : ∀ r q, gs G o r q = .inl (G.2.2.1 1, n, .inl r)) (hin : vp_in i n) (kk : Go G l M P k1 k2 (pc + 1) (gm_w μ o i.toNatClampNeg (vp_nar .boolean x)) lv st) : Go G l M P k1 k2 pc μ lv (.int x :: .int i :: .ref (ga G o) :: st) := by
  intro p e s m args below meth c cx H locs ls hP hS hl
  have hp := hP.2 o (ho hP.1.1)
  rw [he] at hp
  have hT := (cx.2.2.2.2.2.2.2.1).2 1 _ rfl
  refine W.zast cx.1 cx.2.1 hp (hT.1 n (fun j => .int (μ.2.1 o j))) (fun q => by cases q) (by show ¬ (i < 0 ∨ (arrV _ _ _).slots.size ≤ _); rw [arrV_size]; exact hin) rfl rfl hd fun H1 e1 z oq => ?_
  exact kk p e s m args below meth c cx H1 _ ls (gw_arr hP he z oq e1) (hS.put z oq (Nat.le_add_right _ _)) hl
theorem gk_one13 : ∀ i : Nat, i ≠ 88 → gk_k i ≠ 13 := by
  intro i hi h
  have h1 : ∀ j : Nat, j < 144 → j ≠ 88 → gk_k j ≠ 13 := by decide +kernel
  by_cases hl : i < 144
  · exact h1 i hl hi h
  · have : gk_k i = 99 := by
      unfold gk_k
      rw [List.getD_eq_getElem?_getD, List.getElem?_eq_none (by show 144 ≤ i; omega)]
      rfl
    rw [this] at h
    cases h
theorem gs_88 (G : gC) (r : Nat → Int32) (q : Nat → Int64) : gs G 88 r q = .inl (G.2.2.1 2, 1024, .inr (.inl q)) := rfl
theorem go_last {i : Int32} {x : Int64} (hd : decode M.cc pc = .ok (.lastore, 1)) (hin : vp_in i 1024) (kk : Go G l M P k1 k2 (pc + 1) (gm_wl μ i.toNatClampNeg x) lv st) : Go G l M P k1 k2 pc μ lv (.long x :: .int i :: .ref (ga G 88) :: st) := by
  intro p e s m args below meth c cx H locs ls hP hS hl
  have hp0 := hP.2 88 (by have := hP.1.1; omega)
  have he : ∃ n : Nat, n = 1024 := ⟨1024, rfl⟩
  obtain ⟨n, hn⟩ := he
  have hg : ∀ r q, gs G 88 r q = .inl (G.2.2.1 2, n, .inr (.inl q)) := fun r q => by rw [hn]; exact gs_88 G r q
  rw [hg] at hp0
  rw [← hn] at hin
  have hp : H[ga G 88]? = some (vp_cell (G.2.2.1 2) (n, .inr (.inl μ.2.2))) := hp0
  have hT := (cx.2.2.2.2.2.2.2.1).2 2 _ rfl
  refine W.last cx.1 cx.2.1 hp (hT.1 n (fun j => .long (μ.2.2 j))) (fun q => by cases q) (by show ¬ (i < 0 ∨ (arrV _ _ _).slots.size ≤ _); rw [arrV_size]; exact hin) rfl rfl hd fun H1 e1 z oq => ?_
  refine kk p e s m args below meth c cx H1 _ ls (gw_long hP z oq ?_ (fun j _ hj => gk_one13 j hj)) (hS.put z oq (Nat.le_add_right _ _)) hl
  rw [hg]
  show H1[ga G 88]? = some (vp_cell _ _)
  rw [e1, vp_cell_l, vp_cell_l, arrV_store]
  congr 2
  funext q
  by_cases hq : q = i.toNatClampNeg
  · subst hq
    simp [updV, vp_updL]
  · simp [updV, vp_updL, hq]
theorem go_aald {o n : Nat} {i : Int32} (hd : decode M.cc pc = .ok (.aaload, 1)) (ho : 106 ≤ μ.1 → o < μ.1) (he : ∀ r q, gs G o r q = .inl (G.2.2.1 4, n, .inr (.inr (.inr (.inr (fun j => if j < n then some (ga G (o + 1 + j)) else none)))))) (hin : vp_in i n) (kk : Go G l M P k1 k2 (pc + 1) μ lv (.ref (ga G (o + 1 + i.toNatClampNeg)) :: st)) : Go G l M P k1 k2 pc μ lv (.int i :: .ref (ga G o) :: st) := by
  intro p e s m args below meth c cx H locs ls hP hS hl
  have hp := hP.2 o (ho hP.1.1)
  rw [he] at hp
  have hT := (cx.2.2.2.2.2.2.2.1).2 4 _ rfl
  have hlt : i.toNatClampNeg < n := Nat.not_le.mp fun q => hin (Or.inr q)
  refine W.aald (v := .ref (ga G (o + 1 + i.toNatClampNeg))) (ty := .array .int) cx.1 cx.2.1 hp (hT.1 n (fun j => va_rf (if j < n then some (ga G (o + 1 + j)) else none))) rfl (fun q => by cases q) (by show ¬ (i < 0 ∨ (arrV _ _ _).slots.size ≤ _); rw [arrV_size]; exact hin) ?_ rfl rfl hd (kk p e s m args below meth c cx H locs ls hP hS hl)
  show (arrV _ _ _).slots[_]? = _
  rw [arrV_read _ _ hlt]
  simp [hlt, va_rf]
theorem go_aaldB {i : Int32} (hd : decode M.cc pc = .ok (.aaload, 1)) (hin : vp_in i 2) (kk0 : i.toNatClampNeg = 0 → Go G l M P k1 k2 (pc + 1) μ lv (.ref (ga G 69) :: st)) (kk1 : i.toNatClampNeg = 1 → Go G l M P k1 k2 (pc + 1) μ lv (.ref (ga G 73) :: st)) : Go G l M P k1 k2 pc μ lv (.int i :: .ref (ga G 68) :: st) := by
  intro p e s m args below meth c cx H locs ls hP hS hl
  have hp := gw_at hP (i := 68) (by have := hP.1.1; omega)
  have hlt : i.toNatClampNeg < 2 := Nat.not_le.mp fun q => hin (Or.inr q)
  refine va_aldq cx.1 cx.2.1 cx.2.2.2.2.2.2.2.1 hp 0 3 (n := 2) (f := fun j => if j = 0 then some (ga G 69) else if j = 1 then some (ga G 73) else none) rfl rfl hin hd ?_
  by_cases h0 : i.toNatClampNeg = 0
  · rw [if_pos h0]
    exact kk0 h0 p e s m args below meth c cx H locs ls hP hS hl
  · have h1 : i.toNatClampNeg = 1 := by omega
    rw [if_neg h0, if_pos h1]
    exact kk1 h1 p e s m args below meth c cx H locs ls hP hS hl
end GOM
end
section
/-- what the tables say of the method Z, n its parameters -/
def gMc (Z : gM) (n : Nat) : Prop := Cond.code Z.y Z.cc Z.nL Z.ret ∈ g_tbl ∧ Cond.initialized Z.y.cls ∈ g_tbl ∧ (Z.y.cls ≠ "java/lang/invoke/MethodHandle" ∧ Z.y.cls ≠ "java/lang/invoke/VarHandle" ∧ (parseMethodDescriptor Z.y.desc).map (fun d => d.parameters.length) = some n)
def gLV (own : String) (idx : Nat) (Z : gM) : Prop := Cond.methodLink own idx Z.y ∈ g_tbl ∧ Cond.instanceMethod Z.y ∈ g_tbl ∧ Cond.selects Z.y.cls Z.y Z.y ∈ g_tbl
def gLS (own : String) (idx : Nat) (Z : gM) : Prop := Cond.methodLink own idx Z.y ∈ g_tbl ∧ Cond.static Z.y ∈ g_tbl
def gI (P : Int32 → Mem → Prop) : Option Value → Mem → Prop := fun r μ => ∃ x, r = some (.int x) ∧ P x μ
def gL (P : Int64 → Mem → Prop) : Option Value → Mem → Prop := fun r μ => ∃ x, r = some (.long x) ∧ P x μ
def gV (P : Mem → Prop) : Option Value → Mem → Prop := fun r μ => r = none ∧ P μ
def gR (G : gC) (o : Nat) (P : Mem → Prop) : Option Value → Mem → Prop := fun r μ => r = some (.ref (ga G o)) ∧ P μ
section GOC
variable {G : gC} {l : Launch} {M : gM} {P : Option Value → Mem → Prop} {k1 k2 pc : Nat} {μ : Mem} {lv : List (Nat × Value)} {st : List Value}
theorem g_blind (av : List Value) : FrameBlind (g_P G av μ) := fun a U g mk q => ⟨q.1, q.2.1, va_K.moved (u := U) (U := U.calling g mk a) (Vm.Alike.refl U.vm) q.2.2.1, gz_move (s := U) (U := U.calling g mk a) q.2.2.2 (State.WarmedH.refl U) (fun _ _ _ => rfl)⟩
theorem g_pre {s : State} {H : Heap} {locs : List Loc} {av : List Value} (hP : gw G μ H) (hK : va_K G.1 vwCl (gt G) s) (hZ : gz G s s.heap) (hS : va_S (gA G) s.heap H locs) : ∀ U : State, U.heap = H → s.WarmedH U.vm → g_P G av μ av.toArray U := fun U hU hW => ⟨rfl, by rw [hU]; exact hP, va_K.moved hW.alike hK, gz_move hZ hW (fun a h1 h2 => by rw [hU]; exact hS.2.1 a h1 h2)⟩
theorem g_back {p : Program} {e : Env} {s : State} {m : MethodId} {args : Array Value} {below : List Frame} {meth : Method} {c : Code} {H : Heap} {locs : List Loc} {ls : Array Slot} {Z : gM} {av : List Value} {rest : List Value} {len : Nat} (cx : g_cx G M p s m args meth c) (hS : va_S (gA G) s.heap H locs) (hl : lv_has ls M.nL lv) {a0 : Array Value} {P' : Option Value → Mem → Prop} (hP' : ∀ r μ', P' r μ' → Go G l M P (k1 + Z.mc) (k2 + Z.ms) (pc + 3) μ' lv (r.toList ++ rest))
    (hr : va_Run p l e (g_rm M.d M.mc M.ms) s m args below meth c H locs k1 k2 Z.mc Z.ms (F0 m pc ls st) rest (g_Q G P' a0) (gA G)) : W p l e (g_rm M.d M.mc M.ms) s m args below meth c H locs k1 k2 (MQ below (g_Q G P) args s M.mc M.ms (gA G)) (F0 m pc ls st) := by
  intro T hT X
  obtain ⟨v, st₀, t, T', L, h0, X', hL, e1, e2, ⟨⟨r, μ', hv, hPost, hw'⟩, hz, hkk⟩, stp⟩ := hr T hT X
  cases hv
  rw [h0] at hz hkk
  have hGo := hP' v μ' hPost p e s m args below meth c cx t.heap (locs ++ L) ls hw' ⟨Nat.le_trans hS.1 hz, fun q h1 h2 => by rw [hkk q (Nat.lt_of_lt_of_le h1 hS.1) h2]; exact hS.2.1 q h1 h2, fun q hq => by
      rcases List.mem_append.mp hq with h | h
      · exact hS.2.2 q h
      · exact hL q h⟩ hl
  obtain ⟨t2, a1, b1⟩ := hGo T' e1 X'
  exact ⟨t2, stp t2 a1, b1⟩
theorem go_callV {Z : gM} {idx n o ci : Nat} {As rest : List Value} {fs : List Value} {T : u_T} {N : Nat} (hd : decode M.cc pc = .ok (.invokevirtual idx, 3)) (hL : gLV M.y.cls idx Z) (hM : gMc Z n) (hn : As.length = n) (hr : Z.d + 1 ≤ M.d ∧ 8 + (Z.nL + 11) + 40 * Z.d ≤ 40 * M.d) (hw : (rest.map fun v => v.category).sum ≤ 8) (ho : 106 ≤ μ.1 → o < μ.1) (he : gs G o (μ.2.1 o) μ.2.2 = .inr (ci, fs)) (hc : vwCl[ci]? = some (Z.y.cls, T, N)) (hf : k1 + Z.mc ≤ M.mc ∧ k2 + Z.ms ≤ M.ms) (hst : As.reverse ++ .ref (ga G o) :: rest = st) {P' : Option Value → Mem → Prop} (hP' : ∀ r μ', P' r μ' → Go G l M P (k1 + Z.mc) (k2 + Z.ms) (pc + 3) μ' lv (r.toList ++ rest)) (k : Sp G l Z (.ref (ga G o) :: As) μ P') : Go G l M P k1 k2 pc μ lv st := by
  subst hst
  intro p e s m args below meth c cx H locs ls hP hS hl
  have hts := cx.2.2.2.2.2.1
  have hK := cx.2.2.2.2.2.2.2.1
  have hp := gw_at hP (ho hP.1.1)
  rw [he] at hp
  refine g_back (av := .ref (ga G o) :: As) (len := 3) cx hS hl hP' (va_runV (C := Z.y.cls) (b := ga G o) (As := As) (rest := rest) ⟨cx.1, cx.2.1, cx.2.2.2.1, cx.2.2.2.2.1, hts⟩ k ⟨callB_of n hts (g_goodIn hM.1) rfl rfl rfl (hts _ hM.2.1) (hts _ hL.1) hM.2.2 hr, hts _ hL.2.1, hts _ hL.2.2⟩ ⟨g_blind _, va_recv hK hp hc (q0 := 0) rfl, g_pre hP hK cx.2.2.2.2.2.2.2.2.1 hS⟩ rfl hn hl.1 rfl (lv_room hw) hd hf)
theorem go_callVN {Z : gM} {idx n o ci : Nat} {As rest : List Value} {fs : List Value} {T : u_T} {N : Nat} {host : String} (hd : decode M.cc pc = .ok (.invokevirtual idx, 3)) (hL : ∀ s H, gz G s H → va_Nw (.methodLinkNest M.y.cls idx Z.y host) s) (hL2 : Cond.instanceMethod Z.y ∈ g_tbl ∧ Cond.selects Z.y.cls Z.y Z.y ∈ g_tbl) (hM : gMc Z n) (hn : As.length = n) (hr : Z.d + 1 ≤ M.d ∧ 8 + (Z.nL + 11) + 40 * Z.d ≤ 40 * M.d) (hw : (rest.map fun v => v.category).sum ≤ 8) (ho : 106 ≤ μ.1 → o < μ.1) (he : gs G o (μ.2.1 o) μ.2.2 = .inr (ci, fs)) (hc : vwCl[ci]? = some (Z.y.cls, T, N)) (hf : k1 + Z.mc ≤ M.mc ∧ k2 + Z.ms ≤ M.ms) (hst : As.reverse ++ .ref (ga G o) :: rest = st) {P' : Option Value → Mem → Prop} (hP' : ∀ r μ', P' r μ' → Go G l M P (k1 + Z.mc) (k2 + Z.ms) (pc + 3) μ' lv (r.toList ++ rest)) (k : Sp G l Z (.ref (ga G o) :: As) μ P') : Go G l M P k1 k2 pc μ lv st := by
  subst hst
  intro p e s m args below meth c cx H locs ls hP hS hl
  have hts := cx.2.2.2.2.2.1
  have hK := cx.2.2.2.2.2.2.2.1
  have hp := gw_at hP (ho hP.1.1)
  rw [he] at hp
  refine g_back (av := .ref (ga G o) :: As) (len := 3) cx hS hl hP' (va_runVN (C := Z.y.cls) (b := ga G o) (As := As) (rest := rest) ⟨cx.1, cx.2.1, cx.2.2.2.1, cx.2.2.2.2.1, hts⟩ k ⟨va_cnB n hts (g_goodIn hM.1) rfl rfl rfl (hL s _ cx.2.2.2.2.2.2.2.2.1) (hts _ hM.2.1) hM.2.2 hr, hts _ hL2.1, hts _ hL2.2⟩ ⟨g_blind _, va_recv hK hp hc (q0 := 0) rfl, g_pre hP hK cx.2.2.2.2.2.2.2.2.1 hS⟩ rfl hn hl.1 rfl (lv_room hw) hd hf)
theorem go_callS {Z : gM} {idx n : Nat} {As rest : List Value} (hd : decode M.cc pc = .ok (.invokestatic idx, 3)) (hL : gLS M.y.cls idx Z) (hM : gMc Z n) (hn : As.length = n) (hr : Z.d + 1 ≤ M.d ∧ 8 + (Z.nL + 11) + 40 * Z.d ≤ 40 * M.d) (hw : (rest.map fun v => v.category).sum ≤ 8) (hf : k1 + Z.mc ≤ M.mc ∧ k2 + Z.ms ≤ M.ms) (hst : As.reverse ++ rest = st) {P' : Option Value → Mem → Prop} (hP' : ∀ r μ', P' r μ' → Go G l M P (k1 + Z.mc) (k2 + Z.ms) (pc + 3) μ' lv (r.toList ++ rest)) (k : Sp G l Z As μ P') : Go G l M P k1 k2 pc μ lv st := by
  subst hst
  intro p e s m args below meth c cx H locs ls hP hS hl
  have hts := cx.2.2.2.2.2.1
  have hK := cx.2.2.2.2.2.2.2.1
  refine g_back (av := As) (len := 3) cx hS hl hP' (va_runS (As := As) (rest := rest) ⟨cx.1, cx.2.1, cx.2.2.2.1, cx.2.2.2.2.1, hts⟩ k ⟨callB_of n hts (g_goodIn hM.1) rfl rfl rfl (hts _ hM.2.1) (hts _ hL.1) hM.2.2 hr, hts _ hL.2⟩ ⟨g_blind _, g_pre hP hK cx.2.2.2.2.2.2.2.2.1 hS⟩ rfl hn hl.1 rfl (lv_room hw) hd hf)
theorem go_gets {idx : Nat} {C n d : String} {v : Value} (hd : decode M.cc pc = .ok (.getstatic idx, 3)) (hZ : ∀ s, gz G s s.heap → va_Z C n d v (gA G) s s.heap) (hlink : Cond.fieldLink M.y.cls idx C n d ∈ g_tbl) (kk : Go G l M P k1 k2 (pc + 3) μ lv (v :: st)) : Go G l M P k1 k2 pc μ lv st := by
  intro p e s m args below meth c cx H locs ls hP hS hl
  exact va_gets cx.1 cx.2.1 (hZ s cx.2.2.2.2.2.2.2.2.1) hS cx.2.2.2.2.1 (cx.2.2.2.2.2.1 _ hlink) (fun x hx => hx) hd (kk p e s m args below meth c cx H locs ls hP hS hl)
theorem go_tald {t N : Nat} {f : Nat → Int32} {i : Int32} (hd : decode M.cc pc = .ok (.iaload, 1)) (hT : ∀ s, gz G s s.heap → va_T .int t N (fun j => .int (f j)) (gA G) s s.heap) (hin : vp_in i N) (kk : Go G l M P k1 k2 (pc + 1) μ lv (.int (f i.toNatClampNeg) :: st)) : Go G l M P k1 k2 pc μ lv (.int i :: .ref t :: st) := by
  intro p e s m args below meth c cx H locs ls hP hS hl
  obtain ⟨cell, h1, h2, h3, h4, h5, h6, h7⟩ := hT s cx.2.2.2.2.2.2.2.2.1
  have hlt : i.toNatClampNeg < N := Nat.not_le.mp fun q => hin (Or.inr q)
  exact W.iald (v := .int (f i.toNatClampNeg)) cx.1 cx.2.1 (by rw [hS.2.1 t (Array.getElem?_eq_some_iff.mp h1).1 h7]; exact h1) h2 h3 (fun q => hin (q.elim Or.inl (fun q => Or.inr (Nat.le_trans h4 q)))) (h6 _ hlt) rfl rfl hd (kk p e s m args below meth c cx H locs ls hP hS hl)
theorem go_copy {idx a o n0 n1 : Nat} {n : Int32} {nn : Nat} (hd : decode M.cc pc = .ok (.invokestatic idx, 3)) (hlink : Cond.methodLink M.y.cls idx arraycopyName ∈ g_tbl) (hnat : Cond.native arraycopyName ∈ g_tbl) (hstat : Cond.static arraycopyName ∈ g_tbl) (hini : Cond.initialized "java/lang/System" ∈ g_tbl) (ho : 106 ≤ μ.1 → a < μ.1 ∧ o < μ.1) (ha : ∀ r q, gs G a r q = .inl (G.2.2.1 0, n0, .inl r)) (he : ∀ r q, gs G o r q = .inl (G.2.2.1 0, n1, .inl r)) (hne : a ≠ o) (hn : n.toNatClampNeg = nn) (hn0 : ¬ n < 0) (h4 : nn ≤ n0) (h5 : nn ≤ n1) (hfr : 1 ≤ M.d) (kk : Go G l M P k1 k2 (pc + 3) (gm_row μ o (va_cpy (μ.2.1 a) (μ.2.1 o) 0 0 nn)) lv []) : Go G l M P k1 k2 pc μ lv [.int n, .int 0, .ref (ga G o), .int 0, .ref (ga G a)] := by
  intro p e s m args below meth c cx H locs ls hP hS hl
  sorry
end GOC
end
