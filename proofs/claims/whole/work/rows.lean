section
-- ===== PART A: goes FIRST, ahead of the names: the tables' words, and 'selects' of the private methods out of them =====
/-- a private method of a class that the tables say can be made, by its rows of tables_1 -/
def lw_okq (q : MethodName × Nat) : Prop := (q.1.cls ≠ "java/lang/invoke/MethodHandle" ∧ q.1.cls ≠ "java/lang/invoke/VarHandle") ∧ Cond.instantiable q.1.cls q.2 ∈ tables_1 ∧ Cond.privateMethod q.1 ∈ tables_1 ∧ Cond.instanceMethod q.1 ∈ tables_1
theorem lw_p0 : lw_okq (⟨"EnginesOut$Reader", "readLine", "()V"⟩, 7) := ⟨⟨by decide +kernel, by decide +kernel⟩, List.mem_of_getElem? (i := 48) (by decide +kernel), List.mem_of_getElem? (i := 377) (by decide +kernel), List.mem_of_getElem? (i := 378) (by decide +kernel)⟩
theorem lw_p1 : lw_okq (⟨"EnginesOut$Reader", "readRoad", "()V"⟩, 7) := ⟨⟨by decide +kernel, by decide +kernel⟩, List.mem_of_getElem? (i := 48) (by decide +kernel), List.mem_of_getElem? (i := 385) (by decide +kernel), List.mem_of_getElem? (i := 386) (by decide +kernel)⟩
theorem lw_p2 : lw_okq (⟨"EnginesOut$Reader", "takeNumber", "(II)I"⟩, 7) := ⟨⟨by decide +kernel, by decide +kernel⟩, List.mem_of_getElem? (i := 48) (by decide +kernel), List.mem_of_getElem? (i := 389) (by decide +kernel), List.mem_of_getElem? (i := 390) (by decide +kernel)⟩
theorem lw_p3 : lw_okq (⟨"EnginesOut$Reader", "isDigitNext", "()Z"⟩, 7) := ⟨⟨by decide +kernel, by decide +kernel⟩, List.mem_of_getElem? (i := 48) (by decide +kernel), List.mem_of_getElem? (i := 393) (by decide +kernel), List.mem_of_getElem? (i := 394) (by decide +kernel)⟩
theorem lw_p4 : lw_okq (⟨"EnginesOut$Reader", "refuse", "(I)V"⟩, 7) := ⟨⟨by decide +kernel, by decide +kernel⟩, List.mem_of_getElem? (i := 48) (by decide +kernel), List.mem_of_getElem? (i := 397) (by decide +kernel), List.mem_of_getElem? (i := 398) (by decide +kernel)⟩
theorem lw_p5 : lw_okq (⟨"EnginesOut$Reader", "take", "(I)V"⟩, 7) := ⟨⟨by decide +kernel, by decide +kernel⟩, List.mem_of_getElem? (i := 48) (by decide +kernel), List.mem_of_getElem? (i := 401) (by decide +kernel), List.mem_of_getElem? (i := 402) (by decide +kernel)⟩
theorem lw_p6 : lw_okq (⟨"EnginesOut$Reader", "readWeight", "()V"⟩, 7) := ⟨⟨by decide +kernel, by decide +kernel⟩, List.mem_of_getElem? (i := 48) (by decide +kernel), List.mem_of_getElem? (i := 419) (by decide +kernel), List.mem_of_getElem? (i := 420) (by decide +kernel)⟩
theorem lw_p7 : lw_okq (⟨"EnginesOut$Reader", "readStations", "()V"⟩, 7) := ⟨⟨by decide +kernel, by decide +kernel⟩, List.mem_of_getElem? (i := 48) (by decide +kernel), List.mem_of_getElem? (i := 426) (by decide +kernel), List.mem_of_getElem? (i := 427) (by decide +kernel)⟩
theorem lw_p8 : lw_okq (⟨"EnginesOut$Reader", "isCommaNext", "()Z"⟩, 7) := ⟨⟨by decide +kernel, by decide +kernel⟩, List.mem_of_getElem? (i := 48) (by decide +kernel), List.mem_of_getElem? (i := 434) (by decide +kernel), List.mem_of_getElem? (i := 435) (by decide +kernel)⟩
theorem lw_p9 : lw_okq (⟨"EnginesOut$Reader", "readEngines", "()V"⟩, 7) := ⟨⟨by decide +kernel, by decide +kernel⟩, List.mem_of_getElem? (i := 48) (by decide +kernel), List.mem_of_getElem? (i := 438) (by decide +kernel), List.mem_of_getElem? (i := 439) (by decide +kernel)⟩
theorem lw_p10 : lw_okq (⟨"EnginesOut", "isStation", "(I)Z"⟩, 9) := ⟨⟨by decide +kernel, by decide +kernel⟩, List.mem_of_getElem? (i := 24) (by decide +kernel), List.mem_of_getElem? (i := 498) (by decide +kernel), List.mem_of_getElem? (i := 499) (by decide +kernel)⟩
theorem lw_p11 : lw_okq (⟨"EnginesOut", "look", "()V"⟩, 9) := ⟨⟨by decide +kernel, by decide +kernel⟩, List.mem_of_getElem? (i := 24) (by decide +kernel), List.mem_of_getElem? (i := 502) (by decide +kernel), List.mem_of_getElem? (i := 503) (by decide +kernel)⟩
theorem lw_p12 : lw_okq (⟨"EnginesOut", "readyThatReach", "(I)I"⟩, 9) := ⟨⟨by decide +kernel, by decide +kernel⟩, List.mem_of_getElem? (i := 24) (by decide +kernel), List.mem_of_getElem? (i := 534) (by decide +kernel), List.mem_of_getElem? (i := 535) (by decide +kernel)⟩
theorem lw_p13 : lw_okq (⟨"EnginesOut", "isEngine", "(I)Z"⟩, 9) := ⟨⟨by decide +kernel, by decide +kernel⟩, List.mem_of_getElem? (i := 24) (by decide +kernel), List.mem_of_getElem? (i := 558) (by decide +kernel), List.mem_of_getElem? (i := 559) (by decide +kernel)⟩
theorem lw_p14 : lw_okq (⟨"EnginesOut$Couple", "tryBeside", "(LEnginesOut$World;III)V"⟩, 4) := ⟨⟨by decide +kernel, by decide +kernel⟩, List.mem_of_getElem? (i := 278) (by decide +kernel), List.mem_of_getElem? (i := 598) (by decide +kernel), List.mem_of_getElem? (i := 599) (by decide +kernel)⟩
theorem lw_p15 : lw_okq (⟨"EnginesOut$Couple", "isLess", "(II)Z"⟩, 4) := ⟨⟨by decide +kernel, by decide +kernel⟩, List.mem_of_getElem? (i := 278) (by decide +kernel), List.mem_of_getElem? (i := 602) (by decide +kernel), List.mem_of_getElem? (i := 603) (by decide +kernel)⟩
def lw_privs_1 : List (MethodName × Nat) := [(⟨"EnginesOut$Reader", "readLine", "()V"⟩, 7), (⟨"EnginesOut$Reader", "readRoad", "()V"⟩, 7), (⟨"EnginesOut$Reader", "takeNumber", "(II)I"⟩, 7), (⟨"EnginesOut$Reader", "isDigitNext", "()Z"⟩, 7), (⟨"EnginesOut$Reader", "refuse", "(I)V"⟩, 7), (⟨"EnginesOut$Reader", "take", "(I)V"⟩, 7), (⟨"EnginesOut$Reader", "readWeight", "()V"⟩, 7), (⟨"EnginesOut$Reader", "readStations", "()V"⟩, 7), (⟨"EnginesOut$Reader", "isCommaNext", "()Z"⟩, 7), (⟨"EnginesOut$Reader", "readEngines", "()V"⟩, 7), (⟨"EnginesOut", "isStation", "(I)Z"⟩, 9), (⟨"EnginesOut", "look", "()V"⟩, 9), (⟨"EnginesOut", "readyThatReach", "(I)I"⟩, 9), (⟨"EnginesOut", "isEngine", "(I)Z"⟩, 9), (⟨"EnginesOut$Couple", "tryBeside", "(LEnginesOut$World;III)V"⟩, 4), (⟨"EnginesOut$Couple", "isLess", "(II)Z"⟩, 4)]
theorem lw_r1 : ∀ q ∈ lw_privs_1, lw_okq q := List.forall_mem_cons.mpr ⟨lw_p0, List.forall_mem_cons.mpr ⟨lw_p1, List.forall_mem_cons.mpr ⟨lw_p2, List.forall_mem_cons.mpr ⟨lw_p3, List.forall_mem_cons.mpr ⟨lw_p4, List.forall_mem_cons.mpr ⟨lw_p5, List.forall_mem_cons.mpr ⟨lw_p6, List.forall_mem_cons.mpr ⟨lw_p7, List.forall_mem_cons.mpr ⟨lw_p8, List.forall_mem_cons.mpr ⟨lw_p9, List.forall_mem_cons.mpr ⟨lw_p10, List.forall_mem_cons.mpr ⟨lw_p11, List.forall_mem_cons.mpr ⟨lw_p12, List.forall_mem_cons.mpr ⟨lw_p13, List.forall_mem_cons.mpr ⟨lw_p14, List.forall_mem_cons.mpr ⟨lw_p15, fun _ h => absurd h List.not_mem_nil⟩⟩⟩⟩⟩⟩⟩⟩⟩⟩⟩⟩⟩⟩⟩⟩
theorem lw_p16 : lw_okq (⟨"EnginesOut", "coverNow", "()I"⟩, 9) := ⟨⟨by decide +kernel, by decide +kernel⟩, List.mem_of_getElem? (i := 24) (by decide +kernel), List.mem_of_getElem? (i := 644) (by decide +kernel), List.mem_of_getElem? (i := 645) (by decide +kernel)⟩
theorem lw_p17 : lw_okq (⟨"EnginesOut$Sight", "putOne", "(I)V"⟩, 4) := ⟨⟨by decide +kernel, by decide +kernel⟩, List.mem_of_getElem? (i := 255) (by decide +kernel), List.mem_of_getElem? (i := 656) (by decide +kernel), List.mem_of_getElem? (i := 657) (by decide +kernel)⟩
theorem lw_p18 : lw_okq (⟨"EnginesOut", "coverWithout", "(I)I"⟩, 9) := ⟨⟨by decide +kernel, by decide +kernel⟩, List.mem_of_getElem? (i := 24) (by decide +kernel), List.mem_of_getElem? (i := 756) (by decide +kernel), List.mem_of_getElem? (i := 757) (by decide +kernel)⟩
theorem lw_p19 : lw_okq (⟨"EnginesOut", "statesOf", "(II)I"⟩, 9) := ⟨⟨by decide +kernel, by decide +kernel⟩, List.mem_of_getElem? (i := 24) (by decide +kernel), List.mem_of_getElem? (i := 769) (by decide +kernel), List.mem_of_getElem? (i := 770) (by decide +kernel)⟩
theorem lw_p20 : lw_okq (⟨"EnginesOut$Chances", "hitsOf", "(I)J"⟩, 4) := ⟨⟨by decide +kernel, by decide +kernel⟩, List.mem_of_getElem? (i := 301) (by decide +kernel), List.mem_of_getElem? (i := 785) (by decide +kernel), List.mem_of_getElem? (i := 786) (by decide +kernel)⟩
theorem lw_p21 : lw_okq (⟨"EnginesOut$Chances", "expected", "(LEnginesOut$Land;J)I"⟩, 4) := ⟨⟨by decide +kernel, by decide +kernel⟩, List.mem_of_getElem? (i := 301) (by decide +kernel), List.mem_of_getElem? (i := 789) (by decide +kernel), List.mem_of_getElem? (i := 790) (by decide +kernel)⟩
theorem lw_p22 : lw_okq (⟨"EnginesOut$Chances", "nextRow", "(II)Z"⟩, 4) := ⟨⟨by decide +kernel, by decide +kernel⟩, List.mem_of_getElem? (i := 301) (by decide +kernel), List.mem_of_getElem? (i := 805) (by decide +kernel), List.mem_of_getElem? (i := 806) (by decide +kernel)⟩
theorem lw_p23 : lw_okq (⟨"EnginesOut", "greatestCover", "()I"⟩, 9) := ⟨⟨by decide +kernel, by decide +kernel⟩, List.mem_of_getElem? (i := 24) (by decide +kernel), List.mem_of_getElem? (i := 813) (by decide +kernel), List.mem_of_getElem? (i := 814) (by decide +kernel)⟩
theorem lw_p24 : lw_okq (⟨"EnginesOut", "planned", "()LEnginesOut$Planner;"⟩, 9) := ⟨⟨by decide +kernel, by decide +kernel⟩, List.mem_of_getElem? (i := 24) (by decide +kernel), List.mem_of_getElem? (i := 822) (by decide +kernel), List.mem_of_getElem? (i := 823) (by decide +kernel)⟩
theorem lw_p25 : lw_okq (⟨"EnginesOut$Planner", "gather", "(LEnginesOut$World;)V"⟩, 9) := ⟨⟨by decide +kernel, by decide +kernel⟩, List.mem_of_getElem? (i := 826) (by decide +kernel), List.mem_of_getElem? (i := 870) (by decide +kernel), List.mem_of_getElem? (i := 871) (by decide +kernel)⟩
theorem lw_p26 : lw_okq (⟨"EnginesOut$Planner", "fill", "(II)V"⟩, 9) := ⟨⟨by decide +kernel, by decide +kernel⟩, List.mem_of_getElem? (i := 826) (by decide +kernel), List.mem_of_getElem? (i := 885) (by decide +kernel), List.mem_of_getElem? (i := 886) (by decide +kernel)⟩
theorem lw_p27 : lw_okq (⟨"EnginesOut$Planner", "worthOf", "(IIII)I"⟩, 9) := ⟨⟨by decide +kernel, by decide +kernel⟩, List.mem_of_getElem? (i := 826) (by decide +kernel), List.mem_of_getElem? (i := 891) (by decide +kernel), List.mem_of_getElem? (i := 892) (by decide +kernel)⟩
theorem lw_p28 : lw_okq (⟨"EnginesOut$Planner", "firstBest", "(III)I"⟩, 9) := ⟨⟨by decide +kernel, by decide +kernel⟩, List.mem_of_getElem? (i := 826) (by decide +kernel), List.mem_of_getElem? (i := 904) (by decide +kernel), List.mem_of_getElem? (i := 905) (by decide +kernel)⟩
theorem lw_p29 : lw_okq (⟨"EnginesOut$Crew", "remember", "()V"⟩, 12) := ⟨⟨by decide +kernel, by decide +kernel⟩, List.mem_of_getElem? (i := 158) (by decide +kernel), List.mem_of_getElem? (i := 926) (by decide +kernel), List.mem_of_getElem? (i := 927) (by decide +kernel)⟩
theorem lw_p30 : lw_okq (⟨"java/lang/Throwable", "fillInStackTrace", "(I)Ljava/lang/Throwable;"⟩, 6) := ⟨⟨by decide +kernel, by decide +kernel⟩, List.mem_of_getElem? (i := 1017) (by decide +kernel), List.mem_of_getElem? (i := 1015) (by decide +kernel), List.mem_of_getElem? (i := 1016) (by decide +kernel)⟩
theorem lw_p31 : lw_okq (⟨"EnginesOutModel", "readsLine", "()V"⟩, 31) := ⟨⟨by decide +kernel, by decide +kernel⟩, List.mem_of_getElem? (i := 1042) (by decide +kernel), List.mem_of_getElem? (i := 1162) (by decide +kernel), List.mem_of_getElem? (i := 1163) (by decide +kernel)⟩
def lw_privs_2 : List (MethodName × Nat) := [(⟨"EnginesOut", "coverNow", "()I"⟩, 9), (⟨"EnginesOut$Sight", "putOne", "(I)V"⟩, 4), (⟨"EnginesOut", "coverWithout", "(I)I"⟩, 9), (⟨"EnginesOut", "statesOf", "(II)I"⟩, 9), (⟨"EnginesOut$Chances", "hitsOf", "(I)J"⟩, 4), (⟨"EnginesOut$Chances", "expected", "(LEnginesOut$Land;J)I"⟩, 4), (⟨"EnginesOut$Chances", "nextRow", "(II)Z"⟩, 4), (⟨"EnginesOut", "greatestCover", "()I"⟩, 9), (⟨"EnginesOut", "planned", "()LEnginesOut$Planner;"⟩, 9), (⟨"EnginesOut$Planner", "gather", "(LEnginesOut$World;)V"⟩, 9), (⟨"EnginesOut$Planner", "fill", "(II)V"⟩, 9), (⟨"EnginesOut$Planner", "worthOf", "(IIII)I"⟩, 9), (⟨"EnginesOut$Planner", "firstBest", "(III)I"⟩, 9), (⟨"EnginesOut$Crew", "remember", "()V"⟩, 12), (⟨"java/lang/Throwable", "fillInStackTrace", "(I)Ljava/lang/Throwable;"⟩, 6), (⟨"EnginesOutModel", "readsLine", "()V"⟩, 31)]
theorem lw_r2 : ∀ q ∈ lw_privs_2, lw_okq q := List.forall_mem_cons.mpr ⟨lw_p16, List.forall_mem_cons.mpr ⟨lw_p17, List.forall_mem_cons.mpr ⟨lw_p18, List.forall_mem_cons.mpr ⟨lw_p19, List.forall_mem_cons.mpr ⟨lw_p20, List.forall_mem_cons.mpr ⟨lw_p21, List.forall_mem_cons.mpr ⟨lw_p22, List.forall_mem_cons.mpr ⟨lw_p23, List.forall_mem_cons.mpr ⟨lw_p24, List.forall_mem_cons.mpr ⟨lw_p25, List.forall_mem_cons.mpr ⟨lw_p26, List.forall_mem_cons.mpr ⟨lw_p27, List.forall_mem_cons.mpr ⟨lw_p28, List.forall_mem_cons.mpr ⟨lw_p29, List.forall_mem_cons.mpr ⟨lw_p30, List.forall_mem_cons.mpr ⟨lw_p31, fun _ h => absurd h List.not_mem_nil⟩⟩⟩⟩⟩⟩⟩⟩⟩⟩⟩⟩⟩⟩⟩⟩
theorem lw_p32 : lw_okq (⟨"EnginesOutModel", "sees", "()I"⟩, 31) := ⟨⟨by decide +kernel, by decide +kernel⟩, List.mem_of_getElem? (i := 1042) (by decide +kernel), List.mem_of_getElem? (i := 1166) (by decide +kernel), List.mem_of_getElem? (i := 1167) (by decide +kernel)⟩
theorem lw_p33 : lw_okq (⟨"EnginesOutModel", "readsRoad", "()V"⟩, 31) := ⟨⟨by decide +kernel, by decide +kernel⟩, List.mem_of_getElem? (i := 1042) (by decide +kernel), List.mem_of_getElem? (i := 1170) (by decide +kernel), List.mem_of_getElem? (i := 1171) (by decide +kernel)⟩
theorem lw_p34 : lw_okq (⟨"EnginesOutModel", "number", "(II)I"⟩, 31) := ⟨⟨by decide +kernel, by decide +kernel⟩, List.mem_of_getElem? (i := 1042) (by decide +kernel), List.mem_of_getElem? (i := 1174) (by decide +kernel), List.mem_of_getElem? (i := 1175) (by decide +kernel)⟩
theorem lw_p35 : lw_okq (⟨"EnginesOutModel", "fault", "(I)V"⟩, 31) := ⟨⟨by decide +kernel, by decide +kernel⟩, List.mem_of_getElem? (i := 1042) (by decide +kernel), List.mem_of_getElem? (i := 1180) (by decide +kernel), List.mem_of_getElem? (i := 1181) (by decide +kernel)⟩
theorem lw_p36 : lw_okq (⟨"EnginesOutModel", "expect", "(C)V"⟩, 31) := ⟨⟨by decide +kernel, by decide +kernel⟩, List.mem_of_getElem? (i := 1042) (by decide +kernel), List.mem_of_getElem? (i := 1184) (by decide +kernel), List.mem_of_getElem? (i := 1185) (by decide +kernel)⟩
theorem lw_p37 : lw_okq (⟨"EnginesOutModel", "readsWeight", "()V"⟩, 31) := ⟨⟨by decide +kernel, by decide +kernel⟩, List.mem_of_getElem? (i := 1042) (by decide +kernel), List.mem_of_getElem? (i := 1190) (by decide +kernel), List.mem_of_getElem? (i := 1191) (by decide +kernel)⟩
theorem lw_p38 : lw_okq (⟨"EnginesOutModel", "readsStations", "()V"⟩, 31) := ⟨⟨by decide +kernel, by decide +kernel⟩, List.mem_of_getElem? (i := 1042) (by decide +kernel), List.mem_of_getElem? (i := 1194) (by decide +kernel), List.mem_of_getElem? (i := 1195) (by decide +kernel)⟩
theorem lw_p39 : lw_okq (⟨"EnginesOutModel", "isToldStation", "(I)Z"⟩, 31) := ⟨⟨by decide +kernel, by decide +kernel⟩, List.mem_of_getElem? (i := 1042) (by decide +kernel), List.mem_of_getElem? (i := 1198) (by decide +kernel), List.mem_of_getElem? (i := 1199) (by decide +kernel)⟩
theorem lw_p40 : lw_okq (⟨"EnginesOutModel", "readsEngines", "()V"⟩, 31) := ⟨⟨by decide +kernel, by decide +kernel⟩, List.mem_of_getElem? (i := 1042) (by decide +kernel), List.mem_of_getElem? (i := 1202) (by decide +kernel), List.mem_of_getElem? (i := 1203) (by decide +kernel)⟩
theorem lw_p41 : lw_okq (⟨"EnginesOutModel", "sets", "(IIII)I"⟩, 31) := ⟨⟨by decide +kernel, by decide +kernel⟩, List.mem_of_getElem? (i := 1042) (by decide +kernel), List.mem_of_getElem? (i := 1210) (by decide +kernel), List.mem_of_getElem? (i := 1211) (by decide +kernel)⟩
theorem lw_p42 : lw_okq (⟨"EnginesOutModel", "setsShut", "(III)V"⟩, 31) := ⟨⟨by decide +kernel, by decide +kernel⟩, List.mem_of_getElem? (i := 1042) (by decide +kernel), List.mem_of_getElem? (i := 1230) (by decide +kernel), List.mem_of_getElem? (i := 1231) (by decide +kernel)⟩
theorem lw_p43 : lw_okq (⟨"EnginesOutModel", "shutMany", "()I"⟩, 31) := ⟨⟨by decide +kernel, by decide +kernel⟩, List.mem_of_getElem? (i := 1042) (by decide +kernel), List.mem_of_getElem? (i := 1234) (by decide +kernel), List.mem_of_getElem? (i := 1235) (by decide +kernel)⟩
theorem lw_p44 : lw_okq (⟨"EnginesOutModel", "laysFar", "()V"⟩, 31) := ⟨⟨by decide +kernel, by decide +kernel⟩, List.mem_of_getElem? (i := 1042) (by decide +kernel), List.mem_of_getElem? (i := 1242) (by decide +kernel), List.mem_of_getElem? (i := 1243) (by decide +kernel)⟩
theorem lw_p45 : lw_okq (⟨"EnginesOutModel", "isOpen", "(II)Z"⟩, 31) := ⟨⟨by decide +kernel, by decide +kernel⟩, List.mem_of_getElem? (i := 1042) (by decide +kernel), List.mem_of_getElem? (i := 1246) (by decide +kernel), List.mem_of_getElem? (i := 1247) (by decide +kernel)⟩
theorem lw_p46 : lw_okq (⟨"EnginesOutModel", "farOf", "(II)I"⟩, 31) := ⟨⟨by decide +kernel, by decide +kernel⟩, List.mem_of_getElem? (i := 1042) (by decide +kernel), List.mem_of_getElem? (i := 1250) (by decide +kernel), List.mem_of_getElem? (i := 1251) (by decide +kernel)⟩
theorem lw_p47 : lw_okq (⟨"EnginesOutModel", "isStation", "(I)Z"⟩, 31) := ⟨⟨by decide +kernel, by decide +kernel⟩, List.mem_of_getElem? (i := 1042) (by decide +kernel), List.mem_of_getElem? (i := 1258) (by decide +kernel), List.mem_of_getElem? (i := 1259) (by decide +kernel)⟩
def lw_privs_3 : List (MethodName × Nat) := [(⟨"EnginesOutModel", "sees", "()I"⟩, 31), (⟨"EnginesOutModel", "readsRoad", "()V"⟩, 31), (⟨"EnginesOutModel", "number", "(II)I"⟩, 31), (⟨"EnginesOutModel", "fault", "(I)V"⟩, 31), (⟨"EnginesOutModel", "expect", "(C)V"⟩, 31), (⟨"EnginesOutModel", "readsWeight", "()V"⟩, 31), (⟨"EnginesOutModel", "readsStations", "()V"⟩, 31), (⟨"EnginesOutModel", "isToldStation", "(I)Z"⟩, 31), (⟨"EnginesOutModel", "readsEngines", "()V"⟩, 31), (⟨"EnginesOutModel", "sets", "(IIII)I"⟩, 31), (⟨"EnginesOutModel", "setsShut", "(III)V"⟩, 31), (⟨"EnginesOutModel", "shutMany", "()I"⟩, 31), (⟨"EnginesOutModel", "laysFar", "()V"⟩, 31), (⟨"EnginesOutModel", "isOpen", "(II)Z"⟩, 31), (⟨"EnginesOutModel", "farOf", "(II)I"⟩, 31), (⟨"EnginesOutModel", "isStation", "(I)Z"⟩, 31)]
theorem lw_r3 : ∀ q ∈ lw_privs_3, lw_okq q := List.forall_mem_cons.mpr ⟨lw_p32, List.forall_mem_cons.mpr ⟨lw_p33, List.forall_mem_cons.mpr ⟨lw_p34, List.forall_mem_cons.mpr ⟨lw_p35, List.forall_mem_cons.mpr ⟨lw_p36, List.forall_mem_cons.mpr ⟨lw_p37, List.forall_mem_cons.mpr ⟨lw_p38, List.forall_mem_cons.mpr ⟨lw_p39, List.forall_mem_cons.mpr ⟨lw_p40, List.forall_mem_cons.mpr ⟨lw_p41, List.forall_mem_cons.mpr ⟨lw_p42, List.forall_mem_cons.mpr ⟨lw_p43, List.forall_mem_cons.mpr ⟨lw_p44, List.forall_mem_cons.mpr ⟨lw_p45, List.forall_mem_cons.mpr ⟨lw_p46, List.forall_mem_cons.mpr ⟨lw_p47, fun _ h => absurd h List.not_mem_nil⟩⟩⟩⟩⟩⟩⟩⟩⟩⟩⟩⟩⟩⟩⟩⟩
theorem lw_p48 : lw_okq (⟨"EnginesOutModel", "lays", "()V"⟩, 31) := ⟨⟨by decide +kernel, by decide +kernel⟩, List.mem_of_getElem? (i := 1042) (by decide +kernel), List.mem_of_getElem? (i := 1262) (by decide +kernel), List.mem_of_getElem? (i := 1263) (by decide +kernel)⟩
theorem lw_p49 : lw_okq (⟨"EnginesOutModel", "weightOf", "(I)I"⟩, 31) := ⟨⟨by decide +kernel, by decide +kernel⟩, List.mem_of_getElem? (i := 1042) (by decide +kernel), List.mem_of_getElem? (i := 1266) (by decide +kernel), List.mem_of_getElem? (i := 1267) (by decide +kernel)⟩
theorem lw_p50 : lw_okq (⟨"EnginesOutModel", "tell", "(J)V"⟩, 31) := ⟨⟨by decide +kernel, by decide +kernel⟩, List.mem_of_getElem? (i := 1042) (by decide +kernel), List.mem_of_getElem? (i := 1270) (by decide +kernel), List.mem_of_getElem? (i := 1271) (by decide +kernel)⟩
theorem lw_p51 : lw_okq (⟨"EnginesOutModel", "readyFor", "(I)I"⟩, 31) := ⟨⟨by decide +kernel, by decide +kernel⟩, List.mem_of_getElem? (i := 1042) (by decide +kernel), List.mem_of_getElem? (i := 1278) (by decide +kernel), List.mem_of_getElem? (i := 1279) (by decide +kernel)⟩
theorem lw_p52 : lw_okq (⟨"EnginesOutModel", "isReady", "(I)Z"⟩, 31) := ⟨⟨by decide +kernel, by decide +kernel⟩, List.mem_of_getElem? (i := 1042) (by decide +kernel), List.mem_of_getElem? (i := 1282) (by decide +kernel), List.mem_of_getElem? (i := 1283) (by decide +kernel)⟩
theorem lw_p53 : lw_okq (⟨"EnginesOutModel", "nearestStation", "(I)I"⟩, 31) := ⟨⟨by decide +kernel, by decide +kernel⟩, List.mem_of_getElem? (i := 1042) (by decide +kernel), List.mem_of_getElem? (i := 1286) (by decide +kernel), List.mem_of_getElem? (i := 1287) (by decide +kernel)⟩
theorem lw_p54 : lw_okq (⟨"EnginesOutModel", "goer", "(I)I"⟩, 31) := ⟨⟨by decide +kernel, by decide +kernel⟩, List.mem_of_getElem? (i := 1042) (by decide +kernel), List.mem_of_getElem? (i := 1290) (by decide +kernel), List.mem_of_getElem? (i := 1291) (by decide +kernel)⟩
theorem lw_p55 : lw_okq (⟨"EnginesOutModel", "wayOf", "(II)I"⟩, 31) := ⟨⟨by decide +kernel, by decide +kernel⟩, List.mem_of_getElem? (i := 1042) (by decide +kernel), List.mem_of_getElem? (i := 1294) (by decide +kernel), List.mem_of_getElem? (i := 1295) (by decide +kernel)⟩
theorem lw_p56 : lw_okq (⟨"EnginesOutModel", "isEngine", "(I)Z"⟩, 31) := ⟨⟨by decide +kernel, by decide +kernel⟩, List.mem_of_getElem? (i := 1042) (by decide +kernel), List.mem_of_getElem? (i := 1302) (by decide +kernel), List.mem_of_getElem? (i := 1303) (by decide +kernel)⟩
theorem lw_p57 : lw_okq (⟨"EnginesOutModel", "calls", "(I)I"⟩, 31) := ⟨⟨by decide +kernel, by decide +kernel⟩, List.mem_of_getElem? (i := 1042) (by decide +kernel), List.mem_of_getElem? (i := 1314) (by decide +kernel), List.mem_of_getElem? (i := 1315) (by decide +kernel)⟩
theorem lw_p58 : lw_okq (⟨"EnginesOutModel", "pairOf", "(II)I"⟩, 31) := ⟨⟨by decide +kernel, by decide +kernel⟩, List.mem_of_getElem? (i := 1042) (by decide +kernel), List.mem_of_getElem? (i := 1322) (by decide +kernel), List.mem_of_getElem? (i := 1323) (by decide +kernel)⟩
theorem lw_p59 : lw_okq (⟨"EnginesOutModel", "canGo", "(II)Z"⟩, 31) := ⟨⟨by decide +kernel, by decide +kernel⟩, List.mem_of_getElem? (i := 1042) (by decide +kernel), List.mem_of_getElem? (i := 1326) (by decide +kernel), List.mem_of_getElem? (i := 1327) (by decide +kernel)⟩
theorem lw_p60 : lw_okq (⟨"EnginesOutModel", "passesOne", "()I"⟩, 31) := ⟨⟨by decide +kernel, by decide +kernel⟩, List.mem_of_getElem? (i := 1042) (by decide +kernel), List.mem_of_getElem? (i := 1339) (by decide +kernel), List.mem_of_getElem? (i := 1340) (by decide +kernel)⟩
theorem lw_p61 : lw_okq (⟨"EnginesOutModel", "draw", "(I)I"⟩, 31) := ⟨⟨by decide +kernel, by decide +kernel⟩, List.mem_of_getElem? (i := 1042) (by decide +kernel), List.mem_of_getElem? (i := 1352) (by decide +kernel), List.mem_of_getElem? (i := 1353) (by decide +kernel)⟩
theorem lw_p62 : lw_okq (⟨"EnginesOutModel", "allWeights", "()I"⟩, 31) := ⟨⟨by decide +kernel, by decide +kernel⟩, List.mem_of_getElem? (i := 1042) (by decide +kernel), List.mem_of_getElem? (i := 1357) (by decide +kernel), List.mem_of_getElem? (i := 1358) (by decide +kernel)⟩
theorem lw_p63 : lw_okq (⟨"EnginesOutModel", "nodeAt", "(I)I"⟩, 31) := ⟨⟨by decide +kernel, by decide +kernel⟩, List.mem_of_getElem? (i := 1042) (by decide +kernel), List.mem_of_getElem? (i := 1361) (by decide +kernel), List.mem_of_getElem? (i := 1362) (by decide +kernel)⟩
def lw_privs_4 : List (MethodName × Nat) := [(⟨"EnginesOutModel", "lays", "()V"⟩, 31), (⟨"EnginesOutModel", "weightOf", "(I)I"⟩, 31), (⟨"EnginesOutModel", "tell", "(J)V"⟩, 31), (⟨"EnginesOutModel", "readyFor", "(I)I"⟩, 31), (⟨"EnginesOutModel", "isReady", "(I)Z"⟩, 31), (⟨"EnginesOutModel", "nearestStation", "(I)I"⟩, 31), (⟨"EnginesOutModel", "goer", "(I)I"⟩, 31), (⟨"EnginesOutModel", "wayOf", "(II)I"⟩, 31), (⟨"EnginesOutModel", "isEngine", "(I)Z"⟩, 31), (⟨"EnginesOutModel", "calls", "(I)I"⟩, 31), (⟨"EnginesOutModel", "pairOf", "(II)I"⟩, 31), (⟨"EnginesOutModel", "canGo", "(II)Z"⟩, 31), (⟨"EnginesOutModel", "passesOne", "()I"⟩, 31), (⟨"EnginesOutModel", "draw", "(I)I"⟩, 31), (⟨"EnginesOutModel", "allWeights", "()I"⟩, 31), (⟨"EnginesOutModel", "nodeAt", "(I)I"⟩, 31)]
theorem lw_r4 : ∀ q ∈ lw_privs_4, lw_okq q := List.forall_mem_cons.mpr ⟨lw_p48, List.forall_mem_cons.mpr ⟨lw_p49, List.forall_mem_cons.mpr ⟨lw_p50, List.forall_mem_cons.mpr ⟨lw_p51, List.forall_mem_cons.mpr ⟨lw_p52, List.forall_mem_cons.mpr ⟨lw_p53, List.forall_mem_cons.mpr ⟨lw_p54, List.forall_mem_cons.mpr ⟨lw_p55, List.forall_mem_cons.mpr ⟨lw_p56, List.forall_mem_cons.mpr ⟨lw_p57, List.forall_mem_cons.mpr ⟨lw_p58, List.forall_mem_cons.mpr ⟨lw_p59, List.forall_mem_cons.mpr ⟨lw_p60, List.forall_mem_cons.mpr ⟨lw_p61, List.forall_mem_cons.mpr ⟨lw_p62, List.forall_mem_cons.mpr ⟨lw_p63, fun _ h => absurd h List.not_mem_nil⟩⟩⟩⟩⟩⟩⟩⟩⟩⟩⟩⟩⟩⟩⟩⟩
theorem lw_p64 : lw_okq (⟨"EnginesOutModel", "twiceNow", "()I"⟩, 31) := ⟨⟨by decide +kernel, by decide +kernel⟩, List.mem_of_getElem? (i := 1042) (by decide +kernel), List.mem_of_getElem? (i := 1369) (by decide +kernel), List.mem_of_getElem? (i := 1370) (by decide +kernel)⟩
theorem lw_p65 : lw_okq (⟨"EnginesOutModel", "reachedNow", "()I"⟩, 31) := ⟨⟨by decide +kernel, by decide +kernel⟩, List.mem_of_getElem? (i := 1042) (by decide +kernel), List.mem_of_getElem? (i := 1373) (by decide +kernel), List.mem_of_getElem? (i := 1374) (by decide +kernel)⟩
theorem lw_p66 : lw_okq (⟨"EnginesOutModel", "isSet", "(II)Z"⟩, 31) := ⟨⟨by decide +kernel, by decide +kernel⟩, List.mem_of_getElem? (i := 1042) (by decide +kernel), List.mem_of_getElem? (i := 1381) (by decide +kernel), List.mem_of_getElem? (i := 1382) (by decide +kernel)⟩
theorem lw_p67 : lw_okq (⟨"EnginesOutModel", "reachedBy", "(I)I"⟩, 31) := ⟨⟨by decide +kernel, by decide +kernel⟩, List.mem_of_getElem? (i := 1042) (by decide +kernel), List.mem_of_getElem? (i := 1385) (by decide +kernel), List.mem_of_getElem? (i := 1386) (by decide +kernel)⟩
theorem lw_p68 : lw_okq (⟨"EnginesOutModel", "bestSet", "(I)I"⟩, 31) := ⟨⟨by decide +kernel, by decide +kernel⟩, List.mem_of_getElem? (i := 1042) (by decide +kernel), List.mem_of_getElem? (i := 1407) (by decide +kernel), List.mem_of_getElem? (i := 1408) (by decide +kernel)⟩
theorem lw_p69 : lw_okq (⟨"EnginesOutModel", "twiceBy", "(I)I"⟩, 31) := ⟨⟨by decide +kernel, by decide +kernel⟩, List.mem_of_getElem? (i := 1042) (by decide +kernel), List.mem_of_getElem? (i := 1414) (by decide +kernel), List.mem_of_getElem? (i := 1415) (by decide +kernel)⟩
theorem lw_p70 : lw_okq (⟨"EnginesOutModel", "coverBut", "(I)I"⟩, 31) := ⟨⟨by decide +kernel, by decide +kernel⟩, List.mem_of_getElem? (i := 1042) (by decide +kernel), List.mem_of_getElem? (i := 1442) (by decide +kernel), List.mem_of_getElem? (i := 1443) (by decide +kernel)⟩
theorem lw_p71 : lw_okq (⟨"EnginesOutModel", "stateCover", "(I)I"⟩, 31) := ⟨⟨by decide +kernel, by decide +kernel⟩, List.mem_of_getElem? (i := 1042) (by decide +kernel), List.mem_of_getElem? (i := 1454) (by decide +kernel), List.mem_of_getElem? (i := 1455) (by decide +kernel)⟩
theorem lw_p72 : lw_okq (⟨"EnginesOutModel", "laysState", "(I)V"⟩, 31) := ⟨⟨by decide +kernel, by decide +kernel⟩, List.mem_of_getElem? (i := 1042) (by decide +kernel), List.mem_of_getElem? (i := 1458) (by decide +kernel), List.mem_of_getElem? (i := 1459) (by decide +kernel)⟩
theorem lw_p73 : lw_okq (⟨"EnginesOutModel", "laysSure", "(I)V"⟩, 31) := ⟨⟨by decide +kernel, by decide +kernel⟩, List.mem_of_getElem? (i := 1042) (by decide +kernel), List.mem_of_getElem? (i := 1474) (by decide +kernel), List.mem_of_getElem? (i := 1475) (by decide +kernel)⟩
theorem lw_p74 : lw_okq (⟨"EnginesOutModel", "expectedNow", "()I"⟩, 31) := ⟨⟨by decide +kernel, by decide +kernel⟩, List.mem_of_getElem? (i := 1042) (by decide +kernel), List.mem_of_getElem? (i := 1478) (by decide +kernel), List.mem_of_getElem? (i := 1479) (by decide +kernel)⟩
theorem lw_p75 : lw_okq (⟨"EnginesOutModel", "readyMany", "()I"⟩, 31) := ⟨⟨by decide +kernel, by decide +kernel⟩, List.mem_of_getElem? (i := 1042) (by decide +kernel), List.mem_of_getElem? (i := 1486) (by decide +kernel), List.mem_of_getElem? (i := 1487) (by decide +kernel)⟩
theorem lw_p76 : lw_okq (⟨"EnginesOutModel", "expectedTried", "(I)I"⟩, 31) := ⟨⟨by decide +kernel, by decide +kernel⟩, List.mem_of_getElem? (i := 1042) (by decide +kernel), List.mem_of_getElem? (i := 1490) (by decide +kernel), List.mem_of_getElem? (i := 1491) (by decide +kernel)⟩
theorem lw_p77 : lw_okq (⟨"EnginesOutModel", "risesOn", "(I)Z"⟩, 31) := ⟨⟨by decide +kernel, by decide +kernel⟩, List.mem_of_getElem? (i := 1042) (by decide +kernel), List.mem_of_getElem? (i := 1494) (by decide +kernel), List.mem_of_getElem? (i := 1495) (by decide +kernel)⟩
theorem lw_p78 : lw_okq (⟨"EnginesOutModel", "greatestCover", "()I"⟩, 31) := ⟨⟨by decide +kernel, by decide +kernel⟩, List.mem_of_getElem? (i := 1042) (by decide +kernel), List.mem_of_getElem? (i := 1502) (by decide +kernel), List.mem_of_getElem? (i := 1503) (by decide +kernel)⟩
theorem lw_p79 : lw_okq (⟨"EnginesOutModel", "laysMoves", "(I)V"⟩, 31) := ⟨⟨by decide +kernel, by decide +kernel⟩, List.mem_of_getElem? (i := 1042) (by decide +kernel), List.mem_of_getElem? (i := 1511) (by decide +kernel), List.mem_of_getElem? (i := 1512) (by decide +kernel)⟩
def lw_privs_5 : List (MethodName × Nat) := [(⟨"EnginesOutModel", "twiceNow", "()I"⟩, 31), (⟨"EnginesOutModel", "reachedNow", "()I"⟩, 31), (⟨"EnginesOutModel", "isSet", "(II)Z"⟩, 31), (⟨"EnginesOutModel", "reachedBy", "(I)I"⟩, 31), (⟨"EnginesOutModel", "bestSet", "(I)I"⟩, 31), (⟨"EnginesOutModel", "twiceBy", "(I)I"⟩, 31), (⟨"EnginesOutModel", "coverBut", "(I)I"⟩, 31), (⟨"EnginesOutModel", "stateCover", "(I)I"⟩, 31), (⟨"EnginesOutModel", "laysState", "(I)V"⟩, 31), (⟨"EnginesOutModel", "laysSure", "(I)V"⟩, 31), (⟨"EnginesOutModel", "expectedNow", "()I"⟩, 31), (⟨"EnginesOutModel", "readyMany", "()I"⟩, 31), (⟨"EnginesOutModel", "expectedTried", "(I)I"⟩, 31), (⟨"EnginesOutModel", "risesOn", "(I)Z"⟩, 31), (⟨"EnginesOutModel", "greatestCover", "()I"⟩, 31), (⟨"EnginesOutModel", "laysMoves", "(I)V"⟩, 31)]
theorem lw_r5 : ∀ q ∈ lw_privs_5, lw_okq q := List.forall_mem_cons.mpr ⟨lw_p64, List.forall_mem_cons.mpr ⟨lw_p65, List.forall_mem_cons.mpr ⟨lw_p66, List.forall_mem_cons.mpr ⟨lw_p67, List.forall_mem_cons.mpr ⟨lw_p68, List.forall_mem_cons.mpr ⟨lw_p69, List.forall_mem_cons.mpr ⟨lw_p70, List.forall_mem_cons.mpr ⟨lw_p71, List.forall_mem_cons.mpr ⟨lw_p72, List.forall_mem_cons.mpr ⟨lw_p73, List.forall_mem_cons.mpr ⟨lw_p74, List.forall_mem_cons.mpr ⟨lw_p75, List.forall_mem_cons.mpr ⟨lw_p76, List.forall_mem_cons.mpr ⟨lw_p77, List.forall_mem_cons.mpr ⟨lw_p78, List.forall_mem_cons.mpr ⟨lw_p79, fun _ h => absurd h List.not_mem_nil⟩⟩⟩⟩⟩⟩⟩⟩⟩⟩⟩⟩⟩⟩⟩⟩
theorem lw_p80 : lw_okq (⟨"EnginesOutModel", "tries", "(IIII)V"⟩, 31) := ⟨⟨by decide +kernel, by decide +kernel⟩, List.mem_of_getElem? (i := 1042) (by decide +kernel), List.mem_of_getElem? (i := 1515) (by decide +kernel), List.mem_of_getElem? (i := 1516) (by decide +kernel)⟩
theorem lw_p81 : lw_okq (⟨"EnginesOutModel", "weighs", "(II)V"⟩, 31) := ⟨⟨by decide +kernel, by decide +kernel⟩, List.mem_of_getElem? (i := 1042) (by decide +kernel), List.mem_of_getElem? (i := 1519) (by decide +kernel), List.mem_of_getElem? (i := 1520) (by decide +kernel)⟩
theorem lw_p82 : lw_okq (⟨"EnginesOutModel", "mayMove", "()I"⟩, 31) := ⟨⟨by decide +kernel, by decide +kernel⟩, List.mem_of_getElem? (i := 1042) (by decide +kernel), List.mem_of_getElem? (i := 1527) (by decide +kernel), List.mem_of_getElem? (i := 1528) (by decide +kernel)⟩
theorem lw_p83 : lw_okq (⟨"EnginesOutModel", "begunSince", "(I)I"⟩, 31) := ⟨⟨by decide +kernel, by decide +kernel⟩, List.mem_of_getElem? (i := 1042) (by decide +kernel), List.mem_of_getElem? (i := 1531) (by decide +kernel), List.mem_of_getElem? (i := 1532) (by decide +kernel)⟩
theorem lw_p84 : lw_okq (⟨"EnginesOutModel", "sends", "(II)V"⟩, 31) := ⟨⟨by decide +kernel, by decide +kernel⟩, List.mem_of_getElem? (i := 1042) (by decide +kernel), List.mem_of_getElem? (i := 1535) (by decide +kernel), List.mem_of_getElem? (i := 1536) (by decide +kernel)⟩
theorem lw_p85 : lw_okq (⟨"EnginesOutModel", "inState", "(I)I"⟩, 31) := ⟨⟨by decide +kernel, by decide +kernel⟩, List.mem_of_getElem? (i := 1042) (by decide +kernel), List.mem_of_getElem? (i := 1567) (by decide +kernel), List.mem_of_getElem? (i := 1568) (by decide +kernel)⟩
theorem lw_p86 : lw_okq (⟨"EnginesOutModel", "lost", "()I"⟩, 31) := ⟨⟨by decide +kernel, by decide +kernel⟩, List.mem_of_getElem? (i := 1042) (by decide +kernel), List.mem_of_getElem? (i := 1575) (by decide +kernel), List.mem_of_getElem? (i := 1576) (by decide +kernel)⟩
def lw_privs_6 : List (MethodName × Nat) := [(⟨"EnginesOutModel", "tries", "(IIII)V"⟩, 31), (⟨"EnginesOutModel", "weighs", "(II)V"⟩, 31), (⟨"EnginesOutModel", "mayMove", "()I"⟩, 31), (⟨"EnginesOutModel", "begunSince", "(I)I"⟩, 31), (⟨"EnginesOutModel", "sends", "(II)V"⟩, 31), (⟨"EnginesOutModel", "inState", "(I)I"⟩, 31), (⟨"EnginesOutModel", "lost", "()I"⟩, 31)]
theorem lw_r6 : ∀ q ∈ lw_privs_6, lw_okq q := List.forall_mem_cons.mpr ⟨lw_p80, List.forall_mem_cons.mpr ⟨lw_p81, List.forall_mem_cons.mpr ⟨lw_p82, List.forall_mem_cons.mpr ⟨lw_p83, List.forall_mem_cons.mpr ⟨lw_p84, List.forall_mem_cons.mpr ⟨lw_p85, List.forall_mem_cons.mpr ⟨lw_p86, fun _ h => absurd h List.not_mem_nil⟩⟩⟩⟩⟩⟩⟩
def lw_privs : List (MethodName × Nat) := lw_privs_1 ++ (lw_privs_2 ++ (lw_privs_3 ++ (lw_privs_4 ++ (lw_privs_5 ++ (lw_privs_6)))))
def lw_tbl : List Cond := k2_sels lw_privs ++ tables_1
theorem lw_privs_ok : ∀ q ∈ lw_privs, lw_okq q := by
  show ∀ q ∈ lw_privs_1 ++ (lw_privs_2 ++ (lw_privs_3 ++ (lw_privs_4 ++ (lw_privs_5 ++ (lw_privs_6))))), lw_okq q
  exact List.forall_mem_append.mpr ⟨lw_r1, List.forall_mem_append.mpr ⟨lw_r2, List.forall_mem_append.mpr ⟨lw_r3, List.forall_mem_append.mpr ⟨lw_r4, List.forall_mem_append.mpr ⟨lw_r5, lw_r6⟩⟩⟩⟩⟩
/-- the streams that the claim lets the run draw from -/
abbrev lw_cs : List Choice := [Jvm.Choice.named "NaN.bits"]
theorem lw_bits : nanBits ∈ lw_cs := by first | decide | exact List.mem_cons_self | simp [lw_cs, nanBits]
-- ===== end of PART A; then your names; then what follows =====
end
section
/-! ===== BEGIN words of one list among another's, by their places ===== -/
theorem goodIn_r {big : List Cond} (ws : List Cond) (ps : List Nat) (hp : ws = ps.filterMap (fun i => big[i]?)) (h : ws.all goodWord = true) : GoodIn big ws := by
  intro w hw
  have h1 := List.all_eq_true.mp h w hw
  rw [hp] at hw
  obtain ⟨i, -, hi⟩ := List.mem_filterMap.mp hw
  have hm : w ∈ big := by first | exact List.mem_of_getElem? hi | exact List.getElem?_mem hi
  exact ⟨hm, good_of_word h1⟩
theorem goodIn_app {big a b : List Cond} (ha : GoodIn big a) (hb : GoodIn big b) : GoodIn big (a ++ b) := fun w h => (List.mem_append.mp h).elim (ha w) (hb w)
theorem goodIn_ca {big a b : List Cond} {c : Cond} (ha : GoodIn big (c :: a)) (hb : GoodIn big b) : GoodIn big (c :: (a ++ b)) := fun w h => (List.mem_cons.mp h).elim (fun e => ha w (List.mem_cons.mpr (Or.inl e))) (fun h => (List.mem_append.mp h).elim (fun h => ha w (List.mem_cons.mpr (Or.inr h))) (hb w))
theorem goodIn_sub {big ws : List Cond} (hm : ∀ w ∈ ws, w ∈ big) (h : ws.all goodWord = true) : GoodIn big ws := fun w hw => ⟨hm w hw, good_of_word (List.all_eq_true.mp h w hw)⟩
/-! ===== END ===== -/

/-! ===== BEGIN exceptions that leave a method, and their catching by the caller (launches without stack traces) ===== -/
section VXA
/-! The laws vx_back, vx_callV, vx_callS, vx_callSW, vx_throw0, vx_throwS follow proofs of the library, with one case more: JvmDerived/Free/Laws.lean (Back.of_free), Shelf42/LK1.lean (callV, callS), Shelf/KitTraced.lean (throwNew0V, throwNewS). -/
/-- where a method has thrown q: the class by its name, the cell, what was written, the world -/
def vx_T (XC : String → State → State → Prop) (st : State) (q : Addr) (t : State) (mc ms : Nat) (free : Addr → Prop) : Prop :=
  ∃ (E : String) (ce : Cell) (L : List Loc), XC E st t ∧ t.heap[q]? = some ce ∧ ce.vm = .none ∧ st.vm.findClass E = some ce.cls ∧ st.WarmedH t.vm ∧ st.sameButNew ({ t with vm := st.vm } : State) L mc ms ∧ ∀ z ∈ L, free z.base
def vx_Q (Qc : Array Value → State → Outcome → State → Prop) (XC : String → State → State → Prop) (mc ms : Nat) (free : Addr → Prop) : Array Value → State → Outcome → State → Prop := fun a st o t =>
  (Qc a st o t ∧ ∃ L, FrameEnd st o t L mc ms ∧ ∀ q ∈ L, free q.base) ∨ ∃ q, o = .threw q ∧ vx_T XC st q t mc ms free
/-- a callee that returns or throws -/
def vx_Met (l : Launch) (y : MethodName) (ws : List Cond) (rm : Room) (Pc : Array Value → State → Prop) (Qc : Array Value → State → Outcome → State → Prop) (XC : String → State → State → Prop) (mc ms : Nat) (free : Addr → Prop) : Prop :=
  MetFree l y (headSpec ws rm) Pc (fun _ _ _ _ _ => True) (vx_Q Qc XC mc ms free)
def vx_Post (XC : String → State → State → Prop) (mc ms : Nat) (free : Addr → Prop) : Pt → Array Value → Addr → Pt → Prop := fun A a q B =>
  ∃ (g : JFrame) (mk : MethodId) (t : State) (L : List Loc) (E : String) (ce : Cell), B.U.heap = t.heap ∧ B.U.vm = t.vm ∧ XC E (A.U.calling g mk a) t ∧ t.heap[q]? = some ce ∧ ce.vm = .none ∧ A.U.vm.findClass E = some ce.cls ∧ B.locs = A.locs ++ L ∧ (∀ z ∈ L, free z.base) ∧ B.cells = A.cells + mc ∧ B.slots = A.slots + ms
def vx_Back (l : Launch) (R : Room) (p : Program) (e : Env) (below : List Frame) (s : State) (sargs : Array Value) (y : MethodName) (len W9 : Nat)
    (Pre : Pt → Array Value → Prop) (Post : Pt → Array Value → Option Value → Pt → Prop) (PostX : Pt → Array Value → Addr → Pt → Prop) : Prop :=
  ∀ (m : MethodId) (meth : Method) (c : Code) (A : Pt) (g : JFrame) (ig : Instr) (mk : MethodId) (a : Array Value),
    Stand p l e R s m sargs below meth c A.U A.locs A.cells A.slots → g.method = m → g.locals.size = c.maxLocals → decode c.code g.pc = .ok (ig, len) →
    2 * g.monitorRoom + (g.stack.map fun v => v.category).sum ≤ W9 → A.U.methodNamed? y = some mk → Pre A a →
    (∃ (v : Option Value) (B : Pt), Stand p l e R s m sargs below meth c B.U B.locs B.cells B.slots ∧ Post A a v B ∧
      Steps p.tables e below (doInvoke e (A.U.setTop g) [] mk a).1 (B.U.setTop { g with pc := g.pc + len, stack := v.toList ++ g.stack })) ∨
    (∃ (q : Addr) (B : Pt), Stand p l e R s m sargs below meth c B.U B.locs B.cells B.slots ∧ PostX A a q B ∧
      Steps p.tables e below (doInvoke e (A.U.setTop g) [] mk a).1 ((B.U.setTop g).pushFrame (.throwing q)))
section Payer
variable {l : Launch} {R : Room} {p : Program} {e : Env} {below : List Frame} {s : State} {sargs : Array Value} {y : MethodName} {len W9 : Nat}
theorem vx_back {ws : List Cond} {rm : Room} {Pc : Array Value → State → Prop} {Qc : Array Value → State → Outcome → State → Prop} {XC : String → State → State → Prop} {mc ms : Nat} {free : Addr → Prop} {bytes : ByteArray} {maxL : Nat} {ret : Option FieldType}
    (hM : vx_Met l y ws rm Pc Qc XC mc ms free) (hblind : FrameBlind Pc) (hrc : rm.cells = mc) (hrs : rm.slots = ms)
    (hframes : rm.frames + 1 ≤ R.frames) (hlocals : W9 + (maxL + 11) + rm.locals ≤ R.locals)
    (hws : ∀ w ∈ ws, ∀ a' U, s.WarmedH U.vm → w.before a' U = true) (hcode : Cond.code y bytes maxL ret ∈ ws) (hinit : ∀ a' U, s.WarmedH U.vm → (Cond.initialized y.cls).before a' U = true) :
    vx_Back l R p e below s sargs y len W9 (PreOf R mc ms Pc) (PostOf Qc mc ms free) (vx_Post XC mc ms free) := by
  intro m meth c A g ig mk a X hg hsize hdg hW hn hp
  have h1 : (headSpec ws rm).pre.before a A.U = true := atoms_intro fun w hw => hws w hw _ _ X.warmed
  have h2 : (Cond.code y bytes maxL ret).before a A.U = true := hws _ hcode _ _ X.warmed
  have h3 : (Cond.initialized y.cls).before a A.U = true := hinit _ _ X.warmed
  have h4 : A.cells + (headSpec ws rm).room.cells ≤ R.cells := by rw [show (headSpec ws rm).room.cells = mc from hrc]; exact hp.1
  have h5 : A.slots + (headSpec ws rm).room.slots ≤ R.slots := by rw [show (headSpec ws rm).room.slots = ms from hrs]; exact hp.2.1
  have hPc : Pc a (A.U.calling g mk a) := hblind _ _ _ _ hp.2.2
  obtain ⟨U, Ls, c0, s0⟩ := A
  dsimp only [Pt.U, Pt.locs, Pt.cells, Pt.slots] at h1 h2 h3 h4 h5 X hn hPc ⊢
  obtain ⟨methY, cY, hmY, hcY, -, hlY, -, -, -, -⟩ := Cond.code_spec hn h2
  obtain ⟨kY, hkY, -⟩ := className_of_methodNamed hn
  have hinitY : kY.init = .initialized := Cond.initialized_spec (findClass_of_methodNamed hn) hkY h3
  have h : At U g.method c below := by rw [hg]; exact X.here
  have hlocals9 : W9 + (maxL + 11) + (headSpec ws rm).room.locals ≤ R.locals := hlocals
  have happ : (headSpec ws rm).appliesLoose y e.platform (U.calling g mk a) = true :=
    Spec.appliesLoose_calling (g := g) h hdg hn hkY hinitY
      (X.room_calling (g := g) (R' := (headSpec ws rm).room) hsize hmY hcY hframes (by rw [hlY]; omega) h4 h5) h1
  obtain ⟨mid, hmid⟩ := h.above
  have hfr : (U.setTop g).frames = (.java g :: mid) ++ below := by rw [State.frames_setTop' g h.top, hmid]; rfl
  obtain ⟨o, s₂, hsteps, -, hend, hq⟩ := Steps.callFree hM p X.admits X.cas X.clock (acts := []) hfr happ hPc trivial
  have hq' : vx_Q Qc XC mc ms free a (U.calling g mk a) o s₂ := hq
  rw [State.frames_setTop' g h.top] at hend
  obtain ⟨g₀, hg0⟩ := Option.isSome_iff_exists.mp h.top
  obtain ⟨r, hr⟩ := State.topJava?_eq_some.mp hg0
  have hr' : (({ U with heap := s₂.heap, slotsUsed := s₂.slotsUsed } : State).setVm s₂.vm).frames = .java g₀ :: r := hr
  rcases hq' with ⟨hqc, L, hfe, hL⟩ | ⟨q, rfl, E, ce, L, hx, hce, hcv, hcl, hW₂, hsm, hL⟩
  · obtain ⟨⟨v, rfl⟩, hW₂, e2, q2, q3, q4, q5, q6⟩ := id hfe
    have e3 : s₂ = ({ (U.calling g mk a).setFrames s₂.frames with heap := s₂.heap, slotsUsed := s₂.slotsUsed } : State).setVm s₂.vm := by
      have : s₂ = ({ s₂ with vm := (U.calling g mk a).vm } : State).setVm s₂.vm := rfl
      rw [e2] at this
      exact this
    obtain ⟨c₂, i₂, len₂, hc₂, hd₂, hf₂⟩ := hend
    have hW' : U.WarmedH s₂.vm := hW₂
    have hcc : c₂ = c := by
      have h1 : s₂.code? g.method = U.code? g.method := by
        rw [State.code?_eq, State.code?_eq, hW'.alike.method?]
      exact Option.some.inj (hc₂.symm.trans (h1.trans h.code))
    subst hcc
    have hlen : len₂ = len := by rw [hdg] at hd₂; cases hd₂; rfl
    subst hlen
    have hs₂ : s₂ = (({ U with heap := s₂.heap, slotsUsed := s₂.slotsUsed } : State).setVm s₂.vm).setTop { g with pc := g.pc + len₂, stack := v.toList ++ g.stack } := by
      refine e3.trans ?_
      rw [hf₂, State.calling_eq h.top, State.setFrames_setFrames, State.setTop_of_frames _ hr', hr]
      rfl
    have hsame : U.sameButNew ({ U with heap := s₂.heap, slotsUsed := s₂.slotsUsed } : State) L mc ms := by
      refine ⟨?_, q2, q3, q4, q5, q6⟩
      obtain ⟨t, ht, -⟩ := State.frames_cons hr
      show ({ U with heap := s₂.heap, slotsUsed := s₂.slotsUsed } : State) = { U.setFrames U.frames with heap := s₂.heap, slotsUsed := s₂.slotsUsed }
      rw [State.setFrames_self ht]
    subst hg
    refine Or.inl ⟨v, ⟨(({ U with heap := s₂.heap, slotsUsed := s₂.slotsUsed } : State).setVm s₂.vm), Ls ++ L, c0 + mc, s0 + ms⟩,
      ⟨X.admits, X.cas, X.clock, X.frames, X.room, X.hears, X.method, X.code, (X.here.setHeapUsed s₂.heap s₂.slotsUsed).setVm hW'.alike, X.tail, State.WarmedH.trans X.warmed hW', X.limits, X.bytes, X.same.trans (hsame.setVm s.vm)⟩,
      ⟨g, mk, s₂, L, rfl, rfl, hqc, rfl, hL, rfl, rfl⟩, ?_⟩
    show Steps p.tables e below _ ((({ U with heap := s₂.heap, slotsUsed := s₂.slotsUsed } : State).setVm s₂.vm).setTop { g with pc := g.pc + len₂, stack := v.toList ++ g.stack })
    rw [← hs₂]
    exact hsteps
  · obtain ⟨e2, q2, q3, q4, q5, q6⟩ := id hsm
    have e3 : s₂ = ({ (U.calling g mk a).setFrames s₂.frames with heap := s₂.heap, slotsUsed := s₂.slotsUsed } : State).setVm s₂.vm := by
      have : s₂ = ({ s₂ with vm := (U.calling g mk a).vm } : State).setVm s₂.vm := rfl
      rw [e2] at this
      exact this
    have hf₂ : s₂.frames = .throwing q :: .java g :: U.frames.tail := hend
    have hW' : U.WarmedH s₂.vm := hW₂
    have hs₂ : s₂ = ((({ U with heap := s₂.heap, slotsUsed := s₂.slotsUsed } : State).setVm s₂.vm).setTop g).pushFrame (.throwing q) := by
      refine e3.trans ?_
      rw [hf₂, State.calling_eq h.top, State.setFrames_setFrames, State.pushFrame, State.frames_setTop _ hr', State.setTop_of_frames _ hr', State.setFrames_setFrames, hr]
      rfl
    have hsame : U.sameButNew ({ U with heap := s₂.heap, slotsUsed := s₂.slotsUsed } : State) L mc ms := by
      refine ⟨?_, q2, q3, q4, q5, q6⟩
      obtain ⟨t, ht, -⟩ := State.frames_cons hr
      show ({ U with heap := s₂.heap, slotsUsed := s₂.slotsUsed } : State) = { U.setFrames U.frames with heap := s₂.heap, slotsUsed := s₂.slotsUsed }
      rw [State.setFrames_self ht]
    subst hg
    refine Or.inr ⟨q, ⟨(({ U with heap := s₂.heap, slotsUsed := s₂.slotsUsed } : State).setVm s₂.vm), Ls ++ L, c0 + mc, s0 + ms⟩,
      ⟨X.admits, X.cas, X.clock, X.frames, X.room, X.hears, X.method, X.code, (X.here.setHeapUsed s₂.heap s₂.slotsUsed).setVm hW'.alike, X.tail, State.WarmedH.trans X.warmed hW', X.limits, X.bytes, X.same.trans (hsame.setVm s.vm)⟩,
      ⟨g, mk, s₂, L, E, ce, rfl, rfl, hx, hce, hcv, hcl, rfl, hL, rfl, rfl⟩, ?_⟩
    show Steps p.tables e below _ (((({ U with heap := s₂.heap, slotsUsed := s₂.slotsUsed } : State).setVm s₂.vm).setTop g).pushFrame (.throwing q))
    rw [← hs₂]
    exact hsteps
end Payer
section Calls
variable {p : Program} {l : Launch} {e : Env} {R : Room} {s : State} {m : MethodId} {args : Array Value} {below : List Frame} {meth : Method} {c : Code} {T : State} {locs : List Loc} {cells slots : Nat}
theorem vx_callV (X : Stand p l e R s m args below meth c T locs cells slots) (hexec : p.tables.exec = Jvm.exec) {own C : String} {index : Nat} {y : MethodName} {bytes : ByteArray} {maxL : Nat} {ret : Option FieldType}
    (hown : s.vm.findClass own = some m.cls) (hlink : (Cond.methodLink own index y).before args s = true) (hinst : (Cond.instanceMethod y).before args s = true) (hsel : (Cond.selects C y y).before args s = true)
    (hcode : (Cond.code y bytes maxL ret).before args s = true) (hy : y.cls ≠ "java/lang/invoke/MethodHandle" ∧ y.cls ≠ "java/lang/invoke/VarHandle")
    {W9 : Nat} {Pre : Pt → Array Value → Prop} {Post : Pt → Array Value → Option Value → Pt → Prop} {PostX : Pt → Array Value → Addr → Pt → Prop} (hK : vx_Back l R p e below s args y 3 W9 Pre Post PostX)
    {b : Addr} {cellB : Cell} (hcell : T.heap[b]? = some cellB) (hobj : cellB.vm.isStatics = false) (hcls : s.vm.findClass C = some cellB.cls)
    {g : JFrame} (hg : g.method = m) (hsize : g.locals.size = c.maxLocals) {argsL rest : List Value} (hlen : ∀ sig, parseMethodDescriptor y.desc = some sig → argsL.length = sig.parameters.length)
    (hstack : g.stack = argsL.reverse ++ .ref b :: rest) (hW : 2 * g.monitorRoom + (rest.map fun v => v.category).sum ≤ W9) (hdg : decode c.code g.pc = .ok (.invokevirtual index, 3))
    (hpre : ∀ vm₁, s.WarmedH vm₁ → Pre ⟨T.setVm vm₁, locs, cells, slots⟩ (Value.ref b :: argsL).toArray) :
    (∃ (v : Option Value) (vm₁ : Vm) (B : Pt), s.WarmedH vm₁ ∧ Stand p l e R s m args below meth c B.U B.locs B.cells B.slots ∧ Post ⟨T.setVm vm₁, locs, cells, slots⟩ (Value.ref b :: argsL).toArray v B ∧
      ∀ target, Steps p.tables e below (B.U.setTop { g with pc := g.pc + 3, stack := v.toList ++ rest }) target → Steps p.tables e below (T.setTop g) target) ∨
    (∃ (q : Addr) (vm₁ : Vm) (B : Pt), s.WarmedH vm₁ ∧ Stand p l e R s m args below meth c B.U B.locs B.cells B.slots ∧ PostX ⟨T.setVm vm₁, locs, cells, slots⟩ (Value.ref b :: argsL).toArray q B ∧
      Steps p.tables e below (T.setTop g) ((B.U.setTop { g with stack := rest }).pushFrame (.throwing q))) := by
  obtain ⟨mk, methM, hnamed, hmethM, hstM, habM⟩ := Cond.instanceMethod_spec hinst
  obtain ⟨methM', cM, hmethM', -, -, -, -, -, -, hsigM⟩ := Cond.code_spec hnamed hcode
  cases hmethM.symm.trans hmethM'
  obtain ⟨c2, r2, m2, q1, q2, q3, q4, kP, hkP, hkPi⟩ := Cond.selects_spec hsel
  cases hcls.symm.trans q1
  cases (State.methodFound?_of_named hnamed hy).symm.trans q2
  cases hnamed.symm.trans q3
  have hselP : selectMethod e.platform s.vm cellB.cls mk = .method mk := by rw [Launch.admits_selectMethod X.admits]; exact q4
  obtain ⟨vm₁, X₁, hstep₁⟩ := X.invokevirtual hexec hown hlink hnamed hmethM hstM hkP hkPi hy (a := b) (cell := cellB) hcell
    (fun z h => by rw [h] at hobj; cases hobj) hselP hmethM habM hkP hkPi (g := g) hg (argsL := argsL) (rest := rest) (hlen _ hsigM) hstack hdg
  rcases hK m meth c ⟨T.setVm vm₁, locs, cells, slots⟩ { g with stack := rest } (.invokevirtual index) mk (Value.ref b :: argsL).toArray X₁ hg hsize hdg hW (X₁.named hnamed) (hpre vm₁ X₁.warmed) with ⟨v, B, X', hpost, hsteps⟩ | ⟨q, B, X', hpost, hsteps⟩
  · exact Or.inl ⟨v, vm₁, B, X₁.warmed, X', hpost, fun target h => hstep₁ _ fun acts => by rw [doInvoke_state]; exact hsteps.trans h⟩
  · exact Or.inr ⟨q, vm₁, B, X₁.warmed, X', hpost, hstep₁ _ fun acts => by rw [doInvoke_state]; exact hsteps⟩
theorem vx_callS (X : Stand p l e R s m args below meth c T locs cells slots) (hexec : p.tables.exec = Jvm.exec) {own : String} {index : Nat} {y : MethodName} {bytes : ByteArray} {maxL : Nat} {ret : Option FieldType}
    (hown : s.vm.findClass own = some m.cls) (hlink : (Cond.methodLink own index y).before args s = true) (hstat : (Cond.static y).before args s = true) (hinit : (Cond.initialized y.cls).before args s = true)
    (hcode : (Cond.code y bytes maxL ret).before args s = true) (hy : y.cls ≠ "java/lang/invoke/MethodHandle" ∧ y.cls ≠ "java/lang/invoke/VarHandle")
    {W9 : Nat} {Pre : Pt → Array Value → Prop} {Post : Pt → Array Value → Option Value → Pt → Prop} {PostX : Pt → Array Value → Addr → Pt → Prop} (hK : vx_Back l R p e below s args y 3 W9 Pre Post PostX)
    {g : JFrame} (hg : g.method = m) (hsize : g.locals.size = c.maxLocals) {argsL rest : List Value} (hlen : ∀ sig, parseMethodDescriptor y.desc = some sig → argsL.length = sig.parameters.length)
    (hstack : g.stack = argsL.reverse ++ rest) (hW : 2 * g.monitorRoom + (rest.map fun v => v.category).sum ≤ W9) (hdg : decode c.code g.pc = .ok (.invokestatic index, 3))
    (hpre : ∀ vm₁, s.WarmedH vm₁ → Pre ⟨T.setVm vm₁, locs, cells, slots⟩ argsL.toArray) :
    (∃ (v : Option Value) (vm₁ : Vm) (B : Pt), s.WarmedH vm₁ ∧ Stand p l e R s m args below meth c B.U B.locs B.cells B.slots ∧ Post ⟨T.setVm vm₁, locs, cells, slots⟩ argsL.toArray v B ∧
      ∀ target, Steps p.tables e below (B.U.setTop { g with pc := g.pc + 3, stack := v.toList ++ rest }) target → Steps p.tables e below (T.setTop g) target) ∨
    (∃ (q : Addr) (vm₁ : Vm) (B : Pt), s.WarmedH vm₁ ∧ Stand p l e R s m args below meth c B.U B.locs B.cells B.slots ∧ PostX ⟨T.setVm vm₁, locs, cells, slots⟩ argsL.toArray q B ∧
      Steps p.tables e below (T.setTop g) ((B.U.setTop { g with stack := rest }).pushFrame (.throwing q))) := by
  obtain ⟨mk, hnamed⟩ := Cond.code_named hcode
  obtain ⟨methM, cM, hmethM, -, -, -, -, -, -, hsigM⟩ := Cond.code_spec hnamed hcode
  have hstatic : methM.isStatic = true := Cond.static_spec hnamed hmethM hstat
  obtain ⟨kP, hkP, -⟩ := className_of_methodNamed hnamed
  have hinitP : kP.init = .initialized := Cond.initialized_spec (findClass_of_methodNamed hnamed) hkP hinit
  obtain ⟨vm₁, X₁, hstep₁⟩ := X.invokestatic hexec hown hlink hnamed hmethM hstatic hkP hinitP hy (g := g) hg (argsL := argsL) (rest := rest) (hlen _ hsigM) hstack hdg
  rcases hK m meth c ⟨T.setVm vm₁, locs, cells, slots⟩ { g with stack := rest } (.invokestatic index) mk argsL.toArray X₁ hg hsize hdg hW (X₁.named hnamed) (hpre vm₁ X₁.warmed) with ⟨v, B, X', hpost, hsteps⟩ | ⟨q, B, X', hpost, hsteps⟩
  · exact Or.inl ⟨v, vm₁, B, X₁.warmed, X', hpost, fun target h => hstep₁ _ fun acts => by rw [doInvoke_state]; exact hsteps.trans h⟩
  · exact Or.inr ⟨q, vm₁, B, X₁.warmed, X', hpost, hstep₁ _ fun acts => by rw [doInvoke_state]; exact hsteps⟩
end Calls
theorem vx_cls {s : State} {T : State} {vm₁ : Vm} {E : String} {k : ClassId} (hW : s.WarmedH vm₁) (h : (T.setVm vm₁).vm.findClass E = some k) : s.vm.findClass E = some k := by
  have h1 : vm₁.findClass E = some k := h
  rw [hW.alike.findClass] at h1
  exact h1
/-- the method's frame g, with q thrown over it -/
def vx_W (p : Program) (l : Launch) (e : Env) (R : Room) (s : State) (m : MethodId) (args : Array Value) (below : List Frame) (meth : Method) (c : Code) (H : Heap) (locs : List Loc) (cells slots : Nat) (Q : State → Prop) (g : JFrame) (q : Addr) : Prop :=
  ∀ T : State, T.heap = H → Stand p l e R s m args below meth c T locs cells slots → ∃ t, Steps p.tables e below ((T.setTop g).pushFrame (.throwing q)) t ∧ Q t
def vx_Run (p : Program) (l : Launch) (e : Env) (R : Room) (s : State) (m : MethodId) (args : Array Value) (below : List Frame) (meth : Method) (c : Code) (H : Heap) (locs : List Loc) (cells slots mc ms : Nat) (g : JFrame) (rest : List Value) (Qa : State → Outcome → State → Prop) (XC : String → State → State → Prop) (free : Addr → Prop) : Prop :=
  ∀ T : State, T.heap = H → Stand p l e R s m args below meth c T locs cells slots →
    (∃ (v : Option Value) (st₀ t T' : State) (L : List Loc), st₀.heap = H ∧ Stand p l e R s m args below meth c T' (locs ++ L) (cells + mc) (slots + ms) ∧ (∀ q ∈ L, free q.base) ∧ T'.heap = t.heap ∧ T'.vm = t.vm ∧ Qa st₀ (.returned v) t ∧
      Goes p e below T g T' { g with pc := g.pc + 3, stack := v.toList ++ rest }) ∨
    (∃ (q : Addr) (st₀ t T' : State) (L : List Loc) (E : String) (ce : Cell), st₀.heap = H ∧ Stand p l e R s m args below meth c T' (locs ++ L) (cells + mc) (slots + ms) ∧ (∀ z ∈ L, free z.base) ∧ T'.heap = t.heap ∧ T'.vm = t.vm ∧ XC E st₀ t ∧ t.heap[q]? = some ce ∧ ce.vm = .none ∧ s.vm.findClass E = some ce.cls ∧
      Steps p.tables e below (T.setTop g) ((T'.setTop { g with stack := rest }).pushFrame (.throwing q)))
def vx_X {S : Type} (px : S → Prop) (B : String → S → State → Prop) (A : Nat → Prop) : String → State → State → Prop := fun E st t => ∃ u : S, px u ∧ B E u t ∧ va_F A st t
section Runs
variable {p : Program} {l : Launch} {e : Env} {R : Room} {s : State} {m : MethodId} {args : Array Value} {below : List Frame} {meth : Method} {c : Code} {H : Heap} {locs : List Loc} {cells slots : Nat}
variable {y : MethodName} {bytes cc : ByteArray} {maxL nL mc ms n index : Nat} {ret : Option FieldType} {ws : List Cond} {rm : Room} {Pc : Array Value → State → Prop} {Qc : Array Value → State → Outcome → State → Prop} {XC : String → State → State → Prop} {free : Addr → Prop} {Ts : List Cond} {own C : String} {b : Addr} {As rest : List Value} {g : JFrame}
theorem vx_callBack (cb : CallB R s args own index y bytes maxL ret ws rm mc ms n) (hM : vx_Met l y ws rm Pc Qc XC mc ms free) (hbl : FrameBlind Pc) : vx_Back l R p e below s args y 3 8 (PreOf R mc ms Pc) (PostOf Qc mc ms free) (vx_Post XC mc ms free) := by
  obtain ⟨hrc, hrs, hfr, hlo, hws, hcw, -, hini, -⟩ := cb
  exact vx_back (bytes := bytes) (maxL := maxL) (ret := ret) hM hbl hrc hrs hfr hlo hws hcw (fun a' U hW => word_at hW (Or.inl (by first | rfl | simp [Cond.onTables, Cond.keeps, Cond.steady])) hini)
theorem vx_runV (S : CallFix p m c cc nL s args Ts own) (hM : vx_Met l y ws rm Pc Qc XC mc ms free) (cw : CallW R s args own C index y bytes maxL ret ws rm mc ms n) (hp : PreV s H C b Pc As)
    (hg : g.method = m) (hn : As.length = n) (hsize : g.locals.size = nL) (hstack : g.stack = As.reverse ++ .ref b :: rest) (hW : 2 * g.monitorRoom + (rest.map fun v => v.category).sum ≤ 8) (hdg : decode cc g.pc = .ok (.invokevirtual index, 3)) (hf : cells + mc ≤ R.cells ∧ slots + ms ≤ R.slots) :
    vx_Run p l e R s m args below meth c H locs cells slots mc ms g rest (Qc (Value.ref b :: As).toArray) XC free := by
  have hK : vx_Back l R p e below s args y 3 8 (PreOf R mc ms Pc) (PostOf Qc mc ms free) (vx_Post XC mc ms free) := vx_callBack cw.1 hM hp.1
  obtain ⟨⟨-, -, -, -, -, -, hcode, -, hy, hlen, hl⟩, hin, hse⟩ := cw
  obtain ⟨hx, hb, hml, ho, -⟩ := S
  obtain ⟨-, ⟨cellB, hcB, hoB, hclB⟩, hPc⟩ := hp
  intro T hT X
  rcases vx_callV X hx (C := C) (bytes := bytes) (maxL := maxL) (ret := ret) ho hl hin hse hcode hy hK (by rw [hT]; exact hcB) hoB hclB hg (hsize.trans hml.symm) (argsL := As) (rest := rest) (fun sig h => hn.trans (hlen sig h)) hstack hW (by rw [hb]; exact hdg)
    (fun vm₁ hW₁ => ⟨hf.1, hf.2, hPc (T.setVm vm₁) hT hW₁⟩) with ⟨v, vm₁, ⟨U', l2, c2, s2⟩, hW₁, X', ⟨g', mk, t, L, e1, e2, hq, h1, hL, h2, h3⟩, st⟩ | ⟨q, vm₁, ⟨U', l2, c2, s2⟩, hW₁, X', ⟨g', mk, t, L, E, ce, e1, e2, hq, hce, hcv, hcl, h1, hL, h2, h3⟩, st⟩
  · dsimp only [Pt.U, Pt.locs, Pt.cells, Pt.slots] at X' e1 e2 h1 h2 h3 st
    subst h1; subst h2; subst h3
    exact Or.inl ⟨v, (T.setVm vm₁).calling g' mk (Value.ref b :: As).toArray, t, U', L, hT, X', hL, e1, e2, hq, st⟩
  · dsimp only [Pt.U, Pt.locs, Pt.cells, Pt.slots] at X' e1 e2 h1 h2 h3 st hcl
    subst h1; subst h2; subst h3
    exact Or.inr ⟨q, (T.setVm vm₁).calling g' mk (Value.ref b :: As).toArray, t, U', L, E, ce, hT, X', hL, e1, e2, hq, hce, hcv, vx_cls hW₁ hcl, st⟩
theorem vx_runS (S : CallFix p m c cc nL s args Ts own) (hM : vx_Met l y ws rm Pc Qc XC mc ms free) (cw : CallB R s args own index y bytes maxL ret ws rm mc ms n ∧ (Cond.static y).before args s = true) (hp : PreS s H Pc As)
    (hg : g.method = m) (hn : As.length = n) (hsize : g.locals.size = nL) (hstack : g.stack = As.reverse ++ rest) (hW : 2 * g.monitorRoom + (rest.map fun v => v.category).sum ≤ 8) (hdg : decode cc g.pc = .ok (.invokestatic index, 3)) (hf : cells + mc ≤ R.cells ∧ slots + ms ≤ R.slots) :
    vx_Run p l e R s m args below meth c H locs cells slots mc ms g rest (Qc As.toArray) XC free := by
  have hK : vx_Back l R p e below s args y 3 8 (PreOf R mc ms Pc) (PostOf Qc mc ms free) (vx_Post XC mc ms free) := vx_callBack cw.1 hM hp.1
  obtain ⟨⟨-, -, -, -, -, -, hcode, hini, hy, hlen, hl⟩, hstt⟩ := cw
  obtain ⟨hx, hb, hml, ho, -⟩ := S
  intro T hT X
  rcases vx_callS X hx (bytes := bytes) (maxL := maxL) (ret := ret) ho hl hstt hini hcode hy hK hg (hsize.trans hml.symm) (argsL := As) (rest := rest) (fun sig h => hn.trans (hlen sig h)) hstack hW (by rw [hb]; exact hdg)
    (fun vm₁ hW₁ => ⟨hf.1, hf.2, hp.2 (T.setVm vm₁) hT hW₁⟩) with ⟨v, vm₁, ⟨U', l2, c2, s2⟩, hW₁, X', ⟨g', mk, t, L, e1, e2, hq, h1, hL, h2, h3⟩, st⟩ | ⟨q, vm₁, ⟨U', l2, c2, s2⟩, hW₁, X', ⟨g', mk, t, L, E, ce, e1, e2, hq, hce, hcv, hcl, h1, hL, h2, h3⟩, st⟩
  · dsimp only [Pt.U, Pt.locs, Pt.cells, Pt.slots] at X' e1 e2 h1 h2 h3 st
    subst h1; subst h2; subst h3
    exact Or.inl ⟨v, (T.setVm vm₁).calling g' mk As.toArray, t, U', L, hT, X', hL, e1, e2, hq, st⟩
  · dsimp only [Pt.U, Pt.locs, Pt.cells, Pt.slots] at X' e1 e2 h1 h2 h3 st hcl
    subst h1; subst h2; subst h3
    exact Or.inr ⟨q, (T.setVm vm₁).calling g' mk As.toArray, t, U', L, E, ce, hT, X', hL, e1, e2, hq, hce, hcv, vx_cls hW₁ hcl, st⟩
end Runs
section Rows
variable {p : Program} {l : Launch} {e : Env} {R : Room} {s : State} {m : MethodId} {args : Array Value} {below : List Frame} {meth : Method} {c : Code} {H : Heap} {locs : List Loc} {cells slots : Nat} {Q : State → Prop}
variable {mc ms : Nat} {free : Addr → Prop} {A0 A1 : Nat → Prop} {H0 : Heap} {a : Array Value} {pc : Nat} {ls : Array Slot} {st0 rest : List Value}
theorem vx_keep {st₀ t T' : State} {L : List Loc} (h0 : st₀.heap = H) (e1 : T'.heap = t.heap) (hS : va_S A0 H0 H locs) (hA : ∀ q, q < H.size → A1 q → A0 q) (hf : ∀ q, free q → A0 q) (hL : ∀ q ∈ L, free q.base) (hF : va_F A1 st₀ t) :
    H.size ≤ T'.heap.size ∧ (∀ q : Nat, q < H.size → ¬ A1 q → T'.heap[q]? = H[q]?) ∧ va_S A0 H0 T'.heap (locs ++ L) := by
  obtain ⟨hz, hk⟩ := hF
  rw [h0] at hz hk
  exact ⟨by rw [e1]; exact hz, fun q h1 h2 => by rw [e1]; exact hk q h1 h2,
    ⟨Nat.le_trans hS.1 (by rw [e1]; exact hz), fun q h1 h2 => by rw [e1, hk q (Nat.lt_of_lt_of_le h1 hS.1) (fun z => h2 (hA q (Nat.lt_of_lt_of_le h1 hS.1) z))]; exact hS.2.1 q h1 h2, fun q hq => by
      rcases List.mem_append.mp hq with h | h
      · exact hS.2.2 q h
      · exact hf _ (hL q h)⟩⟩
theorem vx_calli {S SX : Type} {post : Int32 → S → Prop} {px : SX → Prop} {B : S → State → Prop} {BX : String → SX → State → Prop} {AX : Nat → Prop} (hr : vx_Run p l e R s m args below meth c H locs cells slots mc ms (F0 m pc ls st0) rest (va_Qi post B A1 a) (vx_X px BX AX) free) (hS : va_S A0 H0 H locs) (hA : ∀ q, q < H.size → A1 q → A0 q) (hf : ∀ q, free q → A0 q) (hAX : ∀ q, q < H.size → AX q → A0 q)
    (kx : ∀ (E : String) (ce : Cell) (q9 : Addr) (u : SX) (t : State) (H1 : Heap) (locs1 : List Loc), t.heap = H1 → s.vm.Alike t.vm → px u → BX E u t → H.size ≤ H1.size → (∀ q : Nat, q < H.size → ¬ AX q → H1[q]? = H[q]?) → va_S A0 H0 H1 locs1 → H1[q9]? = some ce → ce.vm = .none → s.vm.findClass E = some ce.cls → vx_W p l e R s m args below meth c H1 locs1 (cells + mc) (slots + ms) Q (F0 m pc ls rest) q9)
    (kk : ∀ (r : Int32) (u : S) (t : State) (H1 : Heap) (locs1 : List Loc), t.heap = H1 → s.vm.Alike t.vm → post r u → B u t → H.size ≤ H1.size → (∀ q : Nat, q < H.size → ¬ A1 q → H1[q]? = H[q]?) → va_S A0 H0 H1 locs1 → W p l e R s m args below meth c H1 locs1 (cells + mc) (slots + ms) Q (F0 m (pc + 3) ls (.int r :: rest))) : W p l e R s m args below meth c H locs cells slots Q (F0 m pc ls st0) := by
  intro T hT X
  rcases hr T hT X with ⟨v, st₀, t, T', L, h0, X', hL, e1, e2, ⟨⟨r, u, hv, hp, hb⟩, hF⟩, st⟩ | ⟨q, st₀, t, T', L, E, ce, h0, X', hL, e1, e2, ⟨u, hp, hb, hF⟩, hce, hcv, hcl, st⟩
  · cases hv
    obtain ⟨k1, k2, k3⟩ := vx_keep h0 e1 hS hA hf hL hF
    obtain ⟨t2, a1, b1⟩ := kk r u t T'.heap (locs ++ L) e1.symm (by rw [← e2]; exact X'.warmed.alike) hp hb k1 k2 k3 T' rfl X'
    exact ⟨t2, st t2 a1, b1⟩
  · obtain ⟨k1, k2, k3⟩ := vx_keep h0 e1 hS hAX hf hL hF
    obtain ⟨t2, a1, b1⟩ := kx E ce q u t T'.heap (locs ++ L) e1.symm (by rw [← e2]; exact X'.warmed.alike) hp hb k1 k2 k3 (by rw [e1]; exact hce) hcv hcl T' rfl X'
    exact ⟨t2, st.trans a1, b1⟩
theorem vx_calll {S SX : Type} {post : Int64 → S → Prop} {px : SX → Prop} {B : S → State → Prop} {BX : String → SX → State → Prop} {AX : Nat → Prop} (hr : vx_Run p l e R s m args below meth c H locs cells slots mc ms (F0 m pc ls st0) rest (va_Ql post B A1 a) (vx_X px BX AX) free) (hS : va_S A0 H0 H locs) (hA : ∀ q, q < H.size → A1 q → A0 q) (hf : ∀ q, free q → A0 q) (hAX : ∀ q, q < H.size → AX q → A0 q)
    (kx : ∀ (E : String) (ce : Cell) (q9 : Addr) (u : SX) (t : State) (H1 : Heap) (locs1 : List Loc), t.heap = H1 → s.vm.Alike t.vm → px u → BX E u t → H.size ≤ H1.size → (∀ q : Nat, q < H.size → ¬ AX q → H1[q]? = H[q]?) → va_S A0 H0 H1 locs1 → H1[q9]? = some ce → ce.vm = .none → s.vm.findClass E = some ce.cls → vx_W p l e R s m args below meth c H1 locs1 (cells + mc) (slots + ms) Q (F0 m pc ls rest) q9)
    (kk : ∀ (r : Int64) (u : S) (t : State) (H1 : Heap) (locs1 : List Loc), t.heap = H1 → s.vm.Alike t.vm → post r u → B u t → H.size ≤ H1.size → (∀ q : Nat, q < H.size → ¬ A1 q → H1[q]? = H[q]?) → va_S A0 H0 H1 locs1 → W p l e R s m args below meth c H1 locs1 (cells + mc) (slots + ms) Q (F0 m (pc + 3) ls (.long r :: rest))) : W p l e R s m args below meth c H locs cells slots Q (F0 m pc ls st0) := by
  intro T hT X
  rcases hr T hT X with ⟨v, st₀, t, T', L, h0, X', hL, e1, e2, ⟨⟨r, u, hv, hp, hb⟩, hF⟩, st⟩ | ⟨q, st₀, t, T', L, E, ce, h0, X', hL, e1, e2, ⟨u, hp, hb, hF⟩, hce, hcv, hcl, st⟩
  · cases hv
    obtain ⟨k1, k2, k3⟩ := vx_keep h0 e1 hS hA hf hL hF
    obtain ⟨t2, a1, b1⟩ := kk r u t T'.heap (locs ++ L) e1.symm (by rw [← e2]; exact X'.warmed.alike) hp hb k1 k2 k3 T' rfl X'
    exact ⟨t2, st t2 a1, b1⟩
  · obtain ⟨k1, k2, k3⟩ := vx_keep h0 e1 hS hAX hf hL hF
    obtain ⟨t2, a1, b1⟩ := kx E ce q u t T'.heap (locs ++ L) e1.symm (by rw [← e2]; exact X'.warmed.alike) hp hb k1 k2 k3 (by rw [e1]; exact hce) hcv hcl T' rfl X'
    exact ⟨t2, st.trans a1, b1⟩
theorem vx_callf {S SX : Type} {post : UInt32 → S → Prop} {px : SX → Prop} {B : S → State → Prop} {BX : String → SX → State → Prop} {AX : Nat → Prop} (hr : vx_Run p l e R s m args below meth c H locs cells slots mc ms (F0 m pc ls st0) rest (va_Qf post B A1 a) (vx_X px BX AX) free) (hS : va_S A0 H0 H locs) (hA : ∀ q, q < H.size → A1 q → A0 q) (hf : ∀ q, free q → A0 q) (hAX : ∀ q, q < H.size → AX q → A0 q)
    (kx : ∀ (E : String) (ce : Cell) (q9 : Addr) (u : SX) (t : State) (H1 : Heap) (locs1 : List Loc), t.heap = H1 → s.vm.Alike t.vm → px u → BX E u t → H.size ≤ H1.size → (∀ q : Nat, q < H.size → ¬ AX q → H1[q]? = H[q]?) → va_S A0 H0 H1 locs1 → H1[q9]? = some ce → ce.vm = .none → s.vm.findClass E = some ce.cls → vx_W p l e R s m args below meth c H1 locs1 (cells + mc) (slots + ms) Q (F0 m pc ls rest) q9)
    (kk : ∀ (r : UInt32) (u : S) (t : State) (H1 : Heap) (locs1 : List Loc), t.heap = H1 → s.vm.Alike t.vm → post r u → B u t → H.size ≤ H1.size → (∀ q : Nat, q < H.size → ¬ A1 q → H1[q]? = H[q]?) → va_S A0 H0 H1 locs1 → W p l e R s m args below meth c H1 locs1 (cells + mc) (slots + ms) Q (F0 m (pc + 3) ls (.float r :: rest))) : W p l e R s m args below meth c H locs cells slots Q (F0 m pc ls st0) := by
  intro T hT X
  rcases hr T hT X with ⟨v, st₀, t, T', L, h0, X', hL, e1, e2, ⟨⟨r, u, hv, hp, hb⟩, hF⟩, st⟩ | ⟨q, st₀, t, T', L, E, ce, h0, X', hL, e1, e2, ⟨u, hp, hb, hF⟩, hce, hcv, hcl, st⟩
  · cases hv
    obtain ⟨k1, k2, k3⟩ := vx_keep h0 e1 hS hA hf hL hF
    obtain ⟨t2, a1, b1⟩ := kk r u t T'.heap (locs ++ L) e1.symm (by rw [← e2]; exact X'.warmed.alike) hp hb k1 k2 k3 T' rfl X'
    exact ⟨t2, st t2 a1, b1⟩
  · obtain ⟨k1, k2, k3⟩ := vx_keep h0 e1 hS hAX hf hL hF
    obtain ⟨t2, a1, b1⟩ := kx E ce q u t T'.heap (locs ++ L) e1.symm (by rw [← e2]; exact X'.warmed.alike) hp hb k1 k2 k3 (by rw [e1]; exact hce) hcv hcl T' rfl X'
    exact ⟨t2, st.trans a1, b1⟩
theorem vx_calld {S SX : Type} {post : UInt64 → S → Prop} {px : SX → Prop} {B : S → State → Prop} {BX : String → SX → State → Prop} {AX : Nat → Prop} (hr : vx_Run p l e R s m args below meth c H locs cells slots mc ms (F0 m pc ls st0) rest (va_Qd post B A1 a) (vx_X px BX AX) free) (hS : va_S A0 H0 H locs) (hA : ∀ q, q < H.size → A1 q → A0 q) (hf : ∀ q, free q → A0 q) (hAX : ∀ q, q < H.size → AX q → A0 q)
    (kx : ∀ (E : String) (ce : Cell) (q9 : Addr) (u : SX) (t : State) (H1 : Heap) (locs1 : List Loc), t.heap = H1 → s.vm.Alike t.vm → px u → BX E u t → H.size ≤ H1.size → (∀ q : Nat, q < H.size → ¬ AX q → H1[q]? = H[q]?) → va_S A0 H0 H1 locs1 → H1[q9]? = some ce → ce.vm = .none → s.vm.findClass E = some ce.cls → vx_W p l e R s m args below meth c H1 locs1 (cells + mc) (slots + ms) Q (F0 m pc ls rest) q9)
    (kk : ∀ (r : UInt64) (u : S) (t : State) (H1 : Heap) (locs1 : List Loc), t.heap = H1 → s.vm.Alike t.vm → post r u → B u t → H.size ≤ H1.size → (∀ q : Nat, q < H.size → ¬ A1 q → H1[q]? = H[q]?) → va_S A0 H0 H1 locs1 → W p l e R s m args below meth c H1 locs1 (cells + mc) (slots + ms) Q (F0 m (pc + 3) ls (.double r :: rest))) : W p l e R s m args below meth c H locs cells slots Q (F0 m pc ls st0) := by
  intro T hT X
  rcases hr T hT X with ⟨v, st₀, t, T', L, h0, X', hL, e1, e2, ⟨⟨r, u, hv, hp, hb⟩, hF⟩, st⟩ | ⟨q, st₀, t, T', L, E, ce, h0, X', hL, e1, e2, ⟨u, hp, hb, hF⟩, hce, hcv, hcl, st⟩
  · cases hv
    obtain ⟨k1, k2, k3⟩ := vx_keep h0 e1 hS hA hf hL hF
    obtain ⟨t2, a1, b1⟩ := kk r u t T'.heap (locs ++ L) e1.symm (by rw [← e2]; exact X'.warmed.alike) hp hb k1 k2 k3 T' rfl X'
    exact ⟨t2, st t2 a1, b1⟩
  · obtain ⟨k1, k2, k3⟩ := vx_keep h0 e1 hS hAX hf hL hF
    obtain ⟨t2, a1, b1⟩ := kx E ce q u t T'.heap (locs ++ L) e1.symm (by rw [← e2]; exact X'.warmed.alike) hp hb k1 k2 k3 (by rw [e1]; exact hce) hcv hcl T' rfl X'
    exact ⟨t2, st.trans a1, b1⟩
theorem vx_callv {S SX : Type} {post : S → Prop} {px : SX → Prop} {B : S → State → Prop} {BX : String → SX → State → Prop} {AX : Nat → Prop} (hr : vx_Run p l e R s m args below meth c H locs cells slots mc ms (F0 m pc ls st0) rest (va_Qv post B A1 a) (vx_X px BX AX) free) (hS : va_S A0 H0 H locs) (hA : ∀ q, q < H.size → A1 q → A0 q) (hf : ∀ q, free q → A0 q) (hAX : ∀ q, q < H.size → AX q → A0 q)
    (kx : ∀ (E : String) (ce : Cell) (q9 : Addr) (u : SX) (t : State) (H1 : Heap) (locs1 : List Loc), t.heap = H1 → s.vm.Alike t.vm → px u → BX E u t → H.size ≤ H1.size → (∀ q : Nat, q < H.size → ¬ AX q → H1[q]? = H[q]?) → va_S A0 H0 H1 locs1 → H1[q9]? = some ce → ce.vm = .none → s.vm.findClass E = some ce.cls → vx_W p l e R s m args below meth c H1 locs1 (cells + mc) (slots + ms) Q (F0 m pc ls rest) q9)
    (kk : ∀ (u : S) (t : State) (H1 : Heap) (locs1 : List Loc), t.heap = H1 → s.vm.Alike t.vm → post u → B u t → H.size ≤ H1.size → (∀ q : Nat, q < H.size → ¬ A1 q → H1[q]? = H[q]?) → va_S A0 H0 H1 locs1 → W p l e R s m args below meth c H1 locs1 (cells + mc) (slots + ms) Q (F0 m (pc + 3) ls (rest))) : W p l e R s m args below meth c H locs cells slots Q (F0 m pc ls st0) := by
  intro T hT X
  rcases hr T hT X with ⟨v, st₀, t, T', L, h0, X', hL, e1, e2, ⟨⟨u, hv, hp, hb⟩, hF⟩, st⟩ | ⟨q, st₀, t, T', L, E, ce, h0, X', hL, e1, e2, ⟨u, hp, hb, hF⟩, hce, hcv, hcl, st⟩
  · cases hv
    obtain ⟨k1, k2, k3⟩ := vx_keep h0 e1 hS hA hf hL hF
    obtain ⟨t2, a1, b1⟩ := kk u t T'.heap (locs ++ L) e1.symm (by rw [← e2]; exact X'.warmed.alike) hp hb k1 k2 k3 T' rfl X'
    exact ⟨t2, st t2 a1, b1⟩
  · obtain ⟨k1, k2, k3⟩ := vx_keep h0 e1 hS hAX hf hL hF
    obtain ⟨t2, a1, b1⟩ := kx E ce q u t T'.heap (locs ++ L) e1.symm (by rw [← e2]; exact X'.warmed.alike) hp hb k1 k2 k3 (by rw [e1]; exact hce) hcv hcl T' rfl X'
    exact ⟨t2, st.trans a1, b1⟩
/-- caught by the row x of this method's table; the rows ahead don't take it -/
theorem vx_catch {own name : String} {E : String} {ce : Cell} {q : Addr} (hown : s.vm.findClass own = some m.cls) (pre : List ExceptionTableEntry) (x : ExceptionTableEntry) (suf : List ExceptionTableEntry) (hsplit : c.exceptionTable.toList = pre ++ x :: suf)
    (hpass : ∀ z ∈ pre, covers z pc = false ∨ (z.catchType ≠ 0 ∧ ∃ nm : String, (Cond.classLink own z.catchType nm).before args s = true ∧ va_Nc E nm s)) (hx : covers x pc = true) (h0 : x.catchType ≠ 0)
    (hlink : (Cond.classLink own x.catchType name).before args s = true) (hcast : (Cond.castable E name).before args s = true) (hcell : H[q]? = some ce) (hv : ce.vm = .none) (hcl : s.vm.findClass E = some ce.cls)
    (kk : W p l e R s m args below meth c H locs cells slots Q (F0 m x.handlerPc ls [.ref q])) : vx_W p l e R s m args below meth c H locs cells slots Q (F0 m pc ls rest) q := by
  intro T hT X
  have hpl : e.platform.magicAccessors = ({} : Platform).magicAccessors := by rw [X.admits.platform]
  obtain ⟨c3, c4, hc3, hc4, hasg⟩ := Cond.castable_spec hcast
  cases Option.some.inj (hc3.symm.trans hcl)
  obtain ⟨c5, hc5, hcl5⟩ := Cond.classLink_spec hown hlink e.platform hpl
  cases Option.some.inj (hc4.symm.trans hc5)
  obtain ⟨vm', X', st⟩ := X.thenCaughtThrough q (g := F0 m pc ls rest) rfl (Steps.refl _) (by rw [hT]; exact hcell) (by rw [hv]; rfl) (by obtain ⟨k9, h9, -⟩ := Vm.findClass_spec hcl; exact ⟨k9, h9⟩) pre x suf hsplit
    (fun z hz => by
      rcases hpass z hz with h | ⟨hz0, nm, hl1, hn1⟩
      · exact Or.inl h
      · obtain ⟨c6, hc6, hcl6⟩ := Cond.classLink_spec hown hl1 e.platform hpl
        obtain ⟨a8, b8, h1, h2, h3⟩ := hn1
        cases Option.some.inj (h1.symm.trans hcl)
        cases Option.some.inj (h2.symm.trans hc6)
        exact Or.inr ⟨hz0, _, hcl6, h3⟩) hx (Or.inr ⟨h0, c4, hcl5, hasg⟩)
  obtain ⟨t, a1, b1⟩ := kk (T.setVm vm') hT X'
  exact ⟨t, st.trans a1, b1⟩
end Rows
section Ends
variable {p : Program} {l : Launch} {e : Env} {R : Room} {s : State} {m : MethodId} {args : Array Value} {below : List Frame} {meth : Method} {c : Code} {H : Heap} {locs : List Loc} {cells slots : Nat} {Q : State → Prop}
variable {mc ms : Nat} {free : Addr → Prop} {A0 A1 : Nat → Prop} {H0 : Heap} {a : Array Value} {ls : Array Slot} {st0 rest : List Value}
variable {Qc : Array Value → State → Outcome → State → Prop} {XC : String → State → State → Prop}
/-- what a body that may throw owes at its end -/
def vx_MQ (below : List Frame) (Qc : Array Value → State → Outcome → State → Prop) (XC : String → State → State → Prop) (a : Array Value) (s : State) (mc ms : Nat) (free : Addr → Prop) : State → Prop := fun t =>
  ∃ o, t.status = .running ∧ Ended t below o ∧ vx_Q Qc XC mc ms free a s o t
theorem vx_ret {g : JFrame} {mc ms : Nat} (k : W p l e R s m args below meth c H locs cells slots (MQ below Qc args s mc ms free) g) : W p l e R s m args below meth c H locs cells slots (vx_MQ below Qc XC args s mc ms free) g := by
  intro T hT X
  obtain ⟨t, a1, o, b1, b2, b3, b4⟩ := k T hT X
  exact ⟨t, a1, o, b1, b2, Or.inl ⟨b3, b4⟩⟩
/-- not caught here: it goes on to the caller -/
theorem vx_widen {g : JFrame} {q : Addr} {k n : Nat} (h1 : cells ≤ k) (h2 : slots ≤ n) (kk : vx_W p l e R s m args below meth c H locs k n Q g q) : vx_W p l e R s m args below meth c H locs cells slots Q g q := fun T hT X => kk T hT (stand_widen X h1 h2)
theorem vx_out {pc : Nat} {E : String} {ce : Cell} {q : Addr} {mc ms : Nat} (hout : ∀ x ∈ c.exceptionTable.toList, covers x pc = false) (hlocks : meth.locks = false) (hcell : H[q]? = some ce) (hv : ce.vm = .none) (hcl : s.vm.findClass E = some ce.cls)
    (hx : ∀ t : State, t.heap = H → s.vm.Alike t.vm → XC E s t) (hf : ∀ z ∈ locs, free z.base) (hc : cells ≤ mc) (hs : slots ≤ ms) :
    vx_W p l e R s m args below meth c H locs cells slots (vx_MQ below Qc XC args s mc ms free) (F0 m pc ls rest) q := by
  intro T hT X
  obtain ⟨st1, hrun, hend, hW, hsm⟩ := X.leaveThrown q (g := F0 m pc ls rest) rfl rfl rfl hout hlocks
  have hcell9 : (T.setFrames (.throwing q :: below)).heap[q]? = some ce := by
    show T.heap[q]? = some ce
    rw [hT]; exact hcell
  exact ⟨_, st1, .threw q, hrun, hend, Or.inr ⟨q, rfl, E, ce, locs, hx _ hT hW.alike, hcell9, hv, hcl, hW, hsm.mono hc hs, hf⟩⟩
theorem vx_frame {U : State} {k n : Nat} (h : s.sameButNew ({ U with vm := s.vm } : State) locs k n) : s.heap.size ≤ U.heap.size ∧ ∀ q : Nat, q < s.heap.size → (∀ z ∈ locs, z.base ≠ q) → U.heap[q]? = s.heap[q]? := by
  obtain ⟨-, h2, -, -, -, h6⟩ := h
  refine ⟨h2, fun q hq hz => ?_⟩
  obtain ⟨c9, e1, e2, e3, e4⟩ := h6 q _ (Array.getElem?_eq_getElem hq)
  have hs : c9.slots = (s.heap[q]).slots := Array.ext_getElem? fun i => e4 i fun hm => hz _ hm rfl
  have h9 : c9 = s.heap[q] := by
    rw [hs] at e2
    exact e2
  have e5 : U.heap[q]? = some c9 := e1
  rw [e5, h9, Array.getElem?_eq_getElem hq]
/-- the words of a throw but the four that speak of the heap -/
def vx_no (w : Cond) : Bool := decide (w ≠ .isRef (.static Bundle.tN "UNASSIGNED_STACK" Bundle.steD)) && decide (w ≠ .isRef (.static Bundle.tN "SUPPRESSED_SENTINEL" Bundle.listD)) && decide (w ≠ .laysStatic Bundle.tN "UNASSIGNED_STACK" Bundle.steD) && decide (w ≠ .laysStatic Bundle.tN "SUPPRESSED_SENTINEL" Bundle.listD)
def vx_at0 (own : String) (ic : Nat) (X : String) (names : List String) : List Cond := (Bundle.ownAtoms0 own ic X names).filter vx_no
def vx_atS (own : String) (ic : Nat) (X : String) (names : List String) : List Cond := (Bundle.ownAtoms own ic X names).filter vx_no
/-- a word that the tables alone decide, or a good one -/
def vx_ot (w : Cond) : Bool := w.onTables || goodWord w
theorem vx_ot_at {args a' : Array Value} {s U : State} {w : Cond} (hW : s.WarmedH U.vm) (hvm : s.vm = U.vm) (hg : vx_ot w = true) (h : w.before args s = true) : w.before a' U = true := by
  simp only [vx_ot, Bool.or_eq_true] at hg
  rcases hg with hg | hg
  · exact va_tabs hg hvm h
  · exact word_at hW (good_of_word hg) h
/-- a list's words: the good ones out of the method's own list, the others by premises of their own -/
theorem vx_hat {args : Array Value} {s : State} {L B : List Cond} (h1 : ∀ w ∈ L.filter goodWord, w.before args s = true) (h2 : ∀ w ∈ L.filter (fun w => !goodWord w), w ∈ B) (h3 : ∀ w ∈ B, w.before args s = true) : ∀ w ∈ L, w.before args s = true := by
  intro w hw
  by_cases g : goodWord w = true
  · exact h1 w (List.mem_filter.mpr ⟨hw, g⟩)
  · refine h3 w (h2 w (List.mem_filter.mpr ⟨hw, ?_⟩))
    show (!goodWord w) = true
    cases hgw : goodWord w
    · rfl
    · exact absurd hgw g
theorem vx_c {args : Array Value} {s : State} {w : Cond} {B : List Cond} (h : w.before args s = true) (t : ∀ w ∈ B, w.before args s = true) : ∀ w' ∈ w :: B, w'.before args s = true := fun w' h' => (List.mem_cons.mp h').elim (fun e => by rw [e]; exact h) (t w')
theorem vx_n {args : Array Value} {s : State} : ∀ w ∈ ([] : List Cond), w.before args s = true := fun _ h => nomatch h
theorem vx_own {args : Array Value} {s : State} {L : List Cond} (h1 : ∀ w ∈ L.filter vx_no, w.before args s = true)
    (hU : (Cond.isRef (.static Bundle.tN "UNASSIGNED_STACK" Bundle.steD)).before args s = true) (hN : (Cond.isRef (.static Bundle.tN "SUPPRESSED_SENTINEL" Bundle.listD)).before args s = true)
    (lU : (Cond.laysStatic Bundle.tN "UNASSIGNED_STACK" Bundle.steD).before args s = true) (lN : (Cond.laysStatic Bundle.tN "SUPPRESSED_SENTINEL" Bundle.listD).before args s = true) : ∀ w ∈ L, w.before args s = true := by
  intro w hw
  by_cases e1 : w = .isRef (.static Bundle.tN "UNASSIGNED_STACK" Bundle.steD)
  · rw [e1]; exact hU
  · by_cases e2 : w = .isRef (.static Bundle.tN "SUPPRESSED_SENTINEL" Bundle.listD)
    · rw [e2]; exact hN
    · by_cases e3 : w = .laysStatic Bundle.tN "UNASSIGNED_STACK" Bundle.steD
      · rw [e3]; exact lU
      · by_cases e4 : w = .laysStatic Bundle.tN "SUPPRESSED_SENTINEL" Bundle.listD
        · rw [e4]; exact lN
        · exact h1 w (List.mem_filter.mpr ⟨hw, by unfold vx_no; rw [decide_eq_true e1, decide_eq_true e2, decide_eq_true e3, decide_eq_true e4]; rfl⟩)
/-- where a static field lies, its class's statics cell in H -/
def vx_L (C n d : String) (A : Nat → Prop) (U : State) (H : Heap) : Prop := ∃ (c : ClassId) (k : Class) (i : Nat) (f : Field) (a : Nat) (cell : Cell), U.vm.findClass C = some c ∧ U.fieldFound? C n d = some (c, k, i, f) ∧ f.isStatic = true ∧ k.statics = some a ∧ H[a]? = some cell ∧ cell.vm.isStatics = true ∧ cell.cls = c ∧ f.slot < cell.slots.size ∧ k.staticTypes[f.slot]? = some f.type ∧ ¬ A a
theorem vx_L.moved {C n d : String} {A : Nat → Prop} {u U : State} {H : Heap} (hvm : u.vm.Alike U.vm) (h : vx_L C n d A u H) : vx_L C n d A U H := by
  obtain ⟨c, k, i, f, a, cell, h1, h2, h3, h4, h5, h6, h7, h8, h9, h10⟩ := h
  obtain ⟨k', hi', he⟩ := State.fieldFound?_setVm hvm h2
  exact ⟨c, k', i, f, a, cell, by rw [hvm.findClass]; exact h1, hi', h3, by rw [he]; exact h4, h5, h6, h7, h8, by rw [he]; exact h9, h10⟩
theorem vx_L.kept {C n d : String} {A : Nat → Prop} {U : State} {H H1 : Heap} (h : vx_L C n d A U H) (hq : ∀ a : Nat, a < H.size → ¬ A a → H1[a]? = H[a]?) : vx_L C n d A U H1 := by
  obtain ⟨c, k, i, f, a, cell, h1, h2, h3, h4, h5, h6, h7, h8, h9, h10⟩ := h
  exact ⟨c, k, i, f, a, cell, h1, h2, h3, h4, by rw [hq a (Array.getElem?_eq_some_iff.mp h5).1 h10]; exact h5, h6, h7, h8, h9, h10⟩
theorem vx_L.narrow {C n d : String} {A B : Nat → Prop} {U : State} {H : Heap} (h : vx_L C n d A U H) (hAB : ∀ q, B q → A q) : vx_L C n d B U H := by
  obtain ⟨c, k, i, f, a, cell, h1, h2, h3, h4, h5, h6, h7, h8, h9, h10⟩ := h
  exact ⟨c, k, i, f, a, cell, h1, h2, h3, h4, h5, h6, h7, h8, h9, fun z => h10 (hAB _ z)⟩
theorem vx_L.word {C n d : String} {A : Nat → Prop} {s : State} {args : Array Value} (h : vx_L C n d A s s.heap) : (Cond.laysStatic C n d).before args s = true := by
  obtain ⟨c, k, i, f, a, cell, h1, h2, h3, h4, h5, h6, h7, h8, h9, -⟩ := h
  show (Cond.laysStatic C n d).holds args s none s [] = true
  exact Cond.laysStatic_of h1 h2 h3 h4 h5 h6 h7 h8 h9
/-- .. and what it holds: null or some reference -/
def vx_Zq (C n d : String) (A : Nat → Prop) (U : State) (H : Heap) : Prop := va_Zq C n d A U H ∧ vx_L C n d A U H
theorem vx_Zq.moved {C n d : String} {A : Nat → Prop} {u U : State} {H : Heap} (hvm : u.vm.Alike U.vm) (h : vx_Zq C n d A u H) : vx_Zq C n d A U H := ⟨va_Zq.moved hvm h.1, vx_L.moved hvm h.2⟩
theorem vx_Zq.kept {C n d : String} {A : Nat → Prop} {U : State} {H H1 : Heap} (h : vx_Zq C n d A U H) (hq : ∀ a : Nat, a < H.size → ¬ A a → H1[a]? = H[a]?) : vx_Zq C n d A U H1 := ⟨va_Zq.kept h.1 hq, vx_L.kept h.2 hq⟩
theorem vx_Zq.narrow {C n d : String} {A B : Nat → Prop} {U : State} {H : Heap} (h : vx_Zq C n d A U H) (hAB : ∀ q, B q → A q) : vx_Zq C n d B U H := ⟨va_Zq.narrow h.1 hAB, vx_L.narrow h.2 hAB⟩
theorem vx_Zqof {args : Array Value} {s : State} {C n d : String} {A : Nat → Prop} (hl : (Cond.laysStatic C n d).before args s = true) (hini : (Cond.initialized C).before args s = true) (h : (Cond.isRef (.static C n d)).before args s = true) (hA : ∀ a : Nat, a < s.heap.size → ¬ A a) : vx_Zq C n d A s s.heap := by
  refine ⟨va_Zqof hl hini h hA, ?_⟩
  obtain ⟨c, k, i, f, a, cell, h1, h2, h3, h4, h5, h6, h7, h8, h9⟩ := Cond.laysStatic_spec hl
  exact ⟨c, k, i, f, a, cell, h1, h2, h3, h4, h5, h6, h7, h8, h9, hA a (Array.getElem?_eq_some_iff.mp h5).1⟩
theorem vx_isRef {C n d : String} {v : Value} {A : Nat → Prop} {s : State} {args : Array Value} (h : va_Z C n d v A s s.heap) (hv : v.isRef = true) : (Cond.isRef (.static C n d)).before args s = true := by
  obtain ⟨cf, kf, fi, f, a, cell, h1, h2, h3, h4, h5, h6, h7, -⟩ := h
  have he : (Term.static C n d).eval args s none [] s = some v := by
    simp [Term.eval, State.fieldNamed?, h1, h2, h4, h5, h6, h7]
  simp only [Cond.before, Cond.holds, Cond.value, he]
  cases v <;> simp_all [Value.isRef]
theorem vx_isRefq {C n d : String} {A : Nat → Prop} {s : State} {args : Array Value} (h : va_Zq C n d A s s.heap) : (Cond.isRef (.static C n d)).before args s = true := by
  rcases h with h | ⟨t, h⟩
  · exact vx_isRef h rfl
  · exact vx_isRef h rfl
/-- the same frame, seen from here: as if the method were called anew in this heap -/
theorem vx_rebase {T : State} (X : Stand p l e R s m args below meth c T locs cells slots) {R' : Room} (hf : R'.frames ≤ R.frames) (hl : R'.locals ≤ R.locals) (hc : cells + R'.cells ≤ R.cells) (hs : slots + R'.slots ≤ R.slots) :
    Stand p l e R' ((T.setVm s.vm).setFrames (.invoking m args :: below)) m args below meth c T [] 0 0 := by
  have htop : (T.setVm s.vm).topJava?.isSome := X.here.top
  have hF : ((T.setVm s.vm).setFrames (.invoking m args :: below)).frames = .invoking m args :: below := State.frames_setFrames _ (State.cur_lt_of_top htop)
  obtain ⟨g₀, hg0⟩ := Option.isSome_iff_exists.mp htop
  obtain ⟨r, hr⟩ := State.topJava?_eq_some.mp hg0
  have hl9 : e.platform.stackLimits (T.setVm s.vm).me = e.platform.stackLimits s.me := X.limits
  have hb9 : (T.setVm s.vm).me.stackBytes = s.me.stackBytes := X.bytes
  refine ⟨X.admits, X.cas, X.clock, hF, ?_, X.hears, X.method, X.code, X.here, X.tail, X.warmed, ?_, ?_, ?_⟩
  · have h := X.room
    have hU : ((T.setVm s.vm).setFrames (.invoking m args :: below)).localsInUse = s.localsInUse := by
      rw [State.localsInUse_invoking hF (meth := meth) (c := c) X.method X.code, State.localsInUse_invoking X.frames X.method X.code]
    simp only [State.hasRoom, Bool.and_eq_true, decide_eq_true_eq] at h ⊢
    obtain ⟨⟨⟨⟨h1, h2, h3, h4, h5, h6⟩, h7⟩, h8⟩, h9⟩ := h
    rw [X.frames, List.length_cons] at h2 h3
    have q1 := X.heapSize
    have q2 := X.used
    simp only [hF, hU, List.length_cons, State.stackLimits_setFrames, State.stackBytes_setFrames, hl9, hb9]
    refine ⟨⟨⟨⟨by omega, by omega, by omega, by omega, by omega, h6⟩, ?_⟩, ?_⟩, X.book⟩
    · show T.heap.size + R'.cells ≤ e.platform.maxCells
      omega
    · show T.slotsUsed + R'.slots ≤ e.platform.maxSlots
      omega
  · rw [State.stackLimits_setFrames]; rfl
  · rw [State.stackBytes_setFrames]; rfl
  · refine ⟨?_, Nat.le_refl _, Nat.le_refl _, ?_, ?_, fun a c9 h9 => ⟨c9, h9, rfl, rfl, fun _ _ => rfl⟩⟩
    · obtain ⟨t, ht, -⟩ := State.frames_cons hr
      show T.setVm s.vm = { ((T.setVm s.vm).setFrames (.invoking m args :: below)).setFrames (T.setVm s.vm).frames with heap := T.heap, slotsUsed := T.slotsUsed }
      rw [State.setFrames_setFrames, State.setFrames_self ht]
      rfl
    · show T.slotsUsed = T.slotsUsed + ((T.heap.toList.drop T.heap.size).map (·.slots.size)).sum
      rw [List.drop_eq_nil_of_le (Nat.le_of_eq Array.length_toList)]
      rfl
    · show ((T.heap.toList.drop T.heap.size).map (·.slots.size)).sum ≤ 0
      rw [List.drop_eq_nil_of_le (Nat.le_of_eq Array.length_toList)]
      exact Nat.le_refl _
/-- 'throw new E()': new; dup; invokespecial; athrow -/
theorem vx_throw0 {cc : ByteArray} {pc : Nat} (hexec : p.tables.exec = Jvm.exec) (hb : c.code = cc) (hl : l.stackTraces = false) {own cls : String} {names : List String} {ik ic mc ms : Nat} {A : Nat → Prop}
    (hown : s.vm.findClass own = some m.cls) (hcls : Bundle.fit cls = true) (hnames : ∀ n ∈ names, Bundle.fit n = true)
    (hk : (Cond.classLink own ik cls).before args s = true) (hini : (Cond.initialized cls).before args s = true) (hat : ∀ w ∈ vx_at0 own ic cls names, w.before args s = true)
    (hgood : ∀ w ∈ Cond.classLink own ik cls :: Cond.initialized cls :: vx_at0 own ic cls names, vx_ot w = true)
    (hU : vx_Zq Bundle.tN "UNASSIGNED_STACK" Bundle.steD A s s.heap) (hN : vx_Zq Bundle.tN "SUPPRESSED_SENTINEL" Bundle.listD A s s.heap) (hS : va_S A s.heap H locs) (hsize : ls.size = c.maxLocals)
    (d0 : decode cc pc = .ok (.new ik, 3)) (d3 : decode cc (pc + 3) = .ok (.dup, 1)) (d4 : decode cc (pc + 4) = .ok (.invokespecial ic, 3)) (d7 : decode cc (pc + 7) = .ok (.athrow, 1))
    (hout : ∀ x ∈ c.exceptionTable.toList, covers x (pc + 7) = false)
    (hRframes : names.length + 3 < R.frames) (hRlocals : (rest.map fun v => v.category).sum + (13 * (names.length + 1) + 42) ≤ R.locals) (hRcells : cells + 1 ≤ R.cells) (hRslots : slots + 6 ≤ R.slots) (hlocks : meth.locks = false)
    (hx : ∀ t : State, s.vm.Alike t.vm → H.size ≤ t.heap.size → (∀ q : Nat, q < H.size → t.heap[q]? = H[q]?) → XC cls s t)
    (hf : ∀ z ∈ locs, free z.base) (hc : cells + 1 ≤ mc) (hs : slots + 6 ≤ ms) :
    W p l e R s m args below meth c H locs cells slots (vx_MQ below Qc XC args s mc ms free) (F0 m pc ls rest) := by
  intro T hT X
  have htr : e.platform.stackTraces = false := (show e.platform.stackTraces = l.stackTraces by rw [X.admits.platform]).trans hl
  have Y := vx_rebase X (R' := { frames := R.frames, locals := R.locals, cells := 1, slots := 6 }) (Nat.le_refl _) (Nat.le_refl _) hRcells hRslots
  obtain ⟨s', hA⟩ : ∃ z, z = (T.setVm s.vm).setFrames (.invoking m args :: below) := ⟨_, rfl⟩
  rw [← hA] at Y
  have hvm : s'.vm = s.vm := by rw [hA]; rfl
  have hhp : s'.heap = H := by rw [hA]; exact hT
  have hW0 : s.WarmedH s'.vm := by rw [hvm]; exact State.WarmedH.refl s
  have hat' : ∀ w ∈ vx_at0 own ic cls names, w.before args s' = true := fun w hw => vx_ot_at hW0 hvm.symm (hgood w (List.mem_cons_of_mem _ (List.mem_cons_of_mem _ hw))) (hat w hw)
  have hk' : (Cond.classLink own ik cls).before args s' = true := vx_ot_at hW0 hvm.symm (hgood _ List.mem_cons_self) hk
  have hini' : (Cond.initialized cls).before args s' = true := vx_ot_at hW0 hvm.symm (hgood _ (List.mem_cons_of_mem _ List.mem_cons_self)) hini
  have hU' : vx_Zq Bundle.tN "UNASSIGNED_STACK" Bundle.steD A s' s'.heap := by rw [hhp]; exact vx_Zq.moved hW0.alike (hU.kept hS.2.1)
  have hN' : vx_Zq Bundle.tN "SUPPRESSED_SENTINEL" Bundle.listD A s' s'.heap := by rw [hhp]; exact vx_Zq.moved hW0.alike (hN.kept hS.2.1)
  have h : ∀ w ∈ Bundle.ownAtoms0 own ic cls names, w.before args s' = true := vx_own hat' (vx_isRefq hU'.1) (vx_isRefq hN'.1) hU'.2.word hN'.2.word
  have hown' : s'.vm.findClass own = some m.cls := by rw [hvm]; exact hown
  have hins : (Cond.instantiable cls 6).before args s' = true := h _ (by simp [Bundle.ownAtoms0])
  obtain ⟨vm₁, cX, kX, hfX, hkX, -, -, X₁, st1⟩ := Y.newCold hexec (own := own) (C := cls) (index := ik) (n := 6) hown' hk' hins hini'
    (g := F0 m pc ls rest) rfl (by rw [hb]; exact d0) (Nat.le_refl _) (Nat.le_refl _)
  generalize hT1 : (T.setVm vm₁).pushCell { cls := cX, slots := kX.instanceTypes.map defaultValue, vm := .none } = T1 at X₁ st1
  have hcat : (Value.ref T.heap.size).category = 1 := rfl
  have hcellA : T1.heap[T.heap.size]? = some (freshCell cX kX) := by rw [← hT1]; exact State.heap_pushCell_size _ _
  have d3' : decode c.code (pc + 3) = .ok (.dup, 1) := by rw [hb]; exact d3
  obtain ⟨U, hsteps, hrun, hend, hW, hsame, ce, hce, hO⟩ := X₁.ctorThrow0 hexec htr (own := own) (cls := cls) (names := names) (ic := ic) hown' hcls hnames h (fun x hx => nomatch hx) hfX hkX hcellA (by rw [hhp, hT]; exact Nat.le_refl _)
    (g := { method := m, pc := pc + 4, locals := ls, stack := .ref T.heap.size :: .ref T.heap.size :: rest, locked := none }) rfl hsize rfl rfl (rest := rest) rfl
    (by rw [hb]; exact d4) (by rw [hb]; exact d7) hout hRframes (by simp only [List.map_cons, List.sum_cons, hcat]; omega) hlocks
  obtain ⟨f1, f2⟩ := vx_frame hsame
  rw [hhp] at f1 f2
  have hWs : s.WarmedH U.vm := State.WarmedH.trans hW0 hW
  have hcl : s.vm.findClass cls = some ce.cls := by
    have h9 := hO.cls
    rw [hvm] at h9
    exact h9
  have hall : s.sameButNew ({ U with vm := s.vm } : State) locs mc ms := by
    subst hA
    obtain ⟨e1, e2⟩ := hsame
    rw [State.setFrames_setFrames] at e1
    have h2 : (T.setVm s.vm).sameButNew ({ U with vm := s.vm } : State) [] (0 + 1) (0 + 6) := ⟨e1, e2⟩
    have h3 := X.same.trans h2
    rw [List.append_nil] at h3
    exact h3.mono hc hs
  refine ⟨U, ?_, .threw T.heap.size, hrun, hend, Or.inr ⟨T.heap.size, rfl, cls, ce, locs, hx U hWs.alike f1 (fun q hq => f2 q hq (fun z hz => nomatch hz)), hce, hO.vm, hcl, hWs, hall, hf⟩⟩
  refine st1 _ ?_
  show Steps p.tables e below (T1.setTop { method := m, pc := pc + 3, locals := ls, stack := .ref T.heap.size :: rest, locked := none }) _
  jvm_step X₁.here [X₁.here.top, hexec, d3', Value.category]
  exact hsteps
/-- 'throw new E("text")': new; dup; ldc; invokespecial; athrow -/
theorem vx_throwS {cc : ByteArray} {pc : Nat} (hexec : p.tables.exec = Jvm.exec) (hb : c.code = cc) (hl : l.stackTraces = false) {own cls text : String} {names : List String} {ik is ic mc ms sa : Nat} {A : Nat → Prop}
    (hown : s.vm.findClass own = some m.cls) (hcls : Bundle.fit cls = true) (hnames : ∀ n ∈ names, Bundle.fit n = true)
    (hk : (Cond.classLink own ik cls).before args s = true) (hini : (Cond.initialized cls).before args s = true) (hstr : vk_R own is text sa s) (hat : ∀ w ∈ vx_atS own ic cls names, w.before args s = true)
    (hgood : ∀ w ∈ Cond.classLink own ik cls :: Cond.initialized cls :: vx_atS own ic cls names, vx_ot w = true)
    (hU : vx_Zq Bundle.tN "UNASSIGNED_STACK" Bundle.steD A s s.heap) (hN : vx_Zq Bundle.tN "SUPPRESSED_SENTINEL" Bundle.listD A s s.heap) (hS : va_S A s.heap H locs) (hsize : ls.size = c.maxLocals)
    (d0 : decode cc pc = .ok (.new ik, 3)) (d3 : decode cc (pc + 3) = .ok (.dup, 1)) (d4 : decode cc (pc + 4) = .ok (.ldc is, 2)) (d6 : decode cc (pc + 6) = .ok (.invokespecial ic, 3)) (d9 : decode cc (pc + 9) = .ok (.athrow, 1))
    (hout : ∀ x ∈ c.exceptionTable.toList, covers x (pc + 9) = false)
    (hRframes : names.length + 3 < R.frames) (hRlocals : (rest.map fun v => v.category).sum + (13 * (names.length + 1) + 43) ≤ R.locals) (hRcells : cells + 1 ≤ R.cells) (hRslots : slots + 6 ≤ R.slots) (hlocks : meth.locks = false)
    (hx : ∀ t : State, s.vm.Alike t.vm → H.size ≤ t.heap.size → (∀ q : Nat, q < H.size → t.heap[q]? = H[q]?) → XC cls s t)
    (hf : ∀ z ∈ locs, free z.base) (hc : cells + 1 ≤ mc) (hs : slots + 6 ≤ ms) :
    W p l e R s m args below meth c H locs cells slots (vx_MQ below Qc XC args s mc ms free) (F0 m pc ls rest) := by
  intro T hT X
  have htr : e.platform.stackTraces = false := (show e.platform.stackTraces = l.stackTraces by rw [X.admits.platform]).trans hl
  have Y := vx_rebase X (R' := { frames := R.frames, locals := R.locals, cells := 1, slots := 6 }) (Nat.le_refl _) (Nat.le_refl _) hRcells hRslots
  obtain ⟨s', hA⟩ : ∃ z, z = (T.setVm s.vm).setFrames (.invoking m args :: below) := ⟨_, rfl⟩
  rw [← hA] at Y
  have hvm : s'.vm = s.vm := by rw [hA]; rfl
  have hhp : s'.heap = H := by rw [hA]; exact hT
  have hW0 : s.WarmedH s'.vm := by rw [hvm]; exact State.WarmedH.refl s
  have hat' : ∀ w ∈ vx_atS own ic cls names, w.before args s' = true := fun w hw => vx_ot_at hW0 hvm.symm (hgood w (List.mem_cons_of_mem _ (List.mem_cons_of_mem _ hw))) (hat w hw)
  have hk' : (Cond.classLink own ik cls).before args s' = true := vx_ot_at hW0 hvm.symm (hgood _ List.mem_cons_self) hk
  have hini' : (Cond.initialized cls).before args s' = true := vx_ot_at hW0 hvm.symm (hgood _ (List.mem_cons_of_mem _ List.mem_cons_self)) hini
  have hU' : vx_Zq Bundle.tN "UNASSIGNED_STACK" Bundle.steD A s' s'.heap := by rw [hhp]; exact vx_Zq.moved hW0.alike (hU.kept hS.2.1)
  have hN' : vx_Zq Bundle.tN "SUPPRESSED_SENTINEL" Bundle.listD A s' s'.heap := by rw [hhp]; exact vx_Zq.moved hW0.alike (hN.kept hS.2.1)
  have h : ∀ w ∈ Bundle.ownAtoms own ic cls names, w.before args s' = true := vx_own hat' (vx_isRefq hU'.1) (vx_isRefq hN'.1) hU'.2.word hN'.2.word
  have hown' : s'.vm.findClass own = some m.cls := by rw [hvm]; exact hown
  have hins : (Cond.instantiable cls 6).before args s' = true := h _ (by simp [Bundle.ownAtoms])
  obtain ⟨vm₁, cX, kX, hfX, hkX, -, -, X₁, st1⟩ := Y.newCold hexec (own := own) (C := cls) (index := ik) (n := 6) hown' hk' hins hini'
    (g := F0 m pc ls rest) rfl (by rw [hb]; exact d0) (Nat.le_refl _) (Nat.le_refl _)
  generalize hT1 : (T.setVm vm₁).pushCell { cls := cX, slots := kX.instanceTypes.map defaultValue, vm := .none } = T1 at X₁ st1
  have hcat : (Value.ref T.heap.size).category = 1 := rfl
  have hcellA : T1.heap[T.heap.size]? = some (freshCell cX kX) := by rw [← hT1]; exact State.heap_pushCell_size _ _
  have d3' : decode c.code (pc + 3) = .ok (.dup, 1) := by rw [hb]; exact d3
  have d4' : decode c.code (pc + 4) = .ok (.ldc is, 2) := by rw [hb]; exact d4
  have hstr' : vk_R own is text sa s' := vk_R.warm hW0 hstr
  obtain ⟨U, hsteps, hrun, hend, hW, hsame, ce, hce, hO⟩ := X₁.ctorThrowS hexec htr (own := own) (cls := cls) (names := names) (ic := ic) hown' hcls hnames h (fun x hx => nomatch hx) hfX hkX hcellA (by rw [hhp, hT]; exact Nat.le_refl _) (msg := .ref sa) rfl
    (g := { method := m, pc := pc + 6, locals := ls, stack := .ref sa :: .ref T.heap.size :: .ref T.heap.size :: rest, locked := none }) rfl hsize rfl rfl (rest := rest) rfl
    (by rw [hb]; exact d6) (by rw [hb]; exact d9) hout hRframes (by simp only [List.map_cons, List.sum_cons, hcat]; omega) hlocks
  obtain ⟨f1, f2⟩ := vx_frame hsame
  rw [hhp] at f1 f2
  have hWs : s.WarmedH U.vm := State.WarmedH.trans hW0 hW
  have hcl : s.vm.findClass cls = some ce.cls := by
    have h9 := hO.cls
    rw [hvm] at h9
    exact h9
  have hall : s.sameButNew ({ U with vm := s.vm } : State) locs mc ms := by
    subst hA
    obtain ⟨e1, e2⟩ := hsame
    rw [State.setFrames_setFrames] at e1
    have h2 : (T.setVm s.vm).sameButNew ({ U with vm := s.vm } : State) [] (0 + 1) (0 + 6) := ⟨e1, e2⟩
    have h3 := X.same.trans h2
    rw [List.append_nil] at h3
    exact h3.mono hc hs
  refine ⟨U, ?_, .threw T.heap.size, hrun, hend, Or.inr ⟨T.heap.size, rfl, cls, ce, locs, hx U hWs.alike f1 (fun q hq => f2 q hq (fun z hz => nomatch hz)), hce, hO.vm, hcl, hWs, hall, hf⟩⟩
  refine st1 _ ?_
  show Steps p.tables e below (T1.setTop { method := m, pc := pc + 3, locals := ls, stack := .ref T.heap.size :: rest, locked := none }) _
  jvm_step X₁.here [X₁.here.top, hexec, d3', Value.category]
  exact X₁.ldcString hexec (own := own) (text := text) (index := is) (a := sa) hown' hstr'.1 hstr'.2
    (g := { method := m, pc := pc + 4, locals := ls, stack := .ref T.heap.size :: .ref T.heap.size :: rest, locked := none }) rfl d4' _ hsteps
/-- 'throw new E("text")', the text by a wide index -/
theorem vx_throwSW {cc : ByteArray} {pc : Nat} (hexec : p.tables.exec = Jvm.exec) (hb : c.code = cc) (hl : l.stackTraces = false) {own cls text : String} {names : List String} {ik is ic mc ms sa : Nat} {A : Nat → Prop}
    (hown : s.vm.findClass own = some m.cls) (hcls : Bundle.fit cls = true) (hnames : ∀ n ∈ names, Bundle.fit n = true)
    (hk : (Cond.classLink own ik cls).before args s = true) (hini : (Cond.initialized cls).before args s = true) (hstr : vk_R own is text sa s) (hat : ∀ w ∈ vx_atS own ic cls names, w.before args s = true)
    (hgood : ∀ w ∈ Cond.classLink own ik cls :: Cond.initialized cls :: vx_atS own ic cls names, vx_ot w = true)
    (hU : vx_Zq Bundle.tN "UNASSIGNED_STACK" Bundle.steD A s s.heap) (hN : vx_Zq Bundle.tN "SUPPRESSED_SENTINEL" Bundle.listD A s s.heap) (hS : va_S A s.heap H locs) (hsize : ls.size = c.maxLocals)
    (d0 : decode cc pc = .ok (.new ik, 3)) (d3 : decode cc (pc + 3) = .ok (.dup, 1)) (d4 : decode cc (pc + 4) = .ok (.ldc_w is, 3)) (d7 : decode cc (pc + 7) = .ok (.invokespecial ic, 3)) (d10 : decode cc (pc + 10) = .ok (.athrow, 1))
    (hout : ∀ x ∈ c.exceptionTable.toList, covers x (pc + 10) = false)
    (hRframes : names.length + 3 < R.frames) (hRlocals : (rest.map fun v => v.category).sum + (13 * (names.length + 1) + 43) ≤ R.locals) (hRcells : cells + 1 ≤ R.cells) (hRslots : slots + 6 ≤ R.slots) (hlocks : meth.locks = false)
    (hx : ∀ t : State, s.vm.Alike t.vm → H.size ≤ t.heap.size → (∀ q : Nat, q < H.size → t.heap[q]? = H[q]?) → XC cls s t)
    (hf : ∀ z ∈ locs, free z.base) (hc : cells + 1 ≤ mc) (hs : slots + 6 ≤ ms) :
    W p l e R s m args below meth c H locs cells slots (vx_MQ below Qc XC args s mc ms free) (F0 m pc ls rest) := by
  intro T hT X
  have htr : e.platform.stackTraces = false := (show e.platform.stackTraces = l.stackTraces by rw [X.admits.platform]).trans hl
  have Y := vx_rebase X (R' := { frames := R.frames, locals := R.locals, cells := 1, slots := 6 }) (Nat.le_refl _) (Nat.le_refl _) hRcells hRslots
  obtain ⟨s', hA⟩ : ∃ z, z = (T.setVm s.vm).setFrames (.invoking m args :: below) := ⟨_, rfl⟩
  rw [← hA] at Y
  have hvm : s'.vm = s.vm := by rw [hA]; rfl
  have hhp : s'.heap = H := by rw [hA]; exact hT
  have hW0 : s.WarmedH s'.vm := by rw [hvm]; exact State.WarmedH.refl s
  have hat' : ∀ w ∈ vx_atS own ic cls names, w.before args s' = true := fun w hw => vx_ot_at hW0 hvm.symm (hgood w (List.mem_cons_of_mem _ (List.mem_cons_of_mem _ hw))) (hat w hw)
  have hk' : (Cond.classLink own ik cls).before args s' = true := vx_ot_at hW0 hvm.symm (hgood _ List.mem_cons_self) hk
  have hini' : (Cond.initialized cls).before args s' = true := vx_ot_at hW0 hvm.symm (hgood _ (List.mem_cons_of_mem _ List.mem_cons_self)) hini
  have hU' : vx_Zq Bundle.tN "UNASSIGNED_STACK" Bundle.steD A s' s'.heap := by rw [hhp]; exact vx_Zq.moved hW0.alike (hU.kept hS.2.1)
  have hN' : vx_Zq Bundle.tN "SUPPRESSED_SENTINEL" Bundle.listD A s' s'.heap := by rw [hhp]; exact vx_Zq.moved hW0.alike (hN.kept hS.2.1)
  have h : ∀ w ∈ Bundle.ownAtoms own ic cls names, w.before args s' = true := vx_own hat' (vx_isRefq hU'.1) (vx_isRefq hN'.1) hU'.2.word hN'.2.word
  have hown' : s'.vm.findClass own = some m.cls := by rw [hvm]; exact hown
  have hins : (Cond.instantiable cls 6).before args s' = true := h _ (by simp [Bundle.ownAtoms])
  obtain ⟨vm₁, cX, kX, hfX, hkX, -, -, X₁, st1⟩ := Y.newCold hexec (own := own) (C := cls) (index := ik) (n := 6) hown' hk' hins hini'
    (g := F0 m pc ls rest) rfl (by rw [hb]; exact d0) (Nat.le_refl _) (Nat.le_refl _)
  generalize hT1 : (T.setVm vm₁).pushCell { cls := cX, slots := kX.instanceTypes.map defaultValue, vm := .none } = T1 at X₁ st1
  have hcat : (Value.ref T.heap.size).category = 1 := rfl
  have hcellA : T1.heap[T.heap.size]? = some (freshCell cX kX) := by rw [← hT1]; exact State.heap_pushCell_size _ _
  have d3' : decode c.code (pc + 3) = .ok (.dup, 1) := by rw [hb]; exact d3
  have d4' : decode c.code (pc + 4) = .ok (.ldc_w is, 3) := by rw [hb]; exact d4
  have hstr' : vk_R own is text sa s' := vk_R.warm hW0 hstr
  obtain ⟨U, hsteps, hrun, hend, hW, hsame, ce, hce, hO⟩ := X₁.ctorThrowS hexec htr (own := own) (cls := cls) (names := names) (ic := ic) hown' hcls hnames h (fun x hx => nomatch hx) hfX hkX hcellA (by rw [hhp, hT]; exact Nat.le_refl _) (msg := .ref sa) rfl
    (g := { method := m, pc := pc + 7, locals := ls, stack := .ref sa :: .ref T.heap.size :: .ref T.heap.size :: rest, locked := none }) rfl hsize rfl rfl (rest := rest) rfl
    (by rw [hb]; exact d7) (by rw [hb]; exact d10) hout hRframes (by simp only [List.map_cons, List.sum_cons, hcat]; omega) hlocks
  obtain ⟨f1, f2⟩ := vx_frame hsame
  rw [hhp] at f1 f2
  have hWs : s.WarmedH U.vm := State.WarmedH.trans hW0 hW
  have hcl : s.vm.findClass cls = some ce.cls := by
    have h9 := hO.cls
    rw [hvm] at h9
    exact h9
  have hall : s.sameButNew ({ U with vm := s.vm } : State) locs mc ms := by
    subst hA
    obtain ⟨e1, e2⟩ := hsame
    rw [State.setFrames_setFrames] at e1
    have h2 : (T.setVm s.vm).sameButNew ({ U with vm := s.vm } : State) [] (0 + 1) (0 + 6) := ⟨e1, e2⟩
    have h3 := X.same.trans h2
    rw [List.append_nil] at h3
    exact h3.mono hc hs
  refine ⟨U, ?_, .threw T.heap.size, hrun, hend, Or.inr ⟨T.heap.size, rfl, cls, ce, locs, hx U hWs.alike f1 (fun q hq => f2 q hq (fun z hz => nomatch hz)), hce, hO.vm, hcl, hWs, hall, hf⟩⟩
  refine st1 _ ?_
  show Steps p.tables e below (T1.setTop { method := m, pc := pc + 3, locals := ls, stack := .ref T.heap.size :: rest, locked := none }) _
  jvm_step X₁.here [X₁.here.top, hexec, d3', Value.category]
  exact X₁.ldcStringW hexec (own := own) (text := text) (index := is) (a := sa) hown' hstr'.1 hstr'.2
    (g := { method := m, pc := pc + 4, locals := ls, stack := .ref T.heap.size :: .ref T.heap.size :: rest, locked := none }) rfl d4' _ hsteps
end Ends
section Bodies
variable {l : Launch}
theorem vx_ofW {y : MethodName} {ws ws' : List Cond} {rm : Room} {Pc : Array Value → State → Prop} {Qc : Array Value → State → Outcome → State → Prop} {XC : String → State → State → Prop} {mc ms : Nat} {free : Addr → Prop} {cc : ByteArray} {maxL : Nat} {ret : Option FieldType}
    (hy : plainName y.cls = true) (hw : ws = Cond.code y cc maxL ret :: ws')
    (body : ∀ p e s m args below meth c s₁, BodyLoose p l y (headSpec ws rm) cc maxL ret e s m args below meth c s₁ → c.maxLocals = maxL → (∀ x ∈ c.exceptionTable.toList, False) → Pc args s →
      W p l e (headSpec ws rm).room s m args below meth c s.heap [] 0 0 (vx_MQ below Qc XC args s mc ms free) (entryFrame m args maxL)) : vx_Met l y ws rm Pc Qc XC mc ms free := by
  refine MetFree.of_bodyS (code := cc) (maxLocals := maxL) (ret := ret) hy ?_ ?_
  · intro args s m h hn
    obtain ⟨meth, c, h1, h2, h3, h4, h5, h6, -, -⟩ := Cond.code_spec hn (atoms_spec (ws := ws) h _ (by rw [hw]; exact List.mem_cons_self))
    exact ⟨meth, c, h1, h2, h3, h4, h5, h6⟩
  · intro p e s m args below meth c s₁ B hml hP _
    have hh0 : s₁.heap = s.heap := by rw [B.state]; rfl
    have ht : ∀ x ∈ c.exceptionTable.toList, False := by
      obtain ⟨meth9, c9, h1, h2, -, -, -, -, h7, -⟩ := Cond.code_spec B.named (atoms_spec (ws := ws) B.pre _ (by rw [hw]; exact List.mem_cons_self))
      cases Option.some.inj (h1.symm.trans B.method)
      cases Option.some.inj (h2.symm.trans (Stand.of_body B).code)
      intro x hx
      rw [Array.isEmpty_iff.mp h7] at hx
      cases hx
    obtain ⟨t, a1, o, b1, b2, b3⟩ := body p e s m args below meth c s₁ B hml ht hP s₁ hh0 (Stand.of_body B)
    exact ⟨t, o, a1, b1, b2, b3⟩
/-- the table of a body with handlers -/
theorem vx_table {p : Program} {x y : MethodName} {S : Spec} {cc bytes : ByteArray} {maxL maxL' : Nat} {ret ret' : Option FieldType} {e : Env} {s s₁ : State} {m : MethodId} {args : Array Value} {below : List Frame} {meth : Method} {c : Code} {hh : List (Nat × Nat × Nat × Nat)}
    (B : BodyLoose p l y S cc maxL ret e s m args below meth c s₁) (h : (Cond.codeWith y bytes maxL' ret' hh).before args s = true) : c.exceptionTable.toList = tableOf hh := by
  obtain ⟨m9, meth9, c9, hn9, h1, h2, -, -, h6, -⟩ := Cond.codeWith_spec h
  cases Option.some.inj (hn9.symm.trans B.named)
  cases Option.some.inj (h1.symm.trans B.method)
  cases Option.some.inj (h2.symm.trans (Stand.of_body B).code)
  rw [← h6, table_eq]
end Bodies
end VXA
/-! ===== END ===== -/
/-! ===== BEGIN a static call of a method with an exception table ===== -/
section VXS
variable {p : Program} {l : Launch} {e : Env} {R : Room} {s : State} {m : MethodId} {args : Array Value} {below : List Frame} {meth : Method} {c : Code} {T : State} {H : Heap} {locs : List Loc} {cells slots : Nat}
abbrev vx_CSW (R : Room) (s : State) (args : Array Value) (own : String) (index : Nat) (y : MethodName) (bytes : ByteArray) (maxL : Nat) (ret : Option FieldType) (hh : List (Nat × Nat × Nat × Nat)) (ws : List Cond) (rm : Room) (mc ms n : Nat) : Prop :=
  (rm.cells = mc ∧ rm.slots = ms ∧ rm.frames + 1 ≤ R.frames ∧ 8 + (maxL + 11) + rm.locals ≤ R.locals ∧ (∀ w ∈ ws, ∀ (a' : Array Value) (U : State), s.WarmedH U.vm → w.before a' U = true) ∧ Cond.codeWith y bytes maxL ret hh ∈ ws) ∧
  (Cond.codeWith y bytes maxL ret hh).before args s = true ∧ (Cond.initialized y.cls).before args s = true ∧ (y.cls ≠ "java/lang/invoke/MethodHandle" ∧ y.cls ≠ "java/lang/invoke/VarHandle") ∧
  (∀ sig, parseMethodDescriptor y.desc = some sig → n = sig.parameters.length) ∧ (Cond.methodLink own index y).before args s = true ∧ (Cond.static y).before args s = true
theorem vx_cwSW {own : String} {index maxL mc ms : Nat} {y : MethodName} {bytes : ByteArray} {ret : Option FieldType} {hh : List (Nat × Nat × Nat × Nat)} {Ts ws ws' : List Cond} {rm : Room} (n : Nat) (ht : ∀ w ∈ Ts, w.before args s = true) (hT : GoodIn Ts (va_wsS own index y ws)) (hw : ws = Cond.codeWith y bytes maxL ret hh :: ws') (hrc : rm.cells = mc) (hrs : rm.slots = ms)
    (hd : y.cls ≠ "java/lang/invoke/MethodHandle" ∧ y.cls ≠ "java/lang/invoke/VarHandle" ∧ (parseMethodDescriptor y.desc).map (fun d => d.parameters.length) = some n) (hR : rm.frames + 1 ≤ R.frames ∧ 8 + (maxL + 11) + rm.locals ≤ R.locals) :
    vx_CSW R s args own index y bytes maxL ret hh ws rm mc ms n := by
  have ok : ∀ w ∈ va_wsS own index y ws, w.before args s = true := fun w h => ht w (hT w h).1
  have hG : GoodIn Ts ws := fun w h => hT w (by unfold va_wsS; exact List.mem_append_right _ h)
  have hc : Cond.codeWith y bytes maxL ret hh ∈ ws := by rw [hw]; exact List.mem_cons_self
  refine ⟨⟨hrc, hrs, hR.1, hR.2, pay_in ht hG, hc⟩, ht _ (hG _ hc).1, ok _ (by simp [va_wsS]), ⟨hd.1, hd.2.1⟩, fun sig h => ?_, ok _ (by simp [va_wsS]), ok _ (by simp [va_wsS])⟩
  have h2 := hd.2.2
  rw [h] at h2
  exact (Option.some.inj h2).symm
theorem vx_callSW (X : Stand p l e R s m args below meth c T locs cells slots) (hexec : p.tables.exec = Jvm.exec) {own : String} {index : Nat} {y : MethodName} {bytes : ByteArray} {maxL : Nat} {ret : Option FieldType} {hh : List (Nat × Nat × Nat × Nat)}
    (hown : s.vm.findClass own = some m.cls) (hlink : (Cond.methodLink own index y).before args s = true) (hstat : (Cond.static y).before args s = true) (hinit : (Cond.initialized y.cls).before args s = true)
    (hcode : (Cond.codeWith y bytes maxL ret hh).before args s = true) (hy : y.cls ≠ "java/lang/invoke/MethodHandle" ∧ y.cls ≠ "java/lang/invoke/VarHandle")
    {W9 : Nat} {Pre : Pt → Array Value → Prop} {Post : Pt → Array Value → Option Value → Pt → Prop} (hK : Back l R p e below s args y 3 W9 Pre Post)
    {g : JFrame} (hg : g.method = m) (hsize : g.locals.size = c.maxLocals) {argsL rest : List Value} (hlen : ∀ sig, parseMethodDescriptor y.desc = some sig → argsL.length = sig.parameters.length)
    (hstack : g.stack = argsL.reverse ++ rest) (hW : 2 * g.monitorRoom + (rest.map fun v => v.category).sum ≤ W9) (hdg : decode c.code g.pc = .ok (.invokestatic index, 3))
    (hpre : ∀ vm₁, s.WarmedH vm₁ → Pre ⟨T.setVm vm₁, locs, cells, slots⟩ argsL.toArray) :
    ∃ (v : Option Value) (vm₁ : Vm) (B : Pt), s.WarmedH vm₁ ∧ Stand p l e R s m args below meth c B.U B.locs B.cells B.slots ∧ Post ⟨T.setVm vm₁, locs, cells, slots⟩ argsL.toArray v B ∧
      ∀ target, Steps p.tables e below (B.U.setTop { g with pc := g.pc + 3, stack := v.toList ++ rest }) target → Steps p.tables e below (T.setTop g) target := by
  obtain ⟨mk, methM, cM, hnamed, hmethM, -, -, -, -, -, -, hsigM⟩ := Cond.codeWith_spec hcode
  have hstatic : methM.isStatic = true := Cond.static_spec hnamed hmethM hstat
  obtain ⟨kP, hkP, -⟩ := className_of_methodNamed hnamed
  have hinitP : kP.init = .initialized := Cond.initialized_spec (findClass_of_methodNamed hnamed) hkP hinit
  obtain ⟨vm₁, X₁, hstep₁⟩ := X.invokestatic hexec hown hlink hnamed hmethM hstatic hkP hinitP hy (g := g) hg (argsL := argsL) (rest := rest) (hlen _ hsigM) hstack hdg
  obtain ⟨v, B, X', hpost, hsteps⟩ := hK m meth c ⟨T.setVm vm₁, locs, cells, slots⟩ { g with stack := rest } (.invokestatic index) mk argsL.toArray X₁ hg hsize hdg hW (X₁.named hnamed) (hpre vm₁ X₁.warmed)
  exact ⟨v, vm₁, B, X₁.warmed, X', hpost, fun target h => hstep₁ _ fun acts => by rw [doInvoke_state]; exact hsteps.trans h⟩
theorem vx_runSW {y : MethodName} {bytes cc : ByteArray} {maxL nL mc ms n index : Nat} {ret : Option FieldType} {hh : List (Nat × Nat × Nat × Nat)} {ws : List Cond} {rm : Room} {Pc : Array Value → State → Prop} {Qc : Array Value → State → Outcome → State → Prop} {free : Addr → Prop} {Ts : List Cond} {own : String} {As rest : List Value} {g : JFrame}
    (S : CallFix p m c cc nL s args Ts own) (hM : Met l y ws rm Pc Qc mc ms free) (cw : vx_CSW R s args own index y bytes maxL ret hh ws rm mc ms n) (hp : PreS s H Pc As)
    (hg : g.method = m) (hn : As.length = n) (hsize : g.locals.size = nL) (hstack : g.stack = As.reverse ++ rest) (hW : 2 * g.monitorRoom + (rest.map fun v => v.category).sum ≤ 8) (hdg : decode cc g.pc = .ok (.invokestatic index, 3)) (hf : cells + mc ≤ R.cells ∧ slots + ms ≤ R.slots) :
    va_Run p l e R s m args below meth c H locs cells slots mc ms g rest (Qc As.toArray) (free) := by
  obtain ⟨⟨hrc, hrs, hfr, hlo, hws, hcw⟩, hcode, hini, hy, hlen, hl, hstt⟩ := cw
  have hK : Back l R p e below s args y 3 8 (PreOf R mc ms Pc) (PostOf Qc mc ms free) := va_backW (hh := hh) (bytes := bytes) (maxL := maxL) (ret := ret) hM hp.1 hrc hrs hfr hlo hws hcw (fun a' U hW => word_at hW (Or.inl (by first | rfl | simp [Cond.onTables, Cond.keeps, Cond.steady])) hini)
  obtain ⟨hx, hb, hml, ho, -⟩ := S
  intro T hT X
  obtain ⟨v, vm₁, ⟨U', l2, c2, s2⟩, hW₁, X', ⟨g', mk, t, L, e1, e2, hq, h1, hL, h2, h3⟩, st⟩ := vx_callSW X hx (hh := hh) (bytes := bytes) (maxL := maxL) (ret := ret) ho hl hstt hini hcode hy hK hg (hsize.trans hml.symm) (argsL := As) (rest := rest) (fun sig h => hn.trans (hlen sig h)) hstack hW (by rw [hb]; exact hdg)
    (fun vm₁ hW₁ => ⟨hf.1, hf.2, hp.2 (T.setVm vm₁) hT hW₁⟩)
  dsimp only [Pt.U, Pt.locs, Pt.cells, Pt.slots] at X' e1 e2 h1 h2 h3 st
  subst h1; subst h2; subst h3
  exact ⟨v, (T.setVm vm₁).calling g' mk As.toArray, t, U', L, hT, X', hL, e1, e2, hq, st⟩
/-- not caught here, past rows that name other classes: it goes on to the caller -/
theorem vx_outP {p : Program} {l : Launch} {e : Env} {R : Room} {s : State} {m : MethodId} {args : Array Value} {below : List Frame} {meth : Method} {c : Code} {H : Heap} {locs : List Loc} {cells slots : Nat} {free : Addr → Prop} {ls : Array Slot} {rest : List Value} {Qc : Array Value → State → Outcome → State → Prop} {XC : String → State → State → Prop}
    {pc : Nat} {own E : String} {ce : Cell} {q : Addr} {mc ms : Nat} (hown : s.vm.findClass own = some m.cls) (hlocks : meth.locks = false)
    (hpass : ∀ z ∈ c.exceptionTable.toList, covers z pc = false ∨ (z.catchType ≠ 0 ∧ ∃ nm : String, (Cond.classLink own z.catchType nm).before args s = true ∧ va_Nc E nm s)) (hcell : H[q]? = some ce) (hv : ce.vm = .none) (hcl : s.vm.findClass E = some ce.cls)
    (hx : ∀ t : State, t.heap = H → s.vm.Alike t.vm → XC E s t) (hf : ∀ z ∈ locs, free z.base) (hc : cells ≤ mc) (hs : slots ≤ ms) :
    vx_W p l e R s m args below meth c H locs cells slots (vx_MQ below Qc XC args s mc ms free) (F0 m pc ls rest) q := by
  intro T hT X
  have hpl : e.platform.magicAccessors = ({} : Platform).magicAccessors := by rw [X.admits.platform]
  obtain ⟨vm', hW', X', st⟩ := X.outThrough hlocks q (g := F0 m pc ls rest) rfl rfl rfl (cell := ce) (by rw [hT]; exact hcell) (by rw [hv]; rfl)
    (by obtain ⟨k9, h9, -⟩ := Vm.findClass_spec hcl; exact ⟨k9, h9⟩) (fun z hz => by
      rcases hpass z hz with h | ⟨hz0, nm, hl1, hn1⟩
      · exact Or.inl h
      · obtain ⟨c6, hc6, hcl6⟩ := Cond.classLink_spec hown hl1 e.platform hpl
        obtain ⟨a8, b8, h1, h2, h3⟩ := hn1
        cases Option.some.inj (h1.symm.trans hcl)
        cases Option.some.inj (h2.symm.trans hc6)
        exact Or.inr ⟨hz0, _, hcl6, h3⟩)
  obtain ⟨g₀, hfr⟩ := X'.frames_eq
  have hcell9 : ((T.setVm vm').setFrames (.throwing q :: below)).heap[q]? = some ce := by
    show T.heap[q]? = some ce
    rw [hT]; exact hcell
  have hend : Ended ((T.setVm vm').setFrames (.throwing q :: below)) below (.threw q) := State.frames_setFrames _ (State.cur_lt_of_frames hfr)
  refine ⟨(T.setVm vm').setFrames (.throwing q :: below), ?_, .threw q, X'.here.running, hend, Or.inr ⟨q, rfl, E, ce, locs, hx _ hT (X'.ends _).1.alike, hcell9, hv, hcl, (X'.ends _).1, (X'.ends _).2.mono hc hs, hf⟩⟩
  rw [X.pushThrowing_eq]
  exact st
/-- a thing of a world lies in the heap -/
theorem vx_lt {D : va_G} {cl : List vw_C} {ws : va_W} {H1 : Heap} (h : va_P D cl ws H1) {k : Nat} {q : Nat × va_E} (hk : ws[k]? = some q) : q.1 < H1.size := (h k q hk).lt
end VXS
/-! ===== END ===== -/
/-! ===== BEGIN methods with a table of their own: called by a name, returning or throwing ===== -/
section VXH
/-! vx_backW, vx_callVX, vx_callSX, vx_callVW, vx_runVW, vx_runVX, vx_runSX, vx_ofWH follow the same proofs as their sisters above (Free/Laws.lean, Shelf42/LK1.lean); vx_outP calls Shelf42/NT130.lean (outThrough). -/
section
variable {l : Launch} {R : Room} {p : Program} {e : Env} {below : List Frame} {s : State} {sargs : Array Value} {y : MethodName} {len W9 : Nat}
theorem vx_backW {ws : List Cond} {rm : Room} {Pc : Array Value → State → Prop} {Qc : Array Value → State → Outcome → State → Prop} {XC : String → State → State → Prop} {mc ms : Nat} {free : Addr → Prop} {bytes : ByteArray} {maxL : Nat} {ret : Option FieldType} {hh : List (Nat × Nat × Nat × Nat)}
    (hM : vx_Met l y ws rm Pc Qc XC mc ms free) (hblind : FrameBlind Pc) (hrc : rm.cells = mc) (hrs : rm.slots = ms)
    (hframes : rm.frames + 1 ≤ R.frames) (hlocals : W9 + (maxL + 11) + rm.locals ≤ R.locals)
    (hws : ∀ w ∈ ws, ∀ a' U, s.WarmedH U.vm → w.before a' U = true) (hcode : Cond.codeWith y bytes maxL ret hh ∈ ws) (hinit : ∀ a' U, s.WarmedH U.vm → (Cond.initialized y.cls).before a' U = true) :
    vx_Back l R p e below s sargs y len W9 (PreOf R mc ms Pc) (PostOf Qc mc ms free) (vx_Post XC mc ms free) := by
  intro m meth c A g ig mk a X hg hsize hdg hW hn hp
  have h1 : (headSpec ws rm).pre.before a A.U = true := atoms_intro fun w hw => hws w hw _ _ X.warmed
  have h2 : (Cond.codeWith y bytes maxL ret hh).before a A.U = true := hws _ hcode _ _ X.warmed
  have h3 : (Cond.initialized y.cls).before a A.U = true := hinit _ _ X.warmed
  have h4 : A.cells + (headSpec ws rm).room.cells ≤ R.cells := by rw [show (headSpec ws rm).room.cells = mc from hrc]; exact hp.1
  have h5 : A.slots + (headSpec ws rm).room.slots ≤ R.slots := by rw [show (headSpec ws rm).room.slots = ms from hrs]; exact hp.2.1
  have hPc : Pc a (A.U.calling g mk a) := hblind _ _ _ _ hp.2.2
  obtain ⟨U, Ls, c0, s0⟩ := A
  dsimp only [Pt.U, Pt.locs, Pt.cells, Pt.slots] at h1 h2 h3 h4 h5 X hn hPc ⊢
  obtain ⟨m9, methY, cY, hn9, hmY, hcY, -, hlY, -⟩ := Cond.codeWith_spec h2
  cases Option.some.inj (hn9.symm.trans hn)
  obtain ⟨kY, hkY, -⟩ := className_of_methodNamed hn
  have hinitY : kY.init = .initialized := Cond.initialized_spec (findClass_of_methodNamed hn) hkY h3
  have h : At U g.method c below := by rw [hg]; exact X.here
  have hlocals9 : W9 + (maxL + 11) + (headSpec ws rm).room.locals ≤ R.locals := hlocals
  have happ : (headSpec ws rm).appliesLoose y e.platform (U.calling g mk a) = true :=
    Spec.appliesLoose_calling (g := g) h hdg hn hkY hinitY
      (X.room_calling (g := g) (R' := (headSpec ws rm).room) hsize hmY hcY hframes (by rw [hlY]; omega) h4 h5) h1
  obtain ⟨mid, hmid⟩ := h.above
  have hfr : (U.setTop g).frames = (.java g :: mid) ++ below := by rw [State.frames_setTop' g h.top, hmid]; rfl
  obtain ⟨o, s₂, hsteps, -, hend, hq⟩ := Steps.callFree hM p X.admits X.cas X.clock (acts := []) hfr happ hPc trivial
  have hq' : vx_Q Qc XC mc ms free a (U.calling g mk a) o s₂ := hq
  rw [State.frames_setTop' g h.top] at hend
  obtain ⟨g₀, hg0⟩ := Option.isSome_iff_exists.mp h.top
  obtain ⟨r, hr⟩ := State.topJava?_eq_some.mp hg0
  have hr' : (({ U with heap := s₂.heap, slotsUsed := s₂.slotsUsed } : State).setVm s₂.vm).frames = .java g₀ :: r := hr
  rcases hq' with ⟨hqc, L, hfe, hL⟩ | ⟨q, rfl, E, ce, L, hx, hce, hcv, hcl, hW₂, hsm, hL⟩
  · obtain ⟨⟨v, rfl⟩, hW₂, e2, q2, q3, q4, q5, q6⟩ := id hfe
    have e3 : s₂ = ({ (U.calling g mk a).setFrames s₂.frames with heap := s₂.heap, slotsUsed := s₂.slotsUsed } : State).setVm s₂.vm := by
      have : s₂ = ({ s₂ with vm := (U.calling g mk a).vm } : State).setVm s₂.vm := rfl
      rw [e2] at this
      exact this
    obtain ⟨c₂, i₂, len₂, hc₂, hd₂, hf₂⟩ := hend
    have hW' : U.WarmedH s₂.vm := hW₂
    have hcc : c₂ = c := by
      have h1 : s₂.code? g.method = U.code? g.method := by
        rw [State.code?_eq, State.code?_eq, hW'.alike.method?]
      exact Option.some.inj (hc₂.symm.trans (h1.trans h.code))
    subst hcc
    have hlen : len₂ = len := by rw [hdg] at hd₂; cases hd₂; rfl
    subst hlen
    have hs₂ : s₂ = (({ U with heap := s₂.heap, slotsUsed := s₂.slotsUsed } : State).setVm s₂.vm).setTop { g with pc := g.pc + len₂, stack := v.toList ++ g.stack } := by
      refine e3.trans ?_
      rw [hf₂, State.calling_eq h.top, State.setFrames_setFrames, State.setTop_of_frames _ hr', hr]
      rfl
    have hsame : U.sameButNew ({ U with heap := s₂.heap, slotsUsed := s₂.slotsUsed } : State) L mc ms := by
      refine ⟨?_, q2, q3, q4, q5, q6⟩
      obtain ⟨t, ht, -⟩ := State.frames_cons hr
      show ({ U with heap := s₂.heap, slotsUsed := s₂.slotsUsed } : State) = { U.setFrames U.frames with heap := s₂.heap, slotsUsed := s₂.slotsUsed }
      rw [State.setFrames_self ht]
    subst hg
    refine Or.inl ⟨v, ⟨(({ U with heap := s₂.heap, slotsUsed := s₂.slotsUsed } : State).setVm s₂.vm), Ls ++ L, c0 + mc, s0 + ms⟩,
      ⟨X.admits, X.cas, X.clock, X.frames, X.room, X.hears, X.method, X.code, (X.here.setHeapUsed s₂.heap s₂.slotsUsed).setVm hW'.alike, X.tail, State.WarmedH.trans X.warmed hW', X.limits, X.bytes, X.same.trans (hsame.setVm s.vm)⟩,
      ⟨g, mk, s₂, L, rfl, rfl, hqc, rfl, hL, rfl, rfl⟩, ?_⟩
    show Steps p.tables e below _ ((({ U with heap := s₂.heap, slotsUsed := s₂.slotsUsed } : State).setVm s₂.vm).setTop { g with pc := g.pc + len₂, stack := v.toList ++ g.stack })
    rw [← hs₂]
    exact hsteps
  · obtain ⟨e2, q2, q3, q4, q5, q6⟩ := id hsm
    have e3 : s₂ = ({ (U.calling g mk a).setFrames s₂.frames with heap := s₂.heap, slotsUsed := s₂.slotsUsed } : State).setVm s₂.vm := by
      have : s₂ = ({ s₂ with vm := (U.calling g mk a).vm } : State).setVm s₂.vm := rfl
      rw [e2] at this
      exact this
    have hf₂ : s₂.frames = .throwing q :: .java g :: U.frames.tail := hend
    have hW' : U.WarmedH s₂.vm := hW₂
    have hs₂ : s₂ = ((({ U with heap := s₂.heap, slotsUsed := s₂.slotsUsed } : State).setVm s₂.vm).setTop g).pushFrame (.throwing q) := by
      refine e3.trans ?_
      rw [hf₂, State.calling_eq h.top, State.setFrames_setFrames, State.pushFrame, State.frames_setTop _ hr', State.setTop_of_frames _ hr', State.setFrames_setFrames, hr]
      rfl
    have hsame : U.sameButNew ({ U with heap := s₂.heap, slotsUsed := s₂.slotsUsed } : State) L mc ms := by
      refine ⟨?_, q2, q3, q4, q5, q6⟩
      obtain ⟨t, ht, -⟩ := State.frames_cons hr
      show ({ U with heap := s₂.heap, slotsUsed := s₂.slotsUsed } : State) = { U.setFrames U.frames with heap := s₂.heap, slotsUsed := s₂.slotsUsed }
      rw [State.setFrames_self ht]
    subst hg
    refine Or.inr ⟨q, ⟨(({ U with heap := s₂.heap, slotsUsed := s₂.slotsUsed } : State).setVm s₂.vm), Ls ++ L, c0 + mc, s0 + ms⟩,
      ⟨X.admits, X.cas, X.clock, X.frames, X.room, X.hears, X.method, X.code, (X.here.setHeapUsed s₂.heap s₂.slotsUsed).setVm hW'.alike, X.tail, State.WarmedH.trans X.warmed hW', X.limits, X.bytes, X.same.trans (hsame.setVm s.vm)⟩,
      ⟨g, mk, s₂, L, E, ce, rfl, rfl, hx, hce, hcv, hcl, rfl, hL, rfl, rfl⟩, ?_⟩
    show Steps p.tables e below _ (((({ U with heap := s₂.heap, slotsUsed := s₂.slotsUsed } : State).setVm s₂.vm).setTop g).pushFrame (.throwing q))
    rw [← hs₂]
    exact hsteps
end
variable {p : Program} {l : Launch} {e : Env} {R : Room} {s : State} {m : MethodId} {args : Array Value} {below : List Frame} {meth : Method} {c : Code} {T : State} {H : Heap} {locs : List Loc} {cells slots : Nat}
theorem vx_callVX (X : Stand p l e R s m args below meth c T locs cells slots) (hexec : p.tables.exec = Jvm.exec) {own C : String} {index : Nat} {y : MethodName} {bytes : ByteArray} {maxL : Nat} {ret : Option FieldType} {hh : List (Nat × Nat × Nat × Nat)}
    (hown : s.vm.findClass own = some m.cls) (hlink : (Cond.methodLink own index y).before args s = true) (hinst : (Cond.instanceMethod y).before args s = true) (hsel : (Cond.selects C y y).before args s = true)
    (hcode : (Cond.codeWith y bytes maxL ret hh).before args s = true) (hy : y.cls ≠ "java/lang/invoke/MethodHandle" ∧ y.cls ≠ "java/lang/invoke/VarHandle")
    {W9 : Nat} {Pre : Pt → Array Value → Prop} {Post : Pt → Array Value → Option Value → Pt → Prop} {PostX : Pt → Array Value → Addr → Pt → Prop} (hK : vx_Back l R p e below s args y 3 W9 Pre Post PostX)
    {b : Addr} {cellB : Cell} (hcell : T.heap[b]? = some cellB) (hobj : cellB.vm.isStatics = false) (hcls : s.vm.findClass C = some cellB.cls)
    {g : JFrame} (hg : g.method = m) (hsize : g.locals.size = c.maxLocals) {argsL rest : List Value} (hlen : ∀ sig, parseMethodDescriptor y.desc = some sig → argsL.length = sig.parameters.length)
    (hstack : g.stack = argsL.reverse ++ .ref b :: rest) (hW : 2 * g.monitorRoom + (rest.map fun v => v.category).sum ≤ W9) (hdg : decode c.code g.pc = .ok (.invokevirtual index, 3))
    (hpre : ∀ vm₁, s.WarmedH vm₁ → Pre ⟨T.setVm vm₁, locs, cells, slots⟩ (Value.ref b :: argsL).toArray) :
    (∃ (v : Option Value) (vm₁ : Vm) (B : Pt), s.WarmedH vm₁ ∧ Stand p l e R s m args below meth c B.U B.locs B.cells B.slots ∧ Post ⟨T.setVm vm₁, locs, cells, slots⟩ (Value.ref b :: argsL).toArray v B ∧
      ∀ target, Steps p.tables e below (B.U.setTop { g with pc := g.pc + 3, stack := v.toList ++ rest }) target → Steps p.tables e below (T.setTop g) target) ∨
    (∃ (q : Addr) (vm₁ : Vm) (B : Pt), s.WarmedH vm₁ ∧ Stand p l e R s m args below meth c B.U B.locs B.cells B.slots ∧ PostX ⟨T.setVm vm₁, locs, cells, slots⟩ (Value.ref b :: argsL).toArray q B ∧
      Steps p.tables e below (T.setTop g) ((B.U.setTop { g with stack := rest }).pushFrame (.throwing q))) := by
  obtain ⟨mk, methM, hnamed, hmethM, hstM, habM⟩ := Cond.instanceMethod_spec hinst
  obtain ⟨m8, methM', cM, hn8, hmethM', -, -, -, -, -, -, hsigM⟩ := Cond.codeWith_spec hcode
  cases Option.some.inj (hn8.symm.trans hnamed)
  cases hmethM.symm.trans hmethM'
  obtain ⟨c2, r2, m2, q1, q2, q3, q4, kP, hkP, hkPi⟩ := Cond.selects_spec hsel
  cases hcls.symm.trans q1
  cases (State.methodFound?_of_named hnamed hy).symm.trans q2
  cases hnamed.symm.trans q3
  have hselP : selectMethod e.platform s.vm cellB.cls mk = .method mk := by rw [Launch.admits_selectMethod X.admits]; exact q4
  obtain ⟨vm₁, X₁, hstep₁⟩ := X.invokevirtual hexec hown hlink hnamed hmethM hstM hkP hkPi hy (a := b) (cell := cellB) hcell
    (fun z h => by rw [h] at hobj; cases hobj) hselP hmethM habM hkP hkPi (g := g) hg (argsL := argsL) (rest := rest) (hlen _ hsigM) hstack hdg
  rcases hK m meth c ⟨T.setVm vm₁, locs, cells, slots⟩ { g with stack := rest } (.invokevirtual index) mk (Value.ref b :: argsL).toArray X₁ hg hsize hdg hW (X₁.named hnamed) (hpre vm₁ X₁.warmed) with ⟨v, B, X', hpost, hsteps⟩ | ⟨q, B, X', hpost, hsteps⟩
  · exact Or.inl ⟨v, vm₁, B, X₁.warmed, X', hpost, fun target h => hstep₁ _ fun acts => by rw [doInvoke_state]; exact hsteps.trans h⟩
  · exact Or.inr ⟨q, vm₁, B, X₁.warmed, X', hpost, hstep₁ _ fun acts => by rw [doInvoke_state]; exact hsteps⟩
theorem vx_callSX (X : Stand p l e R s m args below meth c T locs cells slots) (hexec : p.tables.exec = Jvm.exec) {own : String} {index : Nat} {y : MethodName} {bytes : ByteArray} {maxL : Nat} {ret : Option FieldType} {hh : List (Nat × Nat × Nat × Nat)}
    (hown : s.vm.findClass own = some m.cls) (hlink : (Cond.methodLink own index y).before args s = true) (hstat : (Cond.static y).before args s = true) (hinit : (Cond.initialized y.cls).before args s = true)
    (hcode : (Cond.codeWith y bytes maxL ret hh).before args s = true) (hy : y.cls ≠ "java/lang/invoke/MethodHandle" ∧ y.cls ≠ "java/lang/invoke/VarHandle")
    {W9 : Nat} {Pre : Pt → Array Value → Prop} {Post : Pt → Array Value → Option Value → Pt → Prop} {PostX : Pt → Array Value → Addr → Pt → Prop} (hK : vx_Back l R p e below s args y 3 W9 Pre Post PostX)
    {g : JFrame} (hg : g.method = m) (hsize : g.locals.size = c.maxLocals) {argsL rest : List Value} (hlen : ∀ sig, parseMethodDescriptor y.desc = some sig → argsL.length = sig.parameters.length)
    (hstack : g.stack = argsL.reverse ++ rest) (hW : 2 * g.monitorRoom + (rest.map fun v => v.category).sum ≤ W9) (hdg : decode c.code g.pc = .ok (.invokestatic index, 3))
    (hpre : ∀ vm₁, s.WarmedH vm₁ → Pre ⟨T.setVm vm₁, locs, cells, slots⟩ argsL.toArray) :
    (∃ (v : Option Value) (vm₁ : Vm) (B : Pt), s.WarmedH vm₁ ∧ Stand p l e R s m args below meth c B.U B.locs B.cells B.slots ∧ Post ⟨T.setVm vm₁, locs, cells, slots⟩ argsL.toArray v B ∧
      ∀ target, Steps p.tables e below (B.U.setTop { g with pc := g.pc + 3, stack := v.toList ++ rest }) target → Steps p.tables e below (T.setTop g) target) ∨
    (∃ (q : Addr) (vm₁ : Vm) (B : Pt), s.WarmedH vm₁ ∧ Stand p l e R s m args below meth c B.U B.locs B.cells B.slots ∧ PostX ⟨T.setVm vm₁, locs, cells, slots⟩ argsL.toArray q B ∧
      Steps p.tables e below (T.setTop g) ((B.U.setTop { g with stack := rest }).pushFrame (.throwing q))) := by
  obtain ⟨mk, methM, cM, hnamed, hmethM, -, -, -, -, -, -, hsigM⟩ := Cond.codeWith_spec hcode
  have hstatic : methM.isStatic = true := Cond.static_spec hnamed hmethM hstat
  obtain ⟨kP, hkP, -⟩ := className_of_methodNamed hnamed
  have hinitP : kP.init = .initialized := Cond.initialized_spec (findClass_of_methodNamed hnamed) hkP hinit
  obtain ⟨vm₁, X₁, hstep₁⟩ := X.invokestatic hexec hown hlink hnamed hmethM hstatic hkP hinitP hy (g := g) hg (argsL := argsL) (rest := rest) (hlen _ hsigM) hstack hdg
  rcases hK m meth c ⟨T.setVm vm₁, locs, cells, slots⟩ { g with stack := rest } (.invokestatic index) mk argsL.toArray X₁ hg hsize hdg hW (X₁.named hnamed) (hpre vm₁ X₁.warmed) with ⟨v, B, X', hpost, hsteps⟩ | ⟨q, B, X', hpost, hsteps⟩
  · exact Or.inl ⟨v, vm₁, B, X₁.warmed, X', hpost, fun target h => hstep₁ _ fun acts => by rw [doInvoke_state]; exact hsteps.trans h⟩
  · exact Or.inr ⟨q, vm₁, B, X₁.warmed, X', hpost, hstep₁ _ fun acts => by rw [doInvoke_state]; exact hsteps⟩
theorem vx_callVW (X : Stand p l e R s m args below meth c T locs cells slots) (hexec : p.tables.exec = Jvm.exec) {own C : String} {index : Nat} {y : MethodName} {bytes : ByteArray} {maxL : Nat} {ret : Option FieldType} {hh : List (Nat × Nat × Nat × Nat)}
    (hown : s.vm.findClass own = some m.cls) (hlink : (Cond.methodLink own index y).before args s = true) (hinst : (Cond.instanceMethod y).before args s = true) (hsel : (Cond.selects C y y).before args s = true)
    (hcode : (Cond.codeWith y bytes maxL ret hh).before args s = true) (hy : y.cls ≠ "java/lang/invoke/MethodHandle" ∧ y.cls ≠ "java/lang/invoke/VarHandle")
    {W9 : Nat} {Pre : Pt → Array Value → Prop} {Post : Pt → Array Value → Option Value → Pt → Prop} (hK : Back l R p e below s args y 3 W9 Pre Post)
    {b : Addr} {cellB : Cell} (hcell : T.heap[b]? = some cellB) (hobj : cellB.vm.isStatics = false) (hcls : s.vm.findClass C = some cellB.cls)
    {g : JFrame} (hg : g.method = m) (hsize : g.locals.size = c.maxLocals) {argsL rest : List Value} (hlen : ∀ sig, parseMethodDescriptor y.desc = some sig → argsL.length = sig.parameters.length)
    (hstack : g.stack = argsL.reverse ++ .ref b :: rest) (hW : 2 * g.monitorRoom + (rest.map fun v => v.category).sum ≤ W9) (hdg : decode c.code g.pc = .ok (.invokevirtual index, 3))
    (hpre : ∀ vm₁, s.WarmedH vm₁ → Pre ⟨T.setVm vm₁, locs, cells, slots⟩ (Value.ref b :: argsL).toArray) :
    ∃ (v : Option Value) (vm₁ : Vm) (B : Pt), s.WarmedH vm₁ ∧ Stand p l e R s m args below meth c B.U B.locs B.cells B.slots ∧ Post ⟨T.setVm vm₁, locs, cells, slots⟩ (Value.ref b :: argsL).toArray v B ∧
      ∀ target, Steps p.tables e below (B.U.setTop { g with pc := g.pc + 3, stack := v.toList ++ rest }) target → Steps p.tables e below (T.setTop g) target := by
  obtain ⟨mk, methM, hnamed, hmethM, hstM, habM⟩ := Cond.instanceMethod_spec hinst
  obtain ⟨m8, methM', cM, hn8, hmethM', -, -, -, -, -, -, hsigM⟩ := Cond.codeWith_spec hcode
  cases Option.some.inj (hn8.symm.trans hnamed)
  cases hmethM.symm.trans hmethM'
  obtain ⟨c2, r2, m2, q1, q2, q3, q4, kP, hkP, hkPi⟩ := Cond.selects_spec hsel
  cases hcls.symm.trans q1
  cases (State.methodFound?_of_named hnamed hy).symm.trans q2
  cases hnamed.symm.trans q3
  have hselP : selectMethod e.platform s.vm cellB.cls mk = .method mk := by rw [Launch.admits_selectMethod X.admits]; exact q4
  obtain ⟨vm₁, X₁, hstep₁⟩ := X.invokevirtual hexec hown hlink hnamed hmethM hstM hkP hkPi hy (a := b) (cell := cellB) hcell
    (fun z h => by rw [h] at hobj; cases hobj) hselP hmethM habM hkP hkPi (g := g) hg (argsL := argsL) (rest := rest) (hlen _ hsigM) hstack hdg
  obtain ⟨v, B, X', hpost, hsteps⟩ := hK m meth c ⟨T.setVm vm₁, locs, cells, slots⟩ { g with stack := rest } (.invokevirtual index) mk (Value.ref b :: argsL).toArray X₁ hg hsize hdg hW (X₁.named hnamed) (hpre vm₁ X₁.warmed)
  exact ⟨v, vm₁, B, X₁.warmed, X', hpost, fun target h => hstep₁ _ fun acts => by rw [doInvoke_state]; exact hsteps.trans h⟩
abbrev vx_CVW (R : Room) (s : State) (args : Array Value) (own C : String) (index : Nat) (y : MethodName) (bytes : ByteArray) (maxL : Nat) (ret : Option FieldType) (hh : List (Nat × Nat × Nat × Nat)) (ws : List Cond) (rm : Room) (mc ms n : Nat) : Prop :=
  (rm.cells = mc ∧ rm.slots = ms ∧ rm.frames + 1 ≤ R.frames ∧ 8 + (maxL + 11) + rm.locals ≤ R.locals ∧ (∀ w ∈ ws, ∀ (a' : Array Value) (U : State), s.WarmedH U.vm → w.before a' U = true) ∧ Cond.codeWith y bytes maxL ret hh ∈ ws) ∧
  (Cond.codeWith y bytes maxL ret hh).before args s = true ∧ (Cond.initialized y.cls).before args s = true ∧ (y.cls ≠ "java/lang/invoke/MethodHandle" ∧ y.cls ≠ "java/lang/invoke/VarHandle") ∧
  (∀ sig, parseMethodDescriptor y.desc = some sig → n = sig.parameters.length) ∧ (Cond.methodLink own index y).before args s = true ∧ (Cond.instanceMethod y).before args s = true ∧ (Cond.selects C y y).before args s = true
theorem vx_cwVW {own C : String} {index maxL mc ms : Nat} {y : MethodName} {bytes : ByteArray} {ret : Option FieldType} {hh : List (Nat × Nat × Nat × Nat)} {Ts ws ws' : List Cond} {rm : Room} (n : Nat) (ht : ∀ w ∈ Ts, w.before args s = true) (hT : GoodIn Ts (wsV own index C y ws)) (hw : ws = Cond.codeWith y bytes maxL ret hh :: ws') (hrc : rm.cells = mc) (hrs : rm.slots = ms)
    (hd : y.cls = C ∧ y.cls ≠ "java/lang/invoke/MethodHandle" ∧ y.cls ≠ "java/lang/invoke/VarHandle" ∧ (parseMethodDescriptor y.desc).map (fun d => d.parameters.length) = some n) (hR : rm.frames + 1 ≤ R.frames ∧ 8 + (maxL + 11) + rm.locals ≤ R.locals) :
    vx_CVW R s args own C index y bytes maxL ret hh ws rm mc ms n := by
  obtain ⟨hC, hd⟩ := hd
  subst hC
  have ok : ∀ w ∈ wsV own index y.cls y ws, w.before args s = true := fun w h => ht w (hT w h).1
  have hG : GoodIn Ts ws := fun w h => hT w (by unfold wsV; exact List.mem_append_right _ h)
  have hc : Cond.codeWith y bytes maxL ret hh ∈ ws := by rw [hw]; exact List.mem_cons_self
  refine ⟨⟨hrc, hrs, hR.1, hR.2, pay_in ht hG, hc⟩, ht _ (hG _ hc).1, ok _ (by simp [wsV]), ⟨hd.1, hd.2.1⟩, fun sig h => ?_, ok _ (by simp [wsV]), ok _ (by simp [wsV]), ok _ (by simp [wsV])⟩
  have h2 := hd.2.2
  rw [h] at h2
  exact (Option.some.inj h2).symm
theorem vx_runVW {y : MethodName} {bytes cc : ByteArray} {maxL nL mc ms n index : Nat} {ret : Option FieldType} {hh : List (Nat × Nat × Nat × Nat)} {ws : List Cond} {rm : Room} {Pc : Array Value → State → Prop} {Qc : Array Value → State → Outcome → State → Prop} {free : Addr → Prop} {Ts : List Cond} {own C : String} {b : Addr} {As rest : List Value} {g : JFrame}
    (S : CallFix p m c cc nL s args Ts own) (hM : Met l y ws rm Pc Qc mc ms free) (cw : vx_CVW R s args own C index y bytes maxL ret hh ws rm mc ms n) (hp : PreV s H C b Pc As)
    (hg : g.method = m) (hn : As.length = n) (hsize : g.locals.size = nL) (hstack : g.stack = As.reverse ++ .ref b :: rest) (hW : 2 * g.monitorRoom + (rest.map fun v => v.category).sum ≤ 8) (hdg : decode cc g.pc = .ok (.invokevirtual index, 3)) (hf : cells + mc ≤ R.cells ∧ slots + ms ≤ R.slots) :
    va_Run p l e R s m args below meth c H locs cells slots mc ms g rest (Qc (Value.ref b :: As).toArray) free := by
  obtain ⟨⟨hrc, hrs, hfr, hlo, hws, hcw⟩, hcode, hini, hy, hlen, hl, hin, hse⟩ := cw
  have hK : Back l R p e below s args y 3 8 (PreOf R mc ms Pc) (PostOf Qc mc ms free) := va_backW (hh := hh) (bytes := bytes) (maxL := maxL) (ret := ret) hM hp.1 hrc hrs hfr hlo hws hcw (fun a' U hW => word_at hW (Or.inl (by first | rfl | simp [Cond.onTables, Cond.keeps, Cond.steady])) hini)
  obtain ⟨hx, hb, hml, ho, -⟩ := S
  obtain ⟨-, ⟨cellB, hcB, hoB, hclB⟩, hPc⟩ := hp
  intro T hT X
  obtain ⟨v, vm₁, ⟨U', l2, c2, s2⟩, hW₁, X', ⟨g', mk, t, L, e1, e2, hq, h1, hL, h2, h3⟩, st⟩ := vx_callVW X hx (C := C) (hh := hh) (bytes := bytes) (maxL := maxL) (ret := ret) ho hl hin hse hcode hy hK (by rw [hT]; exact hcB) hoB hclB hg (hsize.trans hml.symm) (argsL := As) (rest := rest) (fun sig h => hn.trans (hlen sig h)) hstack hW (by rw [hb]; exact hdg)
    (fun vm₁ hW₁ => ⟨hf.1, hf.2, hPc (T.setVm vm₁) hT hW₁⟩)
  dsimp only [Pt.U, Pt.locs, Pt.cells, Pt.slots] at X' e1 e2 h1 h2 h3 st
  subst h1; subst h2; subst h3
  exact ⟨v, (T.setVm vm₁).calling g' mk (Value.ref b :: As).toArray, t, U', L, hT, X', hL, e1, e2, hq, st⟩
section
variable {y : MethodName} {bytes cc : ByteArray} {maxL nL mc ms n index : Nat} {ret : Option FieldType} {ws : List Cond} {rm : Room} {Pc : Array Value → State → Prop} {Qc : Array Value → State → Outcome → State → Prop} {XC : String → State → State → Prop} {free : Addr → Prop} {Ts : List Cond} {own C : String} {b : Addr} {As rest : List Value} {g : JFrame}
theorem vx_runVX {hh : List (Nat × Nat × Nat × Nat)} (S : CallFix p m c cc nL s args Ts own) (hM : vx_Met l y ws rm Pc Qc XC mc ms free) (cw : vx_CVW R s args own C index y bytes maxL ret hh ws rm mc ms n) (hp : PreV s H C b Pc As)
    (hg : g.method = m) (hn : As.length = n) (hsize : g.locals.size = nL) (hstack : g.stack = As.reverse ++ .ref b :: rest) (hW : 2 * g.monitorRoom + (rest.map fun v => v.category).sum ≤ 8) (hdg : decode cc g.pc = .ok (.invokevirtual index, 3)) (hf : cells + mc ≤ R.cells ∧ slots + ms ≤ R.slots) :
    vx_Run p l e R s m args below meth c H locs cells slots mc ms g rest (Qc (Value.ref b :: As).toArray) XC free := by
  obtain ⟨⟨hrc, hrs, hfr, hlo, hws, hcw⟩, hcode, hini, hy, hlen, hl, hin, hse⟩ := cw
  have hK : vx_Back l R p e below s args y 3 8 (PreOf R mc ms Pc) (PostOf Qc mc ms free) (vx_Post XC mc ms free) := vx_backW (hh := hh) (bytes := bytes) (maxL := maxL) (ret := ret) hM hp.1 hrc hrs hfr hlo hws hcw (fun a' U hW => word_at hW (Or.inl (by first | rfl | simp [Cond.onTables, Cond.keeps, Cond.steady])) hini)
  obtain ⟨hx, hb, hml, ho, -⟩ := S
  obtain ⟨-, ⟨cellB, hcB, hoB, hclB⟩, hPc⟩ := hp
  intro T hT X
  rcases vx_callVX X hx (C := C) (hh := hh) (bytes := bytes) (maxL := maxL) (ret := ret) ho hl hin hse hcode hy hK (by rw [hT]; exact hcB) hoB hclB hg (hsize.trans hml.symm) (argsL := As) (rest := rest) (fun sig h => hn.trans (hlen sig h)) hstack hW (by rw [hb]; exact hdg)
    (fun vm₁ hW₁ => ⟨hf.1, hf.2, hPc (T.setVm vm₁) hT hW₁⟩) with ⟨v, vm₁, ⟨U', l2, c2, s2⟩, hW₁, X', ⟨g', mk, t, L, e1, e2, hq, h1, hL, h2, h3⟩, st⟩ | ⟨q, vm₁, ⟨U', l2, c2, s2⟩, hW₁, X', ⟨g', mk, t, L, E, ce, e1, e2, hq, hce, hcv, hcl, h1, hL, h2, h3⟩, st⟩
  · dsimp only [Pt.U, Pt.locs, Pt.cells, Pt.slots] at X' e1 e2 h1 h2 h3 st
    subst h1; subst h2; subst h3
    exact Or.inl ⟨v, (T.setVm vm₁).calling g' mk (Value.ref b :: As).toArray, t, U', L, hT, X', hL, e1, e2, hq, st⟩
  · dsimp only [Pt.U, Pt.locs, Pt.cells, Pt.slots] at X' e1 e2 h1 h2 h3 st hcl
    subst h1; subst h2; subst h3
    exact Or.inr ⟨q, (T.setVm vm₁).calling g' mk (Value.ref b :: As).toArray, t, U', L, E, ce, hT, X', hL, e1, e2, hq, hce, hcv, vx_cls hW₁ hcl, st⟩
theorem vx_runSX {hh : List (Nat × Nat × Nat × Nat)} (S : CallFix p m c cc nL s args Ts own) (hM : vx_Met l y ws rm Pc Qc XC mc ms free) (cw : vx_CSW R s args own index y bytes maxL ret hh ws rm mc ms n) (hp : PreS s H Pc As)
    (hg : g.method = m) (hn : As.length = n) (hsize : g.locals.size = nL) (hstack : g.stack = As.reverse ++ rest) (hW : 2 * g.monitorRoom + (rest.map fun v => v.category).sum ≤ 8) (hdg : decode cc g.pc = .ok (.invokestatic index, 3)) (hf : cells + mc ≤ R.cells ∧ slots + ms ≤ R.slots) :
    vx_Run p l e R s m args below meth c H locs cells slots mc ms g rest (Qc As.toArray) XC free := by
  obtain ⟨⟨hrc, hrs, hfr, hlo, hws, hcw⟩, hcode, hini, hy, hlen, hl, hstt⟩ := cw
  have hK : vx_Back l R p e below s args y 3 8 (PreOf R mc ms Pc) (PostOf Qc mc ms free) (vx_Post XC mc ms free) := vx_backW (hh := hh) (bytes := bytes) (maxL := maxL) (ret := ret) hM hp.1 hrc hrs hfr hlo hws hcw (fun a' U hW => word_at hW (Or.inl (by first | rfl | simp [Cond.onTables, Cond.keeps, Cond.steady])) hini)
  obtain ⟨hx, hb, hml, ho, -⟩ := S
  intro T hT X
  rcases vx_callSX X hx (hh := hh) (bytes := bytes) (maxL := maxL) (ret := ret) ho hl hstt hini hcode hy hK hg (hsize.trans hml.symm) (argsL := As) (rest := rest) (fun sig h => hn.trans (hlen sig h)) hstack hW (by rw [hb]; exact hdg)
    (fun vm₁ hW₁ => ⟨hf.1, hf.2, hp.2 (T.setVm vm₁) hT hW₁⟩) with ⟨v, vm₁, ⟨U', l2, c2, s2⟩, hW₁, X', ⟨g', mk, t, L, e1, e2, hq, h1, hL, h2, h3⟩, st⟩ | ⟨q, vm₁, ⟨U', l2, c2, s2⟩, hW₁, X', ⟨g', mk, t, L, E, ce, e1, e2, hq, hce, hcv, hcl, h1, hL, h2, h3⟩, st⟩
  · dsimp only [Pt.U, Pt.locs, Pt.cells, Pt.slots] at X' e1 e2 h1 h2 h3 st
    subst h1; subst h2; subst h3
    exact Or.inl ⟨v, (T.setVm vm₁).calling g' mk As.toArray, t, U', L, hT, X', hL, e1, e2, hq, st⟩
  · dsimp only [Pt.U, Pt.locs, Pt.cells, Pt.slots] at X' e1 e2 h1 h2 h3 st hcl
    subst h1; subst h2; subst h3
    exact Or.inr ⟨q, (T.setVm vm₁).calling g' mk As.toArray, t, U', L, E, ce, hT, X', hL, e1, e2, hq, hce, hcv, vx_cls hW₁ hcl, st⟩
end
end VXH
theorem vx_ofWH {l : Launch} {y : MethodName} {ws ws' : List Cond} {rm : Room} {Pc : Array Value → State → Prop} {Qc : Array Value → State → Outcome → State → Prop} {XC : String → State → State → Prop} {mc ms : Nat} {free : Addr → Prop} {cc : ByteArray} {maxL : Nat} {ret : Option FieldType} {hh : List (Nat × Nat × Nat × Nat)}
    (hy : plainName y.cls = true) (hw : ws = Cond.codeWith y cc maxL ret hh :: ws')
    (body : ∀ p e s m args below meth c s₁, BodyLoose p l y (headSpec ws rm) cc maxL ret e s m args below meth c s₁ → c.maxLocals = maxL → Pc args s →
      W p l e (headSpec ws rm).room s m args below meth c s.heap [] 0 0 (vx_MQ below Qc XC args s mc ms free) (entryFrame m args maxL)) : vx_Met l y ws rm Pc Qc XC mc ms free := by
  refine MetFree.of_bodyS (code := cc) (maxLocals := maxL) (ret := ret) hy ?_ ?_
  · intro args s m h hn
    obtain ⟨m9, meth, c, hn9, h1, h2, h3, h4, -, h5, h6, -⟩ := Cond.codeWith_spec (atoms_spec (ws := ws) h _ (by rw [hw]; exact List.mem_cons_self))
    cases hn.symm.trans hn9
    exact ⟨meth, c, h1, h2, h3, h4, h5, h6⟩
  · intro p e s m args below meth c s₁ B hml hP _
    have hh0 : s₁.heap = s.heap := by rw [B.state]; rfl
    obtain ⟨t, a1, o, b1, b2, b3⟩ := body p e s m args below meth c s₁ B hml hP s₁ hh0 (Stand.of_body B)
    exact ⟨t, o, a1, b1, b2, b3⟩
/-! ===== END ===== -/

/-! ===== BEGIN printed: names, fields, word lists, decode rows ===== -/
def RX0 : String := "EnginesOut$Chances"
def TX0 : u_T := fun k => match k with
  | 0 => ("EnginesOut$Chances", "best", "[I", true)
  | 1 => ("EnginesOut$Chances", "tried", "[I", true)
  | 2 => ("EnginesOut$Chances", "byEngines", "[I", true)
  | _ => ("EnginesOut$Chances", "hits", "[J", true)
def tyX0 : Nat → FieldType := fun k => match k with
  | 0 => .array .int
  | 1 => .array .int
  | 2 => .array .int
  | _ => .array .long
abbrev wsX00 : List Cond := u_ws RX0 TX0 4
theorem nmX0 : ∀ a, a < 4 → ∀ b, b < 4 → a ≠ b → (TX0 a).2.1 ≠ (TX0 b).2.1 := by decide +kernel
theorem tyX0_ok : ∀ k, k < 4 → parseFieldDescriptor (TX0 k).2.2.1 = some (tyX0 k) := by decide +kernel
abbrev cX0_init : ByteArray := prog_2_method_1_code
def yX0_init : MethodName := ⟨RX0, "<init>", "()V"⟩
abbrev cX0_prepare : ByteArray := prog_2_method_2_code
def yX0_prepare : MethodName := ⟨RX0, "prepare", "(LEnginesOut$Sight;I)V"⟩
abbrev cX0_expectedNow : ByteArray := prog_2_method_3_code
def yX0_expectedNow : MethodName := ⟨RX0, "expectedNow", "(LEnginesOut$World;)I"⟩
abbrev cX0_hitsOf : ByteArray := prog_2_method_4_code
def yX0_hitsOf : MethodName := ⟨RX0, "hitsOf", "(I)J"⟩
abbrev cX0_expected : ByteArray := prog_2_method_5_code
def yX0_expected : MethodName := ⟨RX0, "expected", "(LEnginesOut$Land;J)I"⟩
abbrev cX0_seekBest : ByteArray := prog_2_method_6_code
def yX0_seekBest : MethodName := ⟨RX0, "seekBest", "(LEnginesOut$Land;I)I"⟩
abbrev cX0_nextRow : ByteArray := prog_2_method_7_code
def yX0_nextRow : MethodName := ⟨RX0, "nextRow", "(II)Z"⟩
def RX1 : String := "EnginesOut$Couple"
def TX1 : u_T := fun k => match k with
  | 0 => ("EnginesOut$Couple", "toFirst", "I", false)
  | 1 => ("EnginesOut$Couple", "toSecond", "I", false)
  | 2 => ("EnginesOut$Couple", "longer", "I", false)
  | _ => ("EnginesOut$Couple", "together", "I", false)
def tyX1 : Nat → FieldType := fun k => match k with
  | 0 => .int
  | 1 => .int
  | 2 => .int
  | _ => .int
abbrev wsX10 : List Cond := u_ws RX1 TX1 4
theorem nmX1 : ∀ a, a < 4 → ∀ b, b < 4 → a ≠ b → (TX1 a).2.1 ≠ (TX1 b).2.1 := by decide +kernel
theorem tyX1_ok : ∀ k, k < 4 → parseFieldDescriptor (TX1 k).2.2.1 = some (tyX1 k) := by decide +kernel
abbrev cX1_init : ByteArray := prog_3_method_1_code
def yX1_init : MethodName := ⟨RX1, "<init>", "()V"⟩
abbrev cX1_find : ByteArray := prog_3_method_2_code
def yX1_find : MethodName := ⟨RX1, "find", "(LEnginesOut$World;II)Z"⟩
abbrev cX1_tryBeside : ByteArray := prog_3_method_3_code
def yX1_tryBeside : MethodName := ⟨RX1, "tryBeside", "(LEnginesOut$World;III)V"⟩
abbrev cX1_isLess : ByteArray := prog_3_method_4_code
def yX1_isLess : MethodName := ⟨RX1, "isLess", "(II)Z"⟩
def RX2 : String := "EnginesOut$Crew"
def TX2 : u_T := fun k => match k with
  | 0 => ("EnginesOut$Crew", "posts", "[I", true)
  | 1 => ("EnginesOut$Crew", "modes", "[I", true)
  | 2 => ("EnginesOut$Crew", "readyAt", "[I", true)
  | 3 => ("EnginesOut$Crew", "begun", "[I", true)
  | 4 => ("EnginesOut$Crew", "size", "I", false)
  | 5 => ("EnginesOut$Crew", "beginnings", "I", false)
  | 6 => ("EnginesOut$Crew", "minute", "I", false)
  | 7 => ("EnginesOut$Crew", "calls", "I", false)
  | 8 => ("EnginesOut$Crew", "late", "I", false)
  | 9 => ("EnginesOut$Crew", "lost", "I", false)
  | 10 => ("EnginesOut$Crew", "driven", "I", false)
  | _ => ("EnginesOut$Crew", "moved", "I", false)
def tyX2 : Nat → FieldType := fun k => match k with
  | 0 => .array .int
  | 1 => .array .int
  | 2 => .array .int
  | 3 => .array .int
  | 4 => .int
  | 5 => .int
  | 6 => .int
  | 7 => .int
  | 8 => .int
  | 9 => .int
  | 10 => .int
  | _ => .int
abbrev wsX20 : List Cond := u_ws RX2 TX2 12
theorem nmX2 : ∀ a, a < 12 → ∀ b, b < 12 → a ≠ b → (TX2 a).2.1 ≠ (TX2 b).2.1 := by decide +kernel
theorem tyX2_ok : ∀ k, k < 12 → parseFieldDescriptor (TX2 k).2.2.1 = some (tyX2 k) := by decide +kernel
abbrev cX2_init : ByteArray := prog_4_method_1_code
def yX2_init : MethodName := ⟨RX2, "<init>", "()V"⟩
abbrev cX2_begin : ByteArray := prog_4_method_2_code
def yX2_begin : MethodName := ⟨RX2, "begin", "([II)V"⟩
abbrev cX2_takeOver : ByteArray := prog_4_method_3_code
def yX2_takeOver : MethodName := ⟨RX2, "takeOver", "(LEnginesOut$Crew;)V"⟩
abbrev cX2_nextMinute : ByteArray := prog_4_method_4_code
def yX2_nextMinute : MethodName := ⟨RX2, "nextMinute", "()I"⟩
abbrev cX2_inMode : ByteArray := prog_4_method_5_code
def yX2_inMode : MethodName := ⟨RX2, "inMode", "(I)I"⟩
abbrev cX2_postedAt : ByteArray := prog_4_method_6_code
def yX2_postedAt : MethodName := ⟨RX2, "postedAt", "(I)I"⟩
abbrev cX2_waitOf : ByteArray := prog_4_method_7_code
def yX2_waitOf : MethodName := ⟨RX2, "waitOf", "(I)I"⟩
abbrev cX2_goOut : ByteArray := prog_4_method_8_code
def yX2_goOut : MethodName := ⟨RX2, "goOut", "(III)V"⟩
abbrev cX2_move : ByteArray := prog_4_method_9_code
def yX2_move : MethodName := ⟨RX2, "move", "(III)V"⟩
abbrev cX2_remember : ByteArray := prog_4_method_10_code
def yX2_remember : MethodName := ⟨RX2, "remember", "()V"⟩
abbrev cX2_movedLately : ByteArray := prog_4_method_11_code
def yX2_movedLately : MethodName := ⟨RX2, "movedLately", "()I"⟩
abbrev cX2_waitForMove : ByteArray := prog_4_method_12_code
def yX2_waitForMove : MethodName := ⟨RX2, "waitForMove", "(I)I"⟩
def RX3 : String := "EnginesOut$Land"
def TX3 : u_T := fun k => match k with
  | 0 => ("EnginesOut$Land", "weights", "[I", true)
  | 1 => ("EnginesOut$Land", "lesser", "[I", true)
  | 2 => ("EnginesOut$Land", "greater", "[I", true)
  | 3 => ("EnginesOut$Land", "lengths", "[I", true)
  | 4 => ("EnginesOut$Land", "isShut", "[Z", true)
  | 5 => ("EnginesOut$Land", "ways", "[I", true)
  | 6 => ("EnginesOut$Land", "places", "[I", true)
  | 7 => ("EnginesOut$Land", "roads", "I", false)
  | _ => ("EnginesOut$Land", "stations", "I", false)
def tyX3 : Nat → FieldType := fun k => match k with
  | 0 => .array .int
  | 1 => .array .int
  | 2 => .array .int
  | 3 => .array .int
  | 4 => .array .boolean
  | 5 => .array .int
  | 6 => .array .int
  | 7 => .int
  | _ => .int
abbrev wsX30 : List Cond := u_ws RX3 TX3 9
theorem nmX3 : ∀ a, a < 9 → ∀ b, b < 9 → a ≠ b → (TX3 a).2.1 ≠ (TX3 b).2.1 := by decide +kernel
theorem tyX3_ok : ∀ k, k < 9 → parseFieldDescriptor (TX3 k).2.2.1 = some (tyX3 k) := by decide +kernel
abbrev cX3_init : ByteArray := prog_5_method_1_code
def yX3_init : MethodName := ⟨RX3, "<init>", "()V"⟩
abbrev cX3_empty : ByteArray := prog_5_method_2_code
def yX3_empty : MethodName := ⟨RX3, "empty", "()V"⟩
abbrev cX3_takeOver : ByteArray := prog_5_method_3_code
def yX3_takeOver : MethodName := ⟨RX3, "takeOver", "(LEnginesOut$Land;)V"⟩
abbrev cX3_addRoad : ByteArray := prog_5_method_4_code
def yX3_addRoad : MethodName := ⟨RX3, "addRoad", "(III)V"⟩
abbrev cX3_roadOf : ByteArray := prog_5_method_5_code
def yX3_roadOf : MethodName := ⟨RX3, "roadOf", "(II)I"⟩
abbrev cX3_shutRoads : ByteArray := prog_5_method_6_code
def yX3_shutRoads : MethodName := ⟨RX3, "shutRoads", "()I"⟩
abbrev cX3_measure : ByteArray := prog_5_method_7_code
def yX3_measure : MethodName := ⟨RX3, "measure", "([II)V"⟩
abbrev cX3_shorten : ByteArray := prog_5_method_8_code
def yX3_shorten : MethodName := ⟨RX3, "shorten", "([II)V"⟩
abbrev cX3_wayOf : ByteArray := prog_5_method_9_code
def yX3_wayOf : MethodName := ⟨RX3, "wayOf", "(II)I"⟩
abbrev cX3_wayOfStations : ByteArray := prog_5_method_10_code
def yX3_wayOfStations : MethodName := ⟨RX3, "wayOfStations", "(II)I"⟩
abbrev cX3_placeOf : ByteArray := prog_5_method_11_code
def yX3_placeOf : MethodName := ⟨RX3, "placeOf", "(I)I"⟩
abbrev cX3_isStationAt : ByteArray := prog_5_method_12_code
def yX3_isStationAt : MethodName := ⟨RX3, "isStationAt", "(I)Z"⟩
abbrev cX3_nearestStation : ByteArray := prog_5_method_13_code
def yX3_nearestStation : MethodName := ⟨RX3, "nearestStation", "(I)I"⟩
abbrev cX3_weigh : ByteArray := prog_5_method_14_code
def yX3_weigh : MethodName := ⟨RX3, "weigh", "(I)I"⟩
def RX4 : String := "EnginesOut$Planner"
def TX4 : u_T := fun k => match k with
  | 0 => ("EnginesOut$Planner", "engines", "[I", true)
  | 1 => ("EnginesOut$Planner", "posts", "[I", true)
  | 2 => ("EnginesOut$Planner", "goals", "[I", true)
  | 3 => ("EnginesOut$Planner", "size", "I", false)
  | 4 => ("EnginesOut$Planner", "minutes", "I", false)
  | 5 => ("EnginesOut$Planner", "covered", "I", false)
  | 6 => ("EnginesOut$Planner", "ways", "[I", true)
  | 7 => ("EnginesOut$Planner", "worths", "[I", true)
  | _ => ("EnginesOut$Planner", "stations", "I", false)
def tyX4 : Nat → FieldType := fun k => match k with
  | 0 => .array .int
  | 1 => .array .int
  | 2 => .array .int
  | 3 => .int
  | 4 => .int
  | 5 => .int
  | 6 => .array .int
  | 7 => .array .int
  | _ => .int
abbrev wsX40 : List Cond := u_ws RX4 TX4 9
theorem nmX4 : ∀ a, a < 9 → ∀ b, b < 9 → a ≠ b → (TX4 a).2.1 ≠ (TX4 b).2.1 := by decide +kernel
theorem tyX4_ok : ∀ k, k < 9 → parseFieldDescriptor (TX4 k).2.2.1 = some (tyX4 k) := by decide +kernel
abbrev cX4_init : ByteArray := prog_6_method_1_code
def yX4_init : MethodName := ⟨RX4, "<init>", "()V"⟩
abbrev cX4_prepare : ByteArray := prog_6_method_2_code
def yX4_prepare : MethodName := ⟨RX4, "prepare", "(LEnginesOut$World;LEnginesOut$Sight;)V"⟩
abbrev cX4_gather : ByteArray := prog_6_method_3_code
def yX4_gather : MethodName := ⟨RX4, "gather", "(LEnginesOut$World;)V"⟩
abbrev cX4_fill : ByteArray := prog_6_method_4_code
def yX4_fill : MethodName := ⟨RX4, "fill", "(II)V"⟩
abbrev cX4_worthOf : ByteArray := prog_6_method_5_code
def yX4_worthOf : MethodName := ⟨RX4, "worthOf", "(IIII)I"⟩
abbrev cX4_indexOf : ByteArray := prog_6_method_6_code
def yX4_indexOf : MethodName := ⟨RX4, "indexOf", "(III)I"⟩
abbrev cX4_wayTo : ByteArray := prog_6_method_7_code
def yX4_wayTo : MethodName := ⟨RX4, "wayTo", "(II)I"⟩
abbrev cX4_choose : ByteArray := prog_6_method_8_code
def yX4_choose : MethodName := ⟨RX4, "choose", "(I)V"⟩
abbrev cX4_firstBest : ByteArray := prog_6_method_9_code
def yX4_firstBest : MethodName := ⟨RX4, "firstBest", "(III)I"⟩
def RX5 : String := "EnginesOut$Reader"
def TX5 : u_T := fun k => match k with
  | 0 => ("EnginesOut$Reader", "text", "LEnginesOut$Text;", true)
  | 1 => ("EnginesOut$Reader", "draft", "LEnginesOut$Land;", true)
  | 2 => ("EnginesOut$Reader", "posts", "[I", true)
  | 3 => ("EnginesOut$Reader", "engines", "I", false)
  | 4 => ("EnginesOut$Reader", "at", "I", false)
  | 5 => ("EnginesOut$Reader", "fault", "I", false)
  | _ => ("EnginesOut$Reader", "weighed", "I", false)
def tyX5 : Nat → FieldType := fun k => match k with
  | 0 => .object "EnginesOut$Text"
  | 1 => .object "EnginesOut$Land"
  | 2 => .array .int
  | 3 => .int
  | 4 => .int
  | 5 => .int
  | _ => .int
abbrev wsX50 : List Cond := u_ws RX5 TX5 7
theorem nmX5 : ∀ a, a < 7 → ∀ b, b < 7 → a ≠ b → (TX5 a).2.1 ≠ (TX5 b).2.1 := by decide +kernel
theorem tyX5_ok : ∀ k, k < 7 → parseFieldDescriptor (TX5 k).2.2.1 = some (tyX5 k) := by decide +kernel
abbrev cX5_init : ByteArray := prog_7_method_1_code
def yX5_init : MethodName := ⟨RX5, "<init>", "()V"⟩
abbrev cX5_read : ByteArray := prog_7_method_2_code
def yX5_read : MethodName := ⟨RX5, "read", "()I"⟩
abbrev cX5_readLine : ByteArray := prog_7_method_3_code
def yX5_readLine : MethodName := ⟨RX5, "readLine", "()V"⟩
abbrev cX5_readRoad : ByteArray := prog_7_method_4_code
def yX5_readRoad : MethodName := ⟨RX5, "readRoad", "()V"⟩
abbrev cX5_readWeight : ByteArray := prog_7_method_5_code
def yX5_readWeight : MethodName := ⟨RX5, "readWeight", "()V"⟩
abbrev cX5_readStations : ByteArray := prog_7_method_6_code
def yX5_readStations : MethodName := ⟨RX5, "readStations", "()V"⟩
abbrev cX5_readEngines : ByteArray := prog_7_method_7_code
def yX5_readEngines : MethodName := ⟨RX5, "readEngines", "()V"⟩
abbrev cX5_isCommaNext : ByteArray := prog_7_method_8_code
def yX5_isCommaNext : MethodName := ⟨RX5, "isCommaNext", "()Z"⟩
abbrev cX5_isDigitNext : ByteArray := prog_7_method_9_code
def yX5_isDigitNext : MethodName := ⟨RX5, "isDigitNext", "()Z"⟩
abbrev cX5_take : ByteArray := prog_7_method_10_code
def yX5_take : MethodName := ⟨RX5, "take", "(I)V"⟩
abbrev cX5_takeNumber : ByteArray := prog_7_method_11_code
def yX5_takeNumber : MethodName := ⟨RX5, "takeNumber", "(II)I"⟩
abbrev cX5_refuse : ByteArray := prog_7_method_12_code
def yX5_refuse : MethodName := ⟨RX5, "refuse", "(I)V"⟩
def RX6 : String := "EnginesOut$Row"
def TX6 : u_T := fun k => match k with
  | 0 => ("EnginesOut$Row", "numbers", "[J", true)
  | _ => ("EnginesOut$Row", "size", "I", false)
def tyX6 : Nat → FieldType := fun k => match k with
  | 0 => .array .long
  | _ => .int
abbrev wsX60 : List Cond := u_ws RX6 TX6 2
theorem nmX6 : ∀ a, a < 2 → ∀ b, b < 2 → a ≠ b → (TX6 a).2.1 ≠ (TX6 b).2.1 := by decide +kernel
theorem tyX6_ok : ∀ k, k < 2 → parseFieldDescriptor (TX6 k).2.2.1 = some (tyX6 k) := by decide +kernel
abbrev cX6_init : ByteArray := prog_8_method_1_code
def yX6_init : MethodName := ⟨RX6, "<init>", "()V"⟩
abbrev cX6_clear : ByteArray := prog_8_method_2_code
def yX6_clear : MethodName := ⟨RX6, "clear", "()V"⟩
abbrev cX6_add : ByteArray := prog_8_method_3_code
def yX6_add : MethodName := ⟨RX6, "add", "(J)V"⟩
abbrev cX6_tell : ByteArray := prog_8_method_4_code
def yX6_tell : MethodName := ⟨RX6, "tell", "(J)V"⟩
abbrev cX6_tell_ : ByteArray := prog_8_method_5_code
def yX6_tell_ : MethodName := ⟨RX6, "tell", "(JJ)V"⟩
def RX7 : String := "EnginesOut$Sight"
def TX7 : u_T := fun k => match k with
  | 0 => ("EnginesOut$Sight", "nodesOf", "[I", true)
  | 1 => ("EnginesOut$Sight", "ways", "[I", true)
  | 2 => ("EnginesOut$Sight", "once", "I", false)
  | _ => ("EnginesOut$Sight", "twofold", "I", false)
def tyX7 : Nat → FieldType := fun k => match k with
  | 0 => .array .int
  | 1 => .array .int
  | 2 => .int
  | _ => .int
abbrev wsX70 : List Cond := u_ws RX7 TX7 4
theorem nmX7 : ∀ a, a < 4 → ∀ b, b < 4 → a ≠ b → (TX7 a).2.1 ≠ (TX7 b).2.1 := by decide +kernel
theorem tyX7_ok : ∀ k, k < 4 → parseFieldDescriptor (TX7 k).2.2.1 = some (tyX7 k) := by decide +kernel
abbrev cX7_init : ByteArray := prog_9_method_1_code
def yX7_init : MethodName := ⟨RX7, "<init>", "()V"⟩
abbrev cX7_look : ByteArray := prog_9_method_2_code
def yX7_look : MethodName := ⟨RX7, "look", "(LEnginesOut$Land;[II)V"⟩
abbrev cX7_putOne : ByteArray := prog_9_method_3_code
def yX7_putOne : MethodName := ⟨RX7, "putOne", "(I)V"⟩
abbrev cX7_putEngines : ByteArray := prog_9_method_4_code
def yX7_putEngines : MethodName := ⟨RX7, "putEngines", "(LEnginesOut$Crew;I)V"⟩
abbrev cX7_putStations : ByteArray := prog_9_method_5_code
def yX7_putStations : MethodName := ⟨RX7, "putStations", "(I)V"⟩
abbrev cX7_covered : ByteArray := prog_9_method_6_code
def yX7_covered : MethodName := ⟨RX7, "covered", "(LEnginesOut$Land;)I"⟩
abbrev cX7_doubled : ByteArray := prog_9_method_7_code
def yX7_doubled : MethodName := ⟨RX7, "doubled", "(LEnginesOut$Land;)I"⟩
abbrev cX7_coverOf : ByteArray := prog_9_method_8_code
def yX7_coverOf : MethodName := ⟨RX7, "coverOf", "(LEnginesOut$Land;I)I"⟩
abbrev cX7_bestStations : ByteArray := prog_9_method_9_code
def yX7_bestStations : MethodName := ⟨RX7, "bestStations", "(LEnginesOut$Land;IZ)I"⟩
abbrev cX7_bestBeside : ByteArray := prog_9_method_10_code
def yX7_bestBeside : MethodName := ⟨RX7, "bestBeside", "(LEnginesOut$Land;I)I"⟩
def RX8 : String := "EnginesOut$Text"
def TX8 : u_T := fun k => match k with
  | 0 => ("EnginesOut$Text", "signs", "[I", true)
  | _ => ("EnginesOut$Text", "size", "I", false)
def tyX8 : Nat → FieldType := fun k => match k with
  | 0 => .array .int
  | _ => .int
abbrev wsX80 : List Cond := u_ws RX8 TX8 2
theorem nmX8 : ∀ a, a < 2 → ∀ b, b < 2 → a ≠ b → (TX8 a).2.1 ≠ (TX8 b).2.1 := by decide +kernel
theorem tyX8_ok : ∀ k, k < 2 → parseFieldDescriptor (TX8 k).2.2.1 = some (tyX8 k) := by decide +kernel
abbrev cX8_init : ByteArray := prog_10_method_1_code
def yX8_init : MethodName := ⟨RX8, "<init>", "()V"⟩
abbrev cX8_append : ByteArray := prog_10_method_2_code
def yX8_append : MethodName := ⟨RX8, "append", "(I)I"⟩
abbrev cX8_cutTo : ByteArray := prog_10_method_3_code
def yX8_cutTo : MethodName := ⟨RX8, "cutTo", "(I)Z"⟩
abbrev cX8_signAt : ByteArray := prog_10_method_4_code
def yX8_signAt : MethodName := ⟨RX8, "signAt", "(I)I"⟩
def RX9 : String := "EnginesOut$World"
def TX9 : u_T := fun k => match k with
  | 0 => ("EnginesOut$World", "land", "LEnginesOut$Land;", true)
  | 1 => ("EnginesOut$World", "crew", "LEnginesOut$Crew;", true)
  | 2 => ("EnginesOut$World", "reach", "I", false)
  | 3 => ("EnginesOut$World", "service", "I", false)
  | 4 => ("EnginesOut$World", "limit", "I", false)
  | _ => ("EnginesOut$World", "random", "I", false)
def tyX9 : Nat → FieldType := fun k => match k with
  | 0 => .object "EnginesOut$Land"
  | 1 => .object "EnginesOut$Crew"
  | 2 => .int
  | 3 => .int
  | 4 => .int
  | _ => .int
abbrev wsX90 : List Cond := u_ws RX9 TX9 6
theorem nmX9 : ∀ a, a < 6 → ∀ b, b < 6 → a ≠ b → (TX9 a).2.1 ≠ (TX9 b).2.1 := by decide +kernel
theorem tyX9_ok : ∀ k, k < 6 → parseFieldDescriptor (TX9 k).2.2.1 = some (tyX9 k) := by decide +kernel
abbrev cX9_init : ByteArray := prog_11_method_1_code
def yX9_init : MethodName := ⟨RX9, "<init>", "()V"⟩
abbrev cX9_takeOver : ByteArray := prog_11_method_2_code
def yX9_takeOver : MethodName := ⟨RX9, "takeOver", "(LEnginesOut$World;)V"⟩
abbrev cX9_draw : ByteArray := prog_11_method_3_code
def yX9_draw : MethodName := ⟨RX9, "draw", "(I)I"⟩
abbrev cX9_mayMove : ByteArray := prog_11_method_4_code
def yX9_mayMove : MethodName := ⟨RX9, "mayMove", "()I"⟩
abbrev cX9_readyWay : ByteArray := prog_11_method_5_code
def yX9_readyWay : MethodName := ⟨RX9, "readyWay", "(II)I"⟩
abbrev cX9_whoGoes : ByteArray := prog_11_method_6_code
def yX9_whoGoes : MethodName := ⟨RX9, "whoGoes", "(I)I"⟩
abbrev cX9_nearestWay : ByteArray := prog_11_method_7_code
def yX9_nearestWay : MethodName := ⟨RX9, "nearestWay", "(I)I"⟩
abbrev cX9_send : ByteArray := prog_11_method_8_code
def yX9_send : MethodName := ⟨RX9, "send", "(I)I"⟩
abbrev cX9_callSomewhere : ByteArray := prog_11_method_9_code
def yX9_callSomewhere : MethodName := ⟨RX9, "callSomewhere", "()V"⟩
def RX10 : String := "EnginesOut"
def TX10 : u_T := fun k => match k with
  | 0 => ("EnginesOut", "told", "LEnginesOut$Row;", true)
  | 1 => ("EnginesOut", "reader", "LEnginesOut$Reader;", true)
  | 2 => ("EnginesOut", "now", "LEnginesOut$World;", true)
  | 3 => ("EnginesOut", "kept", "LEnginesOut$World;", true)
  | 4 => ("EnginesOut", "sight", "LEnginesOut$Sight;", true)
  | 5 => ("EnginesOut", "couple", "LEnginesOut$Couple;", true)
  | 6 => ("EnginesOut", "chances", "LEnginesOut$Chances;", true)
  | 7 => ("EnginesOut", "planner", "LEnginesOut$Planner;", false)
  | _ => ("EnginesOut", "isKept", "Z", false)
def tyX10 : Nat → FieldType := fun k => match k with
  | 0 => .object "EnginesOut$Row"
  | 1 => .object "EnginesOut$Reader"
  | 2 => .object "EnginesOut$World"
  | 3 => .object "EnginesOut$World"
  | 4 => .object "EnginesOut$Sight"
  | 5 => .object "EnginesOut$Couple"
  | 6 => .object "EnginesOut$Chances"
  | 7 => .object "EnginesOut$Planner"
  | _ => .boolean
abbrev wsX100 : List Cond := u_ws RX10 TX10 9
theorem nmX10 : ∀ a, a < 9 → ∀ b, b < 9 → a ≠ b → (TX10 a).2.1 ≠ (TX10 b).2.1 := by decide +kernel
theorem tyX10_ok : ∀ k, k < 9 → parseFieldDescriptor (TX10 k).2.2.1 = some (tyX10 k) := by decide +kernel
abbrev cX10_init : ByteArray := prog_1_method_1_code
def yX10_init : MethodName := ⟨RX10, "<init>", "()V"⟩
abbrev cX10_sign : ByteArray := prog_1_method_2_code
def yX10_sign : MethodName := ⟨RX10, "sign", "(I)I"⟩
abbrev cX10_end : ByteArray := prog_1_method_3_code
def yX10_end : MethodName := ⟨RX10, "end", "(I)Z"⟩
abbrev cX10_land : ByteArray := prog_1_method_4_code
def yX10_land : MethodName := ⟨RX10, "land", "()I"⟩
abbrev cX10_reach : ByteArray := prog_1_method_5_code
def yX10_reach : MethodName := ⟨RX10, "reach", "(I)I"⟩
abbrev cX10_service : ByteArray := prog_1_method_6_code
def yX10_service : MethodName := ⟨RX10, "service", "(I)I"⟩
abbrev cX10_limit : ByteArray := prog_1_method_7_code
def yX10_limit : MethodName := ⟨RX10, "limit", "(I)I"⟩
abbrev cX10_shuts : ByteArray := prog_1_method_8_code
def yX10_shuts : MethodName := ⟨RX10, "shuts", "(IIZ)I"⟩
abbrev cX10_far : ByteArray := prog_1_method_9_code
def yX10_far : MethodName := ⟨RX10, "far", "(II)I"⟩
abbrev cX10_reached : ByteArray := prog_1_method_10_code
def yX10_reached : MethodName := ⟨RX10, "reached", "(I)I"⟩
abbrev cX10_node : ByteArray := prog_1_method_11_code
def yX10_node : MethodName := ⟨RX10, "node", "(II)I"⟩
abbrev cX10_engine : ByteArray := prog_1_method_12_code
def yX10_engine : MethodName := ⟨RX10, "engine", "(II)I"⟩
abbrev cX10_station : ByteArray := prog_1_method_13_code
def yX10_station : MethodName := ⟨RX10, "station", "(I)I"⟩
abbrev cX10_call : ByteArray := prog_1_method_14_code
def yX10_call : MethodName := ⟨RX10, "call", "(I)I"⟩
abbrev cX10_pair : ByteArray := prog_1_method_15_code
def yX10_pair : MethodName := ⟨RX10, "pair", "(II)I"⟩
abbrev cX10_worstPair : ByteArray := prog_1_method_16_code
def yX10_worstPair : MethodName := ⟨RX10, "worstPair", "()I"⟩
abbrev cX10_pass : ByteArray := prog_1_method_17_code
def yX10_pass : MethodName := ⟨RX10, "pass", "(I)I"⟩
abbrev cX10_seed : ByteArray := prog_1_method_18_code
def yX10_seed : MethodName := ⟨RX10, "seed", "(I)I"⟩
abbrev cX10_storms : ByteArray := prog_1_method_19_code
def yX10_storms : MethodName := ⟨RX10, "storms", "(II)I"⟩
abbrev cX10_cover : ByteArray := prog_1_method_20_code
def yX10_cover : MethodName := ⟨RX10, "cover", "()I"⟩
abbrev cX10_covers : ByteArray := prog_1_method_21_code
def yX10_covers : MethodName := ⟨RX10, "covers", "(I)I"⟩
abbrev cX10_share : ByteArray := prog_1_method_22_code
def yX10_share : MethodName := ⟨RX10, "share", "()I"⟩
abbrev cX10_best : ByteArray := prog_1_method_23_code
def yX10_best : MethodName := ⟨RX10, "best", "(I)I"⟩
abbrev cX10_nested : ByteArray := prog_1_method_24_code
def yX10_nested : MethodName := ⟨RX10, "nested", "()I"⟩
abbrev cX10_greedy : ByteArray := prog_1_method_25_code
def yX10_greedy : MethodName := ⟨RX10, "greedy", "()I"⟩
abbrev cX10_dearest : ByteArray := prog_1_method_26_code
def yX10_dearest : MethodName := ⟨RX10, "dearest", "()I"⟩
abbrev cX10_dearestRoad : ByteArray := prog_1_method_27_code
def yX10_dearestRoad : MethodName := ⟨RX10, "dearestRoad", "()I"⟩
abbrev cX10_least : ByteArray := prog_1_method_28_code
def yX10_least : MethodName := ⟨RX10, "least", "(I)I"⟩
abbrev cX10_twice : ByteArray := prog_1_method_29_code
def yX10_twice : MethodName := ⟨RX10, "twice", "(I)I"⟩
abbrev cX10_spread : ByteArray := prog_1_method_30_code
def yX10_spread : MethodName := ⟨RX10, "spread", "()I"⟩
abbrev cX10_state : ByteArray := prog_1_method_31_code
def yX10_state : MethodName := ⟨RX10, "state", "(I)I"⟩
abbrev cX10_worst : ByteArray := prog_1_method_32_code
def yX10_worst : MethodName := ⟨RX10, "worst", "(I)I"⟩
abbrev cX10_states : ByteArray := prog_1_method_33_code
def yX10_states : MethodName := ⟨RX10, "states", "(I)I"⟩
abbrev cX10_expects : ByteArray := prog_1_method_34_code
def yX10_expects : MethodName := ⟨RX10, "expects", "(I)I"⟩
abbrev cX10_bestFor : ByteArray := prog_1_method_35_code
def yX10_bestFor : MethodName := ⟨RX10, "bestFor", "(I)I"⟩
abbrev cX10_regret : ByteArray := prog_1_method_36_code
def yX10_regret : MethodName := ⟨RX10, "regret", "()I"⟩
abbrev cX10_moves : ByteArray := prog_1_method_37_code
def yX10_moves : MethodName := ⟨RX10, "moves", "(I)I"⟩
abbrev cX10_up : ByteArray := prog_1_method_38_code
def yX10_up : MethodName := ⟨RX10, "up", "(I)I"⟩
abbrev cX10_post : ByteArray := prog_1_method_39_code
def yX10_post : MethodName := ⟨RX10, "post", "(II)I"⟩
abbrev cX10_swap : ByteArray := prog_1_method_40_code
def yX10_swap : MethodName := ⟨RX10, "swap", "(II)I"⟩
abbrev cX10_left : ByteArray := prog_1_method_41_code
def yX10_left : MethodName := ⟨RX10, "left", "()I"⟩
abbrev cX10_needs : ByteArray := prog_1_method_42_code
def yX10_needs : MethodName := ⟨RX10, "needs", "()I"⟩
abbrev cX10_keeps : ByteArray := prog_1_method_43_code
def yX10_keeps : MethodName := ⟨RX10, "keeps", "()I"⟩
abbrev cX10_back : ByteArray := prog_1_method_44_code
def yX10_back : MethodName := ⟨RX10, "back", "()I"⟩
abbrev cX10_count : ByteArray := prog_1_method_45_code
def yX10_count : MethodName := ⟨RX10, "count", "(I)I"⟩
abbrev cX10_row : ByteArray := prog_1_method_46_code
def yX10_row : MethodName := ⟨RX10, "row", "(I)J"⟩
abbrev cX10_isNode : ByteArray := prog_1_method_47_code
def yX10_isNode : MethodName := ⟨RX10, "isNode", "(I)Z"⟩
abbrev cX10_isStation : ByteArray := prog_1_method_48_code
def yX10_isStation : MethodName := ⟨RX10, "isStation", "(I)Z"⟩
abbrev cX10_isEngine : ByteArray := prog_1_method_49_code
def yX10_isEngine : MethodName := ⟨RX10, "isEngine", "(I)Z"⟩
abbrev cX10_look : ByteArray := prog_1_method_50_code
def yX10_look : MethodName := ⟨RX10, "look", "()V"⟩
abbrev cX10_coverNow : ByteArray := prog_1_method_51_code
def yX10_coverNow : MethodName := ⟨RX10, "coverNow", "()I"⟩
abbrev cX10_coverWithout : ByteArray := prog_1_method_52_code
def yX10_coverWithout : MethodName := ⟨RX10, "coverWithout", "(I)I"⟩
abbrev cX10_greatestCover : ByteArray := prog_1_method_53_code
def yX10_greatestCover : MethodName := ⟨RX10, "greatestCover", "()I"⟩
abbrev cX10_readyThatReach : ByteArray := prog_1_method_54_code
def yX10_readyThatReach : MethodName := ⟨RX10, "readyThatReach", "(I)I"⟩
abbrev cX10_statesOf : ByteArray := prog_1_method_55_code
def yX10_statesOf : MethodName := ⟨RX10, "statesOf", "(II)I"⟩
abbrev cX10_planned : ByteArray := prog_1_method_56_code
def yX10_planned : MethodName := ⟨RX10, "planned", "()LEnginesOut$Planner;"⟩
abbrev cX10_quotientBits : ByteArray := prog_1_method_57_code
def yX10_quotientBits : MethodName := ⟨RX10, "quotientBits", "(II)I"⟩
def RX11 : String := "EnginesOutModel"
def TX11 : u_T := fun k => match k with
  | 0 => ("EnginesOutModel", "w", "[I", true)
  | 1 => ("EnginesOutModel", "kept", "[I", true)
  | 2 => ("EnginesOutModel", "isKept", "Z", false)
  | 3 => ("EnginesOutModel", "text", "[B", true)
  | 4 => ("EnginesOutModel", "typed", "I", false)
  | 5 => ("EnginesOutModel", "row", "[J", true)
  | 6 => ("EnginesOutModel", "rowMany", "I", false)
  | 7 => ("EnginesOutModel", "thrown", "I", false)
  | 8 => ("EnginesOutModel", "read", "[I", true)
  | 9 => ("EnginesOutModel", "size", "I", false)
  | 10 => ("EnginesOutModel", "here", "I", false)
  | 11 => ("EnginesOutModel", "wrong", "I", false)
  | 12 => ("EnginesOutModel", "lines", "I", false)
  | 13 => ("EnginesOutModel", "hasStations", "Z", false)
  | 14 => ("EnginesOutModel", "hasEngines", "Z", false)
  | 15 => ("EnginesOutModel", "weighed", "I", false)
  | 16 => ("EnginesOutModel", "far", "[I", true)
  | 17 => ("EnginesOutModel", "reaches", "[I", true)
  | 18 => ("EnginesOutModel", "pairFirst", "I", false)
  | 19 => ("EnginesOutModel", "pairOther", "I", false)
  | 20 => ("EnginesOutModel", "pairLonger", "I", false)
  | 21 => ("EnginesOutModel", "stateOnce", "I", false)
  | 22 => ("EnginesOutModel", "stateTwice", "I", false)
  | 23 => ("EnginesOutModel", "sure", "[I", true)
  | 24 => ("EnginesOutModel", "tried", "[I", true)
  | 25 => ("EnginesOutModel", "found", "[I", true)
  | 26 => ("EnginesOutModel", "then", "[I", true)
  | 27 => ("EnginesOutModel", "bestThen", "[I", true)
  | 28 => ("EnginesOutModel", "bestCover", "I", false)
  | 29 => ("EnginesOutModel", "bestMoved", "I", false)
  | _ => ("EnginesOutModel", "bestMinutes", "I", false)
def tyX11 : Nat → FieldType := fun k => match k with
  | 0 => .array .int
  | 1 => .array .int
  | 2 => .boolean
  | 3 => .array .byte
  | 4 => .int
  | 5 => .array .long
  | 6 => .int
  | 7 => .int
  | 8 => .array .int
  | 9 => .int
  | 10 => .int
  | 11 => .int
  | 12 => .int
  | 13 => .boolean
  | 14 => .boolean
  | 15 => .int
  | 16 => .array .int
  | 17 => .array .int
  | 18 => .int
  | 19 => .int
  | 20 => .int
  | 21 => .int
  | 22 => .int
  | 23 => .array .int
  | 24 => .array .int
  | 25 => .array .int
  | 26 => .array .int
  | 27 => .array .int
  | 28 => .int
  | 29 => .int
  | _ => .int
abbrev wsX110 : List Cond := u_ws RX11 TX11 31
theorem nmX11 : ∀ a, a < 31 → ∀ b, b < 31 → a ≠ b → (TX11 a).2.1 ≠ (TX11 b).2.1 := by decide +kernel
theorem tyX11_ok : ∀ k, k < 31 → parseFieldDescriptor (TX11 k).2.2.1 = some (tyX11 k) := by decide +kernel
abbrev cX11_init : ByteArray := prog_13_method_1_code
def yX11_init : MethodName := ⟨RX11, "<init>", "()V"⟩
abbrev cX11_thrown : ByteArray := prog_13_method_2_code
def yX11_thrown : MethodName := ⟨RX11, "thrown", "()I"⟩
abbrev cX11_in : ByteArray := prog_13_method_3_code
def yX11_in : MethodName := ⟨RX11, "in", "(JJJ)Z"⟩
abbrev cX11_lost : ByteArray := prog_13_method_4_code
def yX11_lost : MethodName := ⟨RX11, "lost", "()I"⟩
abbrev cX11_tell : ByteArray := prog_13_method_5_code
def yX11_tell : MethodName := ⟨RX11, "tell", "(J)V"⟩
abbrev cX11_ones : ByteArray := prog_13_method_6_code
def yX11_ones : MethodName := ⟨RX11, "ones", "(I)I"⟩
abbrev cX11_sign : ByteArray := prog_13_method_7_code
def yX11_sign : MethodName := ⟨RX11, "sign", "(I)I"⟩
abbrev cX11_end : ByteArray := prog_13_method_8_code
def yX11_end : MethodName := ⟨RX11, "end", "(I)Z"⟩
abbrev cX11_isNode : ByteArray := prog_13_method_9_code
def yX11_isNode : MethodName := ⟨RX11, "isNode", "(I)Z"⟩
abbrev cX11_isStation : ByteArray := prog_13_method_10_code
def yX11_isStation : MethodName := ⟨RX11, "isStation", "(I)Z"⟩
abbrev cX11_isEngine : ByteArray := prog_13_method_11_code
def yX11_isEngine : MethodName := ⟨RX11, "isEngine", "(I)Z"⟩
abbrev cX11_sees : ByteArray := prog_13_method_12_code
def yX11_sees : MethodName := ⟨RX11, "sees", "()I"⟩
abbrev cX11_fault : ByteArray := prog_13_method_13_code
def yX11_fault : MethodName := ⟨RX11, "fault", "(I)V"⟩
abbrev cX11_expect : ByteArray := prog_13_method_14_code
def yX11_expect : MethodName := ⟨RX11, "expect", "(C)V"⟩
abbrev cX11_number : ByteArray := prog_13_method_15_code
def yX11_number : MethodName := ⟨RX11, "number", "(II)I"⟩
abbrev cX11_readsRoad : ByteArray := prog_13_method_16_code
def yX11_readsRoad : MethodName := ⟨RX11, "readsRoad", "()V"⟩
abbrev cX11_readsWeight : ByteArray := prog_13_method_17_code
def yX11_readsWeight : MethodName := ⟨RX11, "readsWeight", "()V"⟩
abbrev cX11_isToldStation : ByteArray := prog_13_method_18_code
def yX11_isToldStation : MethodName := ⟨RX11, "isToldStation", "(I)Z"⟩
abbrev cX11_readsStations : ByteArray := prog_13_method_19_code
def yX11_readsStations : MethodName := ⟨RX11, "readsStations", "()V"⟩
abbrev cX11_readsEngines : ByteArray := prog_13_method_20_code
def yX11_readsEngines : MethodName := ⟨RX11, "readsEngines", "()V"⟩
abbrev cX11_readsLine : ByteArray := prog_13_method_21_code
def yX11_readsLine : MethodName := ⟨RX11, "readsLine", "()V"⟩
abbrev cX11_land : ByteArray := prog_13_method_22_code
def yX11_land : MethodName := ⟨RX11, "land", "()I"⟩
abbrev cX11_sets : ByteArray := prog_13_method_23_code
def yX11_sets : MethodName := ⟨RX11, "sets", "(IIII)I"⟩
abbrev cX11_reach : ByteArray := prog_13_method_24_code
def yX11_reach : MethodName := ⟨RX11, "reach", "(I)I"⟩
abbrev cX11_service : ByteArray := prog_13_method_25_code
def yX11_service : MethodName := ⟨RX11, "service", "(I)I"⟩
abbrev cX11_limit : ByteArray := prog_13_method_26_code
def yX11_limit : MethodName := ⟨RX11, "limit", "(I)I"⟩
abbrev cX11_isOpen : ByteArray := prog_13_method_27_code
def yX11_isOpen : MethodName := ⟨RX11, "isOpen", "(II)Z"⟩
abbrev cX11_laysFar : ByteArray := prog_13_method_28_code
def yX11_laysFar : MethodName := ⟨RX11, "laysFar", "()V"⟩
abbrev cX11_farOf : ByteArray := prog_13_method_29_code
def yX11_farOf : MethodName := ⟨RX11, "farOf", "(II)I"⟩
abbrev cX11_shutMany : ByteArray := prog_13_method_30_code
def yX11_shutMany : MethodName := ⟨RX11, "shutMany", "()I"⟩
abbrev cX11_setsShut : ByteArray := prog_13_method_31_code
def yX11_setsShut : MethodName := ⟨RX11, "setsShut", "(III)V"⟩
abbrev cX11_shuts : ByteArray := prog_13_method_32_code
def yX11_shuts : MethodName := ⟨RX11, "shuts", "(IIZ)I"⟩
abbrev cX11_far : ByteArray := prog_13_method_33_code
def yX11_far : MethodName := ⟨RX11, "far", "(II)I"⟩
abbrev cX11_lays : ByteArray := prog_13_method_34_code
def yX11_lays : MethodName := ⟨RX11, "lays", "()V"⟩
abbrev cX11_weightOf : ByteArray := prog_13_method_35_code
def yX11_weightOf : MethodName := ⟨RX11, "weightOf", "(I)I"⟩
abbrev cX11_isReady : ByteArray := prog_13_method_36_code
def yX11_isReady : MethodName := ⟨RX11, "isReady", "(I)Z"⟩
abbrev cX11_reached : ByteArray := prog_13_method_37_code
def yX11_reached : MethodName := ⟨RX11, "reached", "(I)I"⟩
abbrev cX11_readyFor : ByteArray := prog_13_method_38_code
def yX11_readyFor : MethodName := ⟨RX11, "readyFor", "(I)I"⟩
abbrev cX11_wayOf : ByteArray := prog_13_method_39_code
def yX11_wayOf : MethodName := ⟨RX11, "wayOf", "(II)I"⟩
abbrev cX11_nearestStation : ByteArray := prog_13_method_40_code
def yX11_nearestStation : MethodName := ⟨RX11, "nearestStation", "(I)I"⟩
abbrev cX11_goer : ByteArray := prog_13_method_41_code
def yX11_goer : MethodName := ⟨RX11, "goer", "(I)I"⟩
abbrev cX11_node : ByteArray := prog_13_method_42_code
def yX11_node : MethodName := ⟨RX11, "node", "(II)I"⟩
abbrev cX11_engine : ByteArray := prog_13_method_43_code
def yX11_engine : MethodName := ⟨RX11, "engine", "(II)I"⟩
abbrev cX11_station : ByteArray := prog_13_method_44_code
def yX11_station : MethodName := ⟨RX11, "station", "(I)I"⟩
abbrev cX11_calls : ByteArray := prog_13_method_45_code
def yX11_calls : MethodName := ⟨RX11, "calls", "(I)I"⟩
abbrev cX11_call : ByteArray := prog_13_method_46_code
def yX11_call : MethodName := ⟨RX11, "call", "(I)I"⟩
abbrev cX11_canGo : ByteArray := prog_13_method_47_code
def yX11_canGo : MethodName := ⟨RX11, "canGo", "(II)Z"⟩
abbrev cX11_pairOf : ByteArray := prog_13_method_48_code
def yX11_pairOf : MethodName := ⟨RX11, "pairOf", "(II)I"⟩
abbrev cX11_pair : ByteArray := prog_13_method_49_code
def yX11_pair : MethodName := ⟨RX11, "pair", "(II)I"⟩
abbrev cX11_worstPair : ByteArray := prog_13_method_50_code
def yX11_worstPair : MethodName := ⟨RX11, "worstPair", "()I"⟩
abbrev cX11_passesOne : ByteArray := prog_13_method_51_code
def yX11_passesOne : MethodName := ⟨RX11, "passesOne", "()I"⟩
abbrev cX11_pass : ByteArray := prog_13_method_52_code
def yX11_pass : MethodName := ⟨RX11, "pass", "(I)I"⟩
abbrev cX11_seed : ByteArray := prog_13_method_53_code
def yX11_seed : MethodName := ⟨RX11, "seed", "(I)I"⟩
abbrev cX11_draw : ByteArray := prog_13_method_54_code
def yX11_draw : MethodName := ⟨RX11, "draw", "(I)I"⟩
abbrev cX11_allWeights : ByteArray := prog_13_method_55_code
def yX11_allWeights : MethodName := ⟨RX11, "allWeights", "()I"⟩
abbrev cX11_nodeAt : ByteArray := prog_13_method_56_code
def yX11_nodeAt : MethodName := ⟨RX11, "nodeAt", "(I)I"⟩
abbrev cX11_storms : ByteArray := prog_13_method_57_code
def yX11_storms : MethodName := ⟨RX11, "storms", "(II)I"⟩
abbrev cX11_reachedNow : ByteArray := prog_13_method_58_code
def yX11_reachedNow : MethodName := ⟨RX11, "reachedNow", "()I"⟩
abbrev cX11_twiceNow : ByteArray := prog_13_method_59_code
def yX11_twiceNow : MethodName := ⟨RX11, "twiceNow", "()I"⟩
abbrev cX11_cover : ByteArray := prog_13_method_60_code
def yX11_cover : MethodName := ⟨RX11, "cover", "()I"⟩
abbrev cX11_reachedBy : ByteArray := prog_13_method_61_code
def yX11_reachedBy : MethodName := ⟨RX11, "reachedBy", "(I)I"⟩
abbrev cX11_twiceBy : ByteArray := prog_13_method_62_code
def yX11_twiceBy : MethodName := ⟨RX11, "twiceBy", "(I)I"⟩
abbrev cX11_isSet : ByteArray := prog_13_method_63_code
def yX11_isSet : MethodName := ⟨RX11, "isSet", "(II)Z"⟩
abbrev cX11_covers : ByteArray := prog_13_method_64_code
def yX11_covers : MethodName := ⟨RX11, "covers", "(I)I"⟩
abbrev cX11_share : ByteArray := prog_13_method_65_code
def yX11_share : MethodName := ⟨RX11, "share", "()I"⟩
abbrev cX11_bestSet : ByteArray := prog_13_method_66_code
def yX11_bestSet : MethodName := ⟨RX11, "bestSet", "(I)I"⟩
abbrev cX11_best : ByteArray := prog_13_method_67_code
def yX11_best : MethodName := ⟨RX11, "best", "(I)I"⟩
abbrev cX11_twice : ByteArray := prog_13_method_68_code
def yX11_twice : MethodName := ⟨RX11, "twice", "(I)I"⟩
abbrev cX11_least : ByteArray := prog_13_method_69_code
def yX11_least : MethodName := ⟨RX11, "least", "(I)I"⟩
abbrev cX11_spread : ByteArray := prog_13_method_70_code
def yX11_spread : MethodName := ⟨RX11, "spread", "()I"⟩
abbrev cX11_nested : ByteArray := prog_13_method_71_code
def yX11_nested : MethodName := ⟨RX11, "nested", "()I"⟩
abbrev cX11_greedy : ByteArray := prog_13_method_72_code
def yX11_greedy : MethodName := ⟨RX11, "greedy", "()I"⟩
abbrev cX11_coverBut : ByteArray := prog_13_method_73_code
def yX11_coverBut : MethodName := ⟨RX11, "coverBut", "(I)I"⟩
abbrev cX11_dearest : ByteArray := prog_13_method_74_code
def yX11_dearest : MethodName := ⟨RX11, "dearest", "()I"⟩
abbrev cX11_dearestRoad : ByteArray := prog_13_method_75_code
def yX11_dearestRoad : MethodName := ⟨RX11, "dearestRoad", "()I"⟩
abbrev cX11_laysState : ByteArray := prog_13_method_76_code
def yX11_laysState : MethodName := ⟨RX11, "laysState", "(I)V"⟩
abbrev cX11_stateCover : ByteArray := prog_13_method_77_code
def yX11_stateCover : MethodName := ⟨RX11, "stateCover", "(I)I"⟩
abbrev cX11_state : ByteArray := prog_13_method_78_code
def yX11_state : MethodName := ⟨RX11, "state", "(I)I"⟩
abbrev cX11_worst : ByteArray := prog_13_method_79_code
def yX11_worst : MethodName := ⟨RX11, "worst", "(I)I"⟩
abbrev cX11_states : ByteArray := prog_13_method_80_code
def yX11_states : MethodName := ⟨RX11, "states", "(I)I"⟩
abbrev cX11_laysSure : ByteArray := prog_13_method_81_code
def yX11_laysSure : MethodName := ⟨RX11, "laysSure", "(I)V"⟩
abbrev cX11_expectedNow : ByteArray := prog_13_method_82_code
def yX11_expectedNow : MethodName := ⟨RX11, "expectedNow", "()I"⟩
abbrev cX11_expects : ByteArray := prog_13_method_83_code
def yX11_expects : MethodName := ⟨RX11, "expects", "(I)I"⟩
abbrev cX11_readyMany : ByteArray := prog_13_method_84_code
def yX11_readyMany : MethodName := ⟨RX11, "readyMany", "()I"⟩
abbrev cX11_expectedTried : ByteArray := prog_13_method_85_code
def yX11_expectedTried : MethodName := ⟨RX11, "expectedTried", "(I)I"⟩
abbrev cX11_risesOn : ByteArray := prog_13_method_86_code
def yX11_risesOn : MethodName := ⟨RX11, "risesOn", "(I)Z"⟩
abbrev cX11_bestFor : ByteArray := prog_13_method_87_code
def yX11_bestFor : MethodName := ⟨RX11, "bestFor", "(I)I"⟩
abbrev cX11_greatestCover : ByteArray := prog_13_method_88_code
def yX11_greatestCover : MethodName := ⟨RX11, "greatestCover", "()I"⟩
abbrev cX11_regret : ByteArray := prog_13_method_89_code
def yX11_regret : MethodName := ⟨RX11, "regret", "()I"⟩
abbrev cX11_weighs : ByteArray := prog_13_method_90_code
def yX11_weighs : MethodName := ⟨RX11, "weighs", "(II)V"⟩
abbrev cX11_tries : ByteArray := prog_13_method_91_code
def yX11_tries : MethodName := ⟨RX11, "tries", "(IIII)V"⟩
abbrev cX11_laysMoves : ByteArray := prog_13_method_92_code
def yX11_laysMoves : MethodName := ⟨RX11, "laysMoves", "(I)V"⟩
abbrev cX11_moves : ByteArray := prog_13_method_93_code
def yX11_moves : MethodName := ⟨RX11, "moves", "(I)I"⟩
abbrev cX11_begunSince : ByteArray := prog_13_method_94_code
def yX11_begunSince : MethodName := ⟨RX11, "begunSince", "(I)I"⟩
abbrev cX11_mayMove : ByteArray := prog_13_method_95_code
def yX11_mayMove : MethodName := ⟨RX11, "mayMove", "()I"⟩
abbrev cX11_sends : ByteArray := prog_13_method_96_code
def yX11_sends : MethodName := ⟨RX11, "sends", "(II)V"⟩
abbrev cX11_up : ByteArray := prog_13_method_97_code
def yX11_up : MethodName := ⟨RX11, "up", "(I)I"⟩
abbrev cX11_post : ByteArray := prog_13_method_98_code
def yX11_post : MethodName := ⟨RX11, "post", "(II)I"⟩
abbrev cX11_swap : ByteArray := prog_13_method_99_code
def yX11_swap : MethodName := ⟨RX11, "swap", "(II)I"⟩
abbrev cX11_left : ByteArray := prog_13_method_100_code
def yX11_left : MethodName := ⟨RX11, "left", "()I"⟩
abbrev cX11_needs : ByteArray := prog_13_method_101_code
def yX11_needs : MethodName := ⟨RX11, "needs", "()I"⟩
abbrev cX11_keeps : ByteArray := prog_13_method_102_code
def yX11_keeps : MethodName := ⟨RX11, "keeps", "()I"⟩
abbrev cX11_back : ByteArray := prog_13_method_103_code
def yX11_back : MethodName := ⟨RX11, "back", "()I"⟩
abbrev cX11_inState : ByteArray := prog_13_method_104_code
def yX11_inState : MethodName := ⟨RX11, "inState", "(I)I"⟩
abbrev cX11_count : ByteArray := prog_13_method_105_code
def yX11_count : MethodName := ⟨RX11, "count", "(I)I"⟩
abbrev cX11_row : ByteArray := prog_13_method_106_code
def yX11_row : MethodName := ⟨RX11, "row", "(I)J"⟩
def RJx145de : String := "java/io/Serializable"
def TJx145de : u_T := fun k => match k with
  | _ => ("", "", "", false)
def tyJx145de : Nat → FieldType := fun k => match k with
  | _ => .int
abbrev wsJx145de0 : List Cond := u_ws RJx145de TJx145de 0
theorem nmJx145de : ∀ a, a < 0 → ∀ b, b < 0 → a ≠ b → (TJx145de a).2.1 ≠ (TJx145de b).2.1 := by decide +kernel
theorem tyJx145de_ok : ∀ k, k < 0 → parseFieldDescriptor (TJx145de k).2.2.1 = some (tyJx145de k) := by decide +kernel
def RJxb160c : String := "java/lang/Comparable"
def TJxb160c : u_T := fun k => match k with
  | _ => ("", "", "", false)
def tyJxb160c : Nat → FieldType := fun k => match k with
  | _ => .int
abbrev wsJxb160c0 : List Cond := u_ws RJxb160c TJxb160c 0
theorem nmJxb160c : ∀ a, a < 0 → ∀ b, b < 0 → a ≠ b → (TJxb160c a).2.1 ≠ (TJxb160c b).2.1 := by decide +kernel
theorem tyJxb160c_ok : ∀ k, k < 0 → parseFieldDescriptor (TJxb160c k).2.2.1 = some (tyJxb160c k) := by decide +kernel
def RJxf58ca : String := "java/lang/Float"
def TJxf58ca : u_T := fun k => match k with
  | _ => ("", "", "", false)
def tyJxf58ca : Nat → FieldType := fun k => match k with
  | _ => .int
abbrev wsJxf58ca0 : List Cond := u_ws RJxf58ca TJxf58ca 0
theorem nmJxf58ca : ∀ a, a < 0 → ∀ b, b < 0 → a ≠ b → (TJxf58ca a).2.1 ≠ (TJxf58ca b).2.1 := by decide +kernel
theorem tyJxf58ca_ok : ∀ k, k < 0 → parseFieldDescriptor (TJxf58ca k).2.2.1 = some (tyJxf58ca k) := by decide +kernel
abbrev cJxf58ca_isNaN_12338 : ByteArray := prog_16_method_6_code
def yJxf58ca_isNaN_12338 : MethodName := ⟨RJxf58ca, "isNaN", "(F)Z"⟩
abbrev cJxf58ca_floatToIntBits_5c35a : ByteArray := prog_16_method_24_code
def yJxf58ca_floatToIntBits_5c35a : MethodName := ⟨RJxf58ca, "floatToIntBits", "(F)I"⟩
def RJ6 : String := "java/lang/Integer"
def TJ6 : u_T := fun k => match k with
  | _ => ("", "", "", false)
def tyJ6 : Nat → FieldType := fun k => match k with
  | _ => .int
abbrev wsJ60 : List Cond := u_ws RJ6 TJ6 0
theorem nmJ6 : ∀ a, a < 0 → ∀ b, b < 0 → a ≠ b → (TJ6 a).2.1 ≠ (TJ6 b).2.1 := by decide +kernel
theorem tyJ6_ok : ∀ k, k < 0 → parseFieldDescriptor (TJ6 k).2.2.1 = some (tyJ6 k) := by decide +kernel
abbrev cJ6_bitCount_0f7a4 : ByteArray := prog_17_method_49_code
def yJ6_bitCount_0f7a4 : MethodName := ⟨RJ6, "bitCount", "(I)I"⟩
def RJ9 : String := "java/lang/Math"
def TJ9 : u_T := fun k => match k with
  | _ => ("", "", "", false)
def tyJ9 : Nat → FieldType := fun k => match k with
  | _ => .int
abbrev wsJ90 : List Cond := u_ws RJ9 TJ9 0
theorem nmJ9 : ∀ a, a < 0 → ∀ b, b < 0 → a ≠ b → (TJ9 a).2.1 ≠ (TJ9 b).2.1 := by decide +kernel
theorem tyJ9_ok : ∀ k, k < 0 → parseFieldDescriptor (TJ9 k).2.2.1 = some (tyJ9 k) := by decide +kernel
abbrev cJ9_max_7cf53 : ByteArray := prog_18_method_65_code
def yJ9_max_7cf53 : MethodName := ⟨RJ9, "max", "(II)I"⟩
abbrev cJ9_min_7cf53 : ByteArray := prog_18_method_69_code
def yJ9_min_7cf53 : MethodName := ⟨RJ9, "min", "(II)I"⟩
def RJxd2413 : String := "java/lang/Number"
def TJxd2413 : u_T := fun k => match k with
  | _ => ("", "", "", false)
def tyJxd2413 : Nat → FieldType := fun k => match k with
  | _ => .int
abbrev wsJxd24130 : List Cond := u_ws RJxd2413 TJxd2413 0
theorem nmJxd2413 : ∀ a, a < 0 → ∀ b, b < 0 → a ≠ b → (TJxd2413 a).2.1 ≠ (TJxd2413 b).2.1 := by decide +kernel
theorem tyJxd2413_ok : ∀ k, k < 0 → parseFieldDescriptor (TJxd2413 k).2.2.1 = some (tyJxd2413 k) := by decide +kernel
def RJ10 : String := "java/lang/System"
def TJ10 : u_T := fun k => match k with
  | _ => ("", "", "", false)
def tyJ10 : Nat → FieldType := fun k => match k with
  | _ => .int
abbrev wsJ100 : List Cond := u_ws RJ10 TJ10 0
theorem nmJ10 : ∀ a, a < 0 → ∀ b, b < 0 → a ≠ b → (TJ10 a).2.1 ≠ (TJ10 b).2.1 := by decide +kernel
theorem tyJ10_ok : ∀ k, k < 0 → parseFieldDescriptor (TJ10 k).2.2.1 = some (tyJ10 k) := by decide +kernel
def RJxfd54e : String := "java/lang/constant/Constable"
def TJxfd54e : u_T := fun k => match k with
  | _ => ("", "", "", false)
def tyJxfd54e : Nat → FieldType := fun k => match k with
  | _ => .int
abbrev wsJxfd54e0 : List Cond := u_ws RJxfd54e TJxfd54e 0
theorem nmJxfd54e : ∀ a, a < 0 → ∀ b, b < 0 → a ≠ b → (TJxfd54e a).2.1 ≠ (TJxfd54e b).2.1 := by decide +kernel
theorem tyJxfd54e_ok : ∀ k, k < 0 → parseFieldDescriptor (TJxfd54e k).2.2.1 = some (tyJxfd54e k) := by decide +kernel
def RJx3cf43 : String := "java/lang/constant/ConstantDesc"
def TJx3cf43 : u_T := fun k => match k with
  | _ => ("", "", "", false)
def tyJx3cf43 : Nat → FieldType := fun k => match k with
  | _ => .int
abbrev wsJx3cf430 : List Cond := u_ws RJx3cf43 TJx3cf43 0
theorem nmJx3cf43 : ∀ a, a < 0 → ∀ b, b < 0 → a ≠ b → (TJx3cf43 a).2.1 ≠ (TJx3cf43 b).2.1 := by decide +kernel
theorem tyJx3cf43_ok : ∀ k, k < 0 → parseFieldDescriptor (TJx3cf43 k).2.2.1 = some (tyJx3cf43 k) := by decide +kernel
def RJ7 : String := "java/util/Arrays"
def TJ7 : u_T := fun k => match k with
  | _ => ("", "", "", false)
def tyJ7 : Nat → FieldType := fun k => match k with
  | _ => .int
abbrev wsJ70 : List Cond := u_ws RJ7 TJ7 0
theorem nmJ7 : ∀ a, a < 0 → ∀ b, b < 0 → a ≠ b → (TJ7 a).2.1 ≠ (TJ7 b).2.1 := by decide +kernel
theorem tyJ7_ok : ∀ k, k < 0 → parseFieldDescriptor (TJ7 k).2.2.1 = some (tyJ7 k) := by decide +kernel
abbrev cJ7_fill_53178 : ByteArray := prog_23_method_103_code
def yJ7_fill_53178 : MethodName := ⟨RJ7, "fill", "([II)V"⟩
def RL : String := "EnginesOutLaw"
abbrev cL_row : ByteArray := method_3_code
def yL_row : MethodName := ⟨RL, "row", "(LEnginesOut;I[J)I"⟩
abbrev cL_law : ByteArray := code
def yL_law : MethodName := ⟨RL, "law", "([I)Z"⟩
def wsJ7_fill_53178 : List Cond := .code yJ7_fill_53178 cJ7_fill_53178 4 none :: ([])
def wsJ6_bitCount_0f7a4 : List Cond := .code yJ6_bitCount_0f7a4 cJ6_bitCount_0f7a4 1 (some .int) :: ([.constant RJ6 265 (1431655765), .constant RJ6 266 (858993459), .constant RJ6 267 (252645135)])
def wsJxf58ca_isNaN_12338 : List Cond := .code yJxf58ca_isNaN_12338 cJxf58ca_isNaN_12338 1 (some .boolean) :: ([])
def wsJxf58ca_floatToIntBits_5c35a : List Cond := .code yJxf58ca_floatToIntBits_5c35a cJxf58ca_floatToIntBits_5c35a 1 (some .int) :: ([.methodLink RJxf58ca 74 ⟨"java/lang/Float", "floatToRawIntBits", "(F)I"⟩, .native ⟨"java/lang/Float", "floatToRawIntBits", "(F)I"⟩, .static ⟨"java/lang/Float", "floatToRawIntBits", "(F)I"⟩, .initialized "java/lang/Float", .constant RJxf58ca 77 (2143289344), .methodLink RJxf58ca 59 yJxf58ca_isNaN_12338, .static yJxf58ca_isNaN_12338, .initialized RJxf58ca, .code yJxf58ca_isNaN_12338 cJxf58ca_isNaN_12338 1 (some .boolean)])
def wsJ9_max_7cf53 : List Cond := .code yJ9_max_7cf53 cJ9_max_7cf53 2 (some .int) :: ([])
def wsJ9_min_7cf53 : List Cond := .code yJ9_min_7cf53 cJ9_min_7cf53 2 (some .int) :: ([])
theorem inJx145de : ∀ w ∈ wsJx145de0, w ∈ lw_tbl := by decide +kernel
theorem inJxb160c : ∀ w ∈ wsJxb160c0, w ∈ lw_tbl := by decide +kernel
theorem inJxf58ca : ∀ w ∈ wsJxf58ca0, w ∈ lw_tbl := by decide +kernel
theorem inJ6 : ∀ w ∈ wsJ60, w ∈ lw_tbl := by decide +kernel
theorem inJ9 : ∀ w ∈ wsJ90, w ∈ lw_tbl := by decide +kernel
theorem inJxd2413 : ∀ w ∈ wsJxd24130, w ∈ lw_tbl := by decide +kernel
theorem inJ10 : ∀ w ∈ wsJ100, w ∈ lw_tbl := by decide +kernel
theorem inJxfd54e : ∀ w ∈ wsJxfd54e0, w ∈ lw_tbl := by decide +kernel
theorem inJx3cf43 : ∀ w ∈ wsJx3cf430, w ∈ lw_tbl := by decide +kernel
theorem inJ7 : ∀ w ∈ wsJ70, w ∈ lw_tbl := by decide +kernel
theorem dJxf58ca_isNaN_12338_0 : decode cJxf58ca_isNaN_12338 0 = .ok (.fload_n 0, 1) := by decide +kernel
theorem dJxf58ca_isNaN_12338_1 : decode cJxf58ca_isNaN_12338 1 = .ok (.fload_n 0, 1) := by decide +kernel
theorem dJxf58ca_isNaN_12338_2 : decode cJxf58ca_isNaN_12338 2 = .ok (.fcmp .l, 1) := by decide +kernel
theorem dJxf58ca_isNaN_12338_3 : decode cJxf58ca_isNaN_12338 3 = .ok (.ifCond .eq 7, 3) := by decide +kernel
theorem dJxf58ca_isNaN_12338_6 : decode cJxf58ca_isNaN_12338 6 = .ok (.iconst 1, 1) := by decide +kernel
theorem dJxf58ca_isNaN_12338_7 : decode cJxf58ca_isNaN_12338 7 = .ok (.goto 4, 3) := by decide +kernel
theorem dJxf58ca_isNaN_12338_10 : decode cJxf58ca_isNaN_12338 10 = .ok (.iconst 0, 1) := by decide +kernel
theorem dJxf58ca_isNaN_12338_11 : decode cJxf58ca_isNaN_12338 11 = .ok (.ireturn, 1) := by decide +kernel
set_option maxRecDepth 20000 in
theorem ggJxf58ca_floatToIntBits_5c35a_Jxf58ca_isNaN_12338 : GoodIn wsJxf58ca_floatToIntBits_5c35a wsJxf58ca_isNaN_12338 := goodIn_r _ [9] (by decide +kernel) (by decide +kernel)
set_option maxRecDepth 20000 in
theorem gJxf58ca_floatToIntBits_5c35a_Jxf58ca_isNaN_12338 : GoodIn wsJxf58ca_floatToIntBits_5c35a (va_wsS RJxf58ca 59 yJxf58ca_isNaN_12338 wsJxf58ca_isNaN_12338) := goodIn_app (goodIn_of _ (by decide +kernel)) ggJxf58ca_floatToIntBits_5c35a_Jxf58ca_isNaN_12338
theorem dJxf58ca_floatToIntBits_5c35a_0 : decode cJxf58ca_floatToIntBits_5c35a 0 = .ok (.fload_n 0, 1) := by decide +kernel
theorem dJxf58ca_floatToIntBits_5c35a_1 : decode cJxf58ca_floatToIntBits_5c35a 1 = .ok (.invokestatic 59, 3) := by decide +kernel
theorem dJxf58ca_floatToIntBits_5c35a_4 : decode cJxf58ca_floatToIntBits_5c35a 4 = .ok (.ifCond .ne 8, 3) := by decide +kernel
theorem dJxf58ca_floatToIntBits_5c35a_7 : decode cJxf58ca_floatToIntBits_5c35a 7 = .ok (.fload_n 0, 1) := by decide +kernel
theorem dJxf58ca_floatToIntBits_5c35a_8 : decode cJxf58ca_floatToIntBits_5c35a 8 = .ok (.invokestatic 74, 3) := by decide +kernel
theorem dJxf58ca_floatToIntBits_5c35a_11 : decode cJxf58ca_floatToIntBits_5c35a 11 = .ok (.ireturn, 1) := by decide +kernel
theorem dJxf58ca_floatToIntBits_5c35a_12 : decode cJxf58ca_floatToIntBits_5c35a 12 = .ok (.ldc 77, 2) := by decide +kernel
theorem dJxf58ca_floatToIntBits_5c35a_14 : decode cJxf58ca_floatToIntBits_5c35a 14 = .ok (.ireturn, 1) := by decide +kernel
theorem dJ6_bitCount_0f7a4_0 : decode cJ6_bitCount_0f7a4 0 = .ok (.iload_n 0, 1) := by decide +kernel
theorem dJ6_bitCount_0f7a4_1 : decode cJ6_bitCount_0f7a4 1 = .ok (.iload_n 0, 1) := by decide +kernel
theorem dJ6_bitCount_0f7a4_2 : decode cJ6_bitCount_0f7a4 2 = .ok (.iconst 1, 1) := by decide +kernel
theorem dJ6_bitCount_0f7a4_3 : decode cJ6_bitCount_0f7a4 3 = .ok (.iushr, 1) := by decide +kernel
theorem dJ6_bitCount_0f7a4_4 : decode cJ6_bitCount_0f7a4 4 = .ok (.ldc_w 265, 3) := by decide +kernel
theorem dJ6_bitCount_0f7a4_7 : decode cJ6_bitCount_0f7a4 7 = .ok (.iand, 1) := by decide +kernel
theorem dJ6_bitCount_0f7a4_8 : decode cJ6_bitCount_0f7a4 8 = .ok (.isub, 1) := by decide +kernel
theorem dJ6_bitCount_0f7a4_9 : decode cJ6_bitCount_0f7a4 9 = .ok (.istore_n 0, 1) := by decide +kernel
theorem dJ6_bitCount_0f7a4_10 : decode cJ6_bitCount_0f7a4 10 = .ok (.iload_n 0, 1) := by decide +kernel
theorem dJ6_bitCount_0f7a4_11 : decode cJ6_bitCount_0f7a4 11 = .ok (.ldc_w 266, 3) := by decide +kernel
theorem dJ6_bitCount_0f7a4_14 : decode cJ6_bitCount_0f7a4 14 = .ok (.iand, 1) := by decide +kernel
theorem dJ6_bitCount_0f7a4_15 : decode cJ6_bitCount_0f7a4 15 = .ok (.iload_n 0, 1) := by decide +kernel
theorem dJ6_bitCount_0f7a4_16 : decode cJ6_bitCount_0f7a4 16 = .ok (.iconst 2, 1) := by decide +kernel
theorem dJ6_bitCount_0f7a4_17 : decode cJ6_bitCount_0f7a4 17 = .ok (.iushr, 1) := by decide +kernel
theorem dJ6_bitCount_0f7a4_18 : decode cJ6_bitCount_0f7a4 18 = .ok (.ldc_w 266, 3) := by decide +kernel
theorem dJ6_bitCount_0f7a4_21 : decode cJ6_bitCount_0f7a4 21 = .ok (.iand, 1) := by decide +kernel
theorem dJ6_bitCount_0f7a4_22 : decode cJ6_bitCount_0f7a4 22 = .ok (.iadd, 1) := by decide +kernel
theorem dJ6_bitCount_0f7a4_23 : decode cJ6_bitCount_0f7a4 23 = .ok (.istore_n 0, 1) := by decide +kernel
theorem dJ6_bitCount_0f7a4_24 : decode cJ6_bitCount_0f7a4 24 = .ok (.iload_n 0, 1) := by decide +kernel
theorem dJ6_bitCount_0f7a4_25 : decode cJ6_bitCount_0f7a4 25 = .ok (.iload_n 0, 1) := by decide +kernel
theorem dJ6_bitCount_0f7a4_26 : decode cJ6_bitCount_0f7a4 26 = .ok (.iconst 4, 1) := by decide +kernel
theorem dJ6_bitCount_0f7a4_27 : decode cJ6_bitCount_0f7a4 27 = .ok (.iushr, 1) := by decide +kernel
theorem dJ6_bitCount_0f7a4_28 : decode cJ6_bitCount_0f7a4 28 = .ok (.iadd, 1) := by decide +kernel
theorem dJ6_bitCount_0f7a4_29 : decode cJ6_bitCount_0f7a4 29 = .ok (.ldc_w 267, 3) := by decide +kernel
theorem dJ6_bitCount_0f7a4_32 : decode cJ6_bitCount_0f7a4 32 = .ok (.iand, 1) := by decide +kernel
theorem dJ6_bitCount_0f7a4_33 : decode cJ6_bitCount_0f7a4 33 = .ok (.istore_n 0, 1) := by decide +kernel
theorem dJ6_bitCount_0f7a4_34 : decode cJ6_bitCount_0f7a4 34 = .ok (.iload_n 0, 1) := by decide +kernel
theorem dJ6_bitCount_0f7a4_35 : decode cJ6_bitCount_0f7a4 35 = .ok (.iload_n 0, 1) := by decide +kernel
theorem dJ6_bitCount_0f7a4_36 : decode cJ6_bitCount_0f7a4 36 = .ok (.bipush 8, 2) := by decide +kernel
theorem dJ6_bitCount_0f7a4_38 : decode cJ6_bitCount_0f7a4 38 = .ok (.iushr, 1) := by decide +kernel
theorem dJ6_bitCount_0f7a4_39 : decode cJ6_bitCount_0f7a4 39 = .ok (.iadd, 1) := by decide +kernel
theorem dJ6_bitCount_0f7a4_40 : decode cJ6_bitCount_0f7a4 40 = .ok (.istore_n 0, 1) := by decide +kernel
theorem dJ6_bitCount_0f7a4_41 : decode cJ6_bitCount_0f7a4 41 = .ok (.iload_n 0, 1) := by decide +kernel
theorem dJ6_bitCount_0f7a4_42 : decode cJ6_bitCount_0f7a4 42 = .ok (.iload_n 0, 1) := by decide +kernel
theorem dJ6_bitCount_0f7a4_43 : decode cJ6_bitCount_0f7a4 43 = .ok (.bipush 16, 2) := by decide +kernel
theorem dJ6_bitCount_0f7a4_45 : decode cJ6_bitCount_0f7a4 45 = .ok (.iushr, 1) := by decide +kernel
theorem dJ6_bitCount_0f7a4_46 : decode cJ6_bitCount_0f7a4 46 = .ok (.iadd, 1) := by decide +kernel
theorem dJ6_bitCount_0f7a4_47 : decode cJ6_bitCount_0f7a4 47 = .ok (.istore_n 0, 1) := by decide +kernel
theorem dJ6_bitCount_0f7a4_48 : decode cJ6_bitCount_0f7a4 48 = .ok (.iload_n 0, 1) := by decide +kernel
theorem dJ6_bitCount_0f7a4_49 : decode cJ6_bitCount_0f7a4 49 = .ok (.bipush 63, 2) := by decide +kernel
theorem dJ6_bitCount_0f7a4_51 : decode cJ6_bitCount_0f7a4 51 = .ok (.iand, 1) := by decide +kernel
theorem dJ6_bitCount_0f7a4_52 : decode cJ6_bitCount_0f7a4 52 = .ok (.ireturn, 1) := by decide +kernel
theorem dJ9_max_7cf53_0 : decode cJ9_max_7cf53 0 = .ok (.iload_n 0, 1) := by decide +kernel
theorem dJ9_max_7cf53_1 : decode cJ9_max_7cf53 1 = .ok (.iload_n 1, 1) := by decide +kernel
theorem dJ9_max_7cf53_2 : decode cJ9_max_7cf53 2 = .ok (.if_icmp .lt 7, 3) := by decide +kernel
theorem dJ9_max_7cf53_5 : decode cJ9_max_7cf53 5 = .ok (.iload_n 0, 1) := by decide +kernel
theorem dJ9_max_7cf53_6 : decode cJ9_max_7cf53 6 = .ok (.goto 4, 3) := by decide +kernel
theorem dJ9_max_7cf53_9 : decode cJ9_max_7cf53 9 = .ok (.iload_n 1, 1) := by decide +kernel
theorem dJ9_max_7cf53_10 : decode cJ9_max_7cf53 10 = .ok (.ireturn, 1) := by decide +kernel
theorem dJ9_min_7cf53_0 : decode cJ9_min_7cf53 0 = .ok (.iload_n 0, 1) := by decide +kernel
theorem dJ9_min_7cf53_1 : decode cJ9_min_7cf53 1 = .ok (.iload_n 1, 1) := by decide +kernel
theorem dJ9_min_7cf53_2 : decode cJ9_min_7cf53 2 = .ok (.if_icmp .gt 7, 3) := by decide +kernel
theorem dJ9_min_7cf53_5 : decode cJ9_min_7cf53 5 = .ok (.iload_n 0, 1) := by decide +kernel
theorem dJ9_min_7cf53_6 : decode cJ9_min_7cf53 6 = .ok (.goto 4, 3) := by decide +kernel
theorem dJ9_min_7cf53_9 : decode cJ9_min_7cf53 9 = .ok (.iload_n 1, 1) := by decide +kernel
theorem dJ9_min_7cf53_10 : decode cJ9_min_7cf53 10 = .ok (.ireturn, 1) := by decide +kernel
theorem dJ7_fill_53178_0 : decode cJ7_fill_53178 0 = .ok (.iconst 0, 1) := by decide +kernel
theorem dJ7_fill_53178_1 : decode cJ7_fill_53178 1 = .ok (.istore_n 2, 1) := by decide +kernel
theorem dJ7_fill_53178_2 : decode cJ7_fill_53178 2 = .ok (.aload_n 0, 1) := by decide +kernel
theorem dJ7_fill_53178_3 : decode cJ7_fill_53178 3 = .ok (.arraylength, 1) := by decide +kernel
theorem dJ7_fill_53178_4 : decode cJ7_fill_53178 4 = .ok (.istore_n 3, 1) := by decide +kernel
theorem dJ7_fill_53178_5 : decode cJ7_fill_53178 5 = .ok (.iload_n 2, 1) := by decide +kernel
theorem dJ7_fill_53178_6 : decode cJ7_fill_53178 6 = .ok (.iload_n 3, 1) := by decide +kernel
theorem dJ7_fill_53178_7 : decode cJ7_fill_53178 7 = .ok (.if_icmp .ge 13, 3) := by decide +kernel
theorem dJ7_fill_53178_10 : decode cJ7_fill_53178 10 = .ok (.aload_n 0, 1) := by decide +kernel
theorem dJ7_fill_53178_11 : decode cJ7_fill_53178 11 = .ok (.iload_n 2, 1) := by decide +kernel
theorem dJ7_fill_53178_12 : decode cJ7_fill_53178 12 = .ok (.iload_n 1, 1) := by decide +kernel
theorem dJ7_fill_53178_13 : decode cJ7_fill_53178 13 = .ok (.iastore, 1) := by decide +kernel
theorem dJ7_fill_53178_14 : decode cJ7_fill_53178 14 = .ok (.iinc 2 1, 3) := by decide +kernel
theorem dJ7_fill_53178_17 : decode cJ7_fill_53178 17 = .ok (.goto (-12), 3) := by decide +kernel
theorem dJ7_fill_53178_20 : decode cJ7_fill_53178 20 = .ok (.return_, 1) := by decide +kernel
abbrev vwCl : List vw_C := [(RX0, TX0, 4), (RX1, TX1, 4), (RX2, TX2, 12), (RX3, TX3, 9), (RX4, TX4, 9), (RX5, TX5, 7), (RX6, TX6, 2), (RX7, TX7, 4), (RX8, TX8, 2), (RX9, TX9, 6), (RX10, TX10, 9), (RX11, TX11, 31)]
end
section
/-- the words of the tables that go on in every call -/
def wsG : List Cond := lw_tbl.filter goodWord
theorem wG {w : Cond} (i : Nat) (h : lw_tbl[i]? = some w) (hg : goodWord w = true) : w ∈ wsG := List.mem_filter.mpr ⟨List.mem_of_getElem? h, hg⟩
theorem wsG_in : ∀ w ∈ wsG, w ∈ lw_tbl := fun _ h => (List.mem_filter.mp h).1
theorem wd_0 : (Cond.selects RX5 yX5_readLine yX5_readLine : Cond) ∈ wsG := wG 0 (by decide +kernel) (by decide +kernel)
theorem wd_1 : (Cond.selects RX5 yX5_readRoad yX5_readRoad : Cond) ∈ wsG := wG 1 (by decide +kernel) (by decide +kernel)
theorem wd_2 : (Cond.selects RX5 yX5_takeNumber yX5_takeNumber : Cond) ∈ wsG := wG 2 (by decide +kernel) (by decide +kernel)
theorem wd_3 : (Cond.selects RX5 yX5_isDigitNext yX5_isDigitNext : Cond) ∈ wsG := wG 3 (by decide +kernel) (by decide +kernel)
theorem wd_4 : (Cond.selects RX5 yX5_refuse yX5_refuse : Cond) ∈ wsG := wG 4 (by decide +kernel) (by decide +kernel)
theorem wd_5 : (Cond.selects RX5 yX5_take yX5_take : Cond) ∈ wsG := wG 5 (by decide +kernel) (by decide +kernel)
theorem wd_6 : (Cond.selects RX5 yX5_readWeight yX5_readWeight : Cond) ∈ wsG := wG 6 (by decide +kernel) (by decide +kernel)
theorem wd_7 : (Cond.selects RX5 yX5_readStations yX5_readStations : Cond) ∈ wsG := wG 7 (by decide +kernel) (by decide +kernel)
theorem wd_8 : (Cond.selects RX5 yX5_isCommaNext yX5_isCommaNext : Cond) ∈ wsG := wG 8 (by decide +kernel) (by decide +kernel)
theorem wd_9 : (Cond.selects RX5 yX5_readEngines yX5_readEngines : Cond) ∈ wsG := wG 9 (by decide +kernel) (by decide +kernel)
theorem wd_10 : (Cond.selects RX10 yX10_isStation yX10_isStation : Cond) ∈ wsG := wG 10 (by decide +kernel) (by decide +kernel)
theorem wd_11 : (Cond.selects RX10 yX10_look yX10_look : Cond) ∈ wsG := wG 11 (by decide +kernel) (by decide +kernel)
theorem wd_12 : (Cond.selects RX10 yX10_readyThatReach yX10_readyThatReach : Cond) ∈ wsG := wG 12 (by decide +kernel) (by decide +kernel)
theorem wd_13 : (Cond.selects RX10 yX10_isEngine yX10_isEngine : Cond) ∈ wsG := wG 13 (by decide +kernel) (by decide +kernel)
theorem wd_14 : (Cond.selects RX1 yX1_tryBeside yX1_tryBeside : Cond) ∈ wsG := wG 14 (by decide +kernel) (by decide +kernel)
theorem wd_15 : (Cond.selects RX1 yX1_isLess yX1_isLess : Cond) ∈ wsG := wG 15 (by decide +kernel) (by decide +kernel)
theorem wd_16 : (Cond.selects RX10 yX10_coverNow yX10_coverNow : Cond) ∈ wsG := wG 16 (by decide +kernel) (by decide +kernel)
theorem wd_17 : (Cond.selects RX7 yX7_putOne yX7_putOne : Cond) ∈ wsG := wG 17 (by decide +kernel) (by decide +kernel)
theorem wd_18 : (Cond.selects RX10 yX10_coverWithout yX10_coverWithout : Cond) ∈ wsG := wG 18 (by decide +kernel) (by decide +kernel)
theorem wd_19 : (Cond.selects RX10 yX10_statesOf yX10_statesOf : Cond) ∈ wsG := wG 19 (by decide +kernel) (by decide +kernel)
theorem wd_20 : (Cond.selects RX0 yX0_hitsOf yX0_hitsOf : Cond) ∈ wsG := wG 20 (by decide +kernel) (by decide +kernel)
theorem wd_21 : (Cond.selects RX0 yX0_expected yX0_expected : Cond) ∈ wsG := wG 21 (by decide +kernel) (by decide +kernel)
theorem wd_22 : (Cond.selects RX0 yX0_nextRow yX0_nextRow : Cond) ∈ wsG := wG 22 (by decide +kernel) (by decide +kernel)
theorem wd_23 : (Cond.selects RX10 yX10_greatestCover yX10_greatestCover : Cond) ∈ wsG := wG 23 (by decide +kernel) (by decide +kernel)
theorem wd_24 : (Cond.selects RX10 yX10_planned yX10_planned : Cond) ∈ wsG := wG 24 (by decide +kernel) (by decide +kernel)
theorem wd_25 : (Cond.selects RX4 yX4_gather yX4_gather : Cond) ∈ wsG := wG 25 (by decide +kernel) (by decide +kernel)
theorem wd_26 : (Cond.selects RX4 yX4_fill yX4_fill : Cond) ∈ wsG := wG 26 (by decide +kernel) (by decide +kernel)
theorem wd_27 : (Cond.selects RX4 yX4_worthOf yX4_worthOf : Cond) ∈ wsG := wG 27 (by decide +kernel) (by decide +kernel)
theorem wd_28 : (Cond.selects RX4 yX4_firstBest yX4_firstBest : Cond) ∈ wsG := wG 28 (by decide +kernel) (by decide +kernel)
theorem wd_29 : (Cond.selects RX2 yX2_remember yX2_remember : Cond) ∈ wsG := wG 29 (by decide +kernel) (by decide +kernel)
theorem wd_30 : (Cond.selects "java/lang/Throwable" ⟨"java/lang/Throwable", "fillInStackTrace", "(I)Ljava/lang/Throwable;"⟩ ⟨"java/lang/Throwable", "fillInStackTrace", "(I)Ljava/lang/Throwable;"⟩ : Cond) ∈ wsG := wG 30 (by decide +kernel) (by decide +kernel)
theorem wd_31 : (Cond.selects RX11 yX11_readsLine yX11_readsLine : Cond) ∈ wsG := wG 31 (by decide +kernel) (by decide +kernel)
theorem wd_32 : (Cond.selects RX11 yX11_sees yX11_sees : Cond) ∈ wsG := wG 32 (by decide +kernel) (by decide +kernel)
theorem wd_33 : (Cond.selects RX11 yX11_readsRoad yX11_readsRoad : Cond) ∈ wsG := wG 33 (by decide +kernel) (by decide +kernel)
theorem wd_34 : (Cond.selects RX11 yX11_number yX11_number : Cond) ∈ wsG := wG 34 (by decide +kernel) (by decide +kernel)
theorem wd_35 : (Cond.selects RX11 yX11_fault yX11_fault : Cond) ∈ wsG := wG 35 (by decide +kernel) (by decide +kernel)
theorem wd_36 : (Cond.selects RX11 yX11_expect yX11_expect : Cond) ∈ wsG := wG 36 (by decide +kernel) (by decide +kernel)
theorem wd_37 : (Cond.selects RX11 yX11_readsWeight yX11_readsWeight : Cond) ∈ wsG := wG 37 (by decide +kernel) (by decide +kernel)
theorem wd_38 : (Cond.selects RX11 yX11_readsStations yX11_readsStations : Cond) ∈ wsG := wG 38 (by decide +kernel) (by decide +kernel)
theorem wd_39 : (Cond.selects RX11 yX11_isToldStation yX11_isToldStation : Cond) ∈ wsG := wG 39 (by decide +kernel) (by decide +kernel)
theorem wd_40 : (Cond.selects RX11 yX11_readsEngines yX11_readsEngines : Cond) ∈ wsG := wG 40 (by decide +kernel) (by decide +kernel)
theorem wd_41 : (Cond.selects RX11 yX11_sets yX11_sets : Cond) ∈ wsG := wG 41 (by decide +kernel) (by decide +kernel)
theorem wd_42 : (Cond.selects RX11 yX11_setsShut yX11_setsShut : Cond) ∈ wsG := wG 42 (by decide +kernel) (by decide +kernel)
theorem wd_43 : (Cond.selects RX11 yX11_shutMany yX11_shutMany : Cond) ∈ wsG := wG 43 (by decide +kernel) (by decide +kernel)
theorem wd_44 : (Cond.selects RX11 yX11_laysFar yX11_laysFar : Cond) ∈ wsG := wG 44 (by decide +kernel) (by decide +kernel)
theorem wd_45 : (Cond.selects RX11 yX11_isOpen yX11_isOpen : Cond) ∈ wsG := wG 45 (by decide +kernel) (by decide +kernel)
theorem wd_46 : (Cond.selects RX11 yX11_farOf yX11_farOf : Cond) ∈ wsG := wG 46 (by decide +kernel) (by decide +kernel)
theorem wd_47 : (Cond.selects RX11 yX11_isStation yX11_isStation : Cond) ∈ wsG := wG 47 (by decide +kernel) (by decide +kernel)
theorem wd_48 : (Cond.selects RX11 yX11_lays yX11_lays : Cond) ∈ wsG := wG 48 (by decide +kernel) (by decide +kernel)
theorem wd_49 : (Cond.selects RX11 yX11_weightOf yX11_weightOf : Cond) ∈ wsG := wG 49 (by decide +kernel) (by decide +kernel)
theorem wd_50 : (Cond.selects RX11 yX11_tell yX11_tell : Cond) ∈ wsG := wG 50 (by decide +kernel) (by decide +kernel)
theorem wd_51 : (Cond.selects RX11 yX11_readyFor yX11_readyFor : Cond) ∈ wsG := wG 51 (by decide +kernel) (by decide +kernel)
theorem wd_52 : (Cond.selects RX11 yX11_isReady yX11_isReady : Cond) ∈ wsG := wG 52 (by decide +kernel) (by decide +kernel)
theorem wd_53 : (Cond.selects RX11 yX11_nearestStation yX11_nearestStation : Cond) ∈ wsG := wG 53 (by decide +kernel) (by decide +kernel)
theorem wd_54 : (Cond.selects RX11 yX11_goer yX11_goer : Cond) ∈ wsG := wG 54 (by decide +kernel) (by decide +kernel)
theorem wd_55 : (Cond.selects RX11 yX11_wayOf yX11_wayOf : Cond) ∈ wsG := wG 55 (by decide +kernel) (by decide +kernel)
theorem wd_56 : (Cond.selects RX11 yX11_isEngine yX11_isEngine : Cond) ∈ wsG := wG 56 (by decide +kernel) (by decide +kernel)
theorem wd_57 : (Cond.selects RX11 yX11_calls yX11_calls : Cond) ∈ wsG := wG 57 (by decide +kernel) (by decide +kernel)
theorem wd_58 : (Cond.selects RX11 yX11_pairOf yX11_pairOf : Cond) ∈ wsG := wG 58 (by decide +kernel) (by decide +kernel)
theorem wd_59 : (Cond.selects RX11 yX11_canGo yX11_canGo : Cond) ∈ wsG := wG 59 (by decide +kernel) (by decide +kernel)
theorem wd_60 : (Cond.selects RX11 yX11_passesOne yX11_passesOne : Cond) ∈ wsG := wG 60 (by decide +kernel) (by decide +kernel)
theorem wd_61 : (Cond.selects RX11 yX11_draw yX11_draw : Cond) ∈ wsG := wG 61 (by decide +kernel) (by decide +kernel)
theorem wd_62 : (Cond.selects RX11 yX11_allWeights yX11_allWeights : Cond) ∈ wsG := wG 62 (by decide +kernel) (by decide +kernel)
theorem wd_63 : (Cond.selects RX11 yX11_nodeAt yX11_nodeAt : Cond) ∈ wsG := wG 63 (by decide +kernel) (by decide +kernel)
theorem wd_64 : (Cond.selects RX11 yX11_twiceNow yX11_twiceNow : Cond) ∈ wsG := wG 64 (by decide +kernel) (by decide +kernel)
theorem wd_65 : (Cond.selects RX11 yX11_reachedNow yX11_reachedNow : Cond) ∈ wsG := wG 65 (by decide +kernel) (by decide +kernel)
theorem wd_66 : (Cond.selects RX11 yX11_isSet yX11_isSet : Cond) ∈ wsG := wG 66 (by decide +kernel) (by decide +kernel)
theorem wd_67 : (Cond.selects RX11 yX11_reachedBy yX11_reachedBy : Cond) ∈ wsG := wG 67 (by decide +kernel) (by decide +kernel)
theorem wd_68 : (Cond.selects RX11 yX11_bestSet yX11_bestSet : Cond) ∈ wsG := wG 68 (by decide +kernel) (by decide +kernel)
theorem wd_69 : (Cond.selects RX11 yX11_twiceBy yX11_twiceBy : Cond) ∈ wsG := wG 69 (by decide +kernel) (by decide +kernel)
theorem wd_70 : (Cond.selects RX11 yX11_coverBut yX11_coverBut : Cond) ∈ wsG := wG 70 (by decide +kernel) (by decide +kernel)
theorem wd_71 : (Cond.selects RX11 yX11_stateCover yX11_stateCover : Cond) ∈ wsG := wG 71 (by decide +kernel) (by decide +kernel)
theorem wd_72 : (Cond.selects RX11 yX11_laysState yX11_laysState : Cond) ∈ wsG := wG 72 (by decide +kernel) (by decide +kernel)
theorem wd_73 : (Cond.selects RX11 yX11_laysSure yX11_laysSure : Cond) ∈ wsG := wG 73 (by decide +kernel) (by decide +kernel)
theorem wd_74 : (Cond.selects RX11 yX11_expectedNow yX11_expectedNow : Cond) ∈ wsG := wG 74 (by decide +kernel) (by decide +kernel)
theorem wd_75 : (Cond.selects RX11 yX11_readyMany yX11_readyMany : Cond) ∈ wsG := wG 75 (by decide +kernel) (by decide +kernel)
theorem wd_76 : (Cond.selects RX11 yX11_expectedTried yX11_expectedTried : Cond) ∈ wsG := wG 76 (by decide +kernel) (by decide +kernel)
theorem wd_77 : (Cond.selects RX11 yX11_risesOn yX11_risesOn : Cond) ∈ wsG := wG 77 (by decide +kernel) (by decide +kernel)
theorem wd_78 : (Cond.selects RX11 yX11_greatestCover yX11_greatestCover : Cond) ∈ wsG := wG 78 (by decide +kernel) (by decide +kernel)
theorem wd_79 : (Cond.selects RX11 yX11_laysMoves yX11_laysMoves : Cond) ∈ wsG := wG 79 (by decide +kernel) (by decide +kernel)
theorem wd_80 : (Cond.selects RX11 yX11_tries yX11_tries : Cond) ∈ wsG := wG 80 (by decide +kernel) (by decide +kernel)
theorem wd_81 : (Cond.selects RX11 yX11_weighs yX11_weighs : Cond) ∈ wsG := wG 81 (by decide +kernel) (by decide +kernel)
theorem wd_82 : (Cond.selects RX11 yX11_mayMove yX11_mayMove : Cond) ∈ wsG := wG 82 (by decide +kernel) (by decide +kernel)
theorem wd_83 : (Cond.selects RX11 yX11_begunSince yX11_begunSince : Cond) ∈ wsG := wG 83 (by decide +kernel) (by decide +kernel)
theorem wd_84 : (Cond.selects RX11 yX11_sends yX11_sends : Cond) ∈ wsG := wG 84 (by decide +kernel) (by decide +kernel)
theorem wd_85 : (Cond.selects RX11 yX11_inState yX11_inState : Cond) ∈ wsG := wG 85 (by decide +kernel) (by decide +kernel)
theorem wd_86 : (Cond.selects RX11 yX11_lost yX11_lost : Cond) ∈ wsG := wG 86 (by decide +kernel) (by decide +kernel)
theorem wd_87 : (Cond.initialized RL : Cond) ∈ wsG := wG 87 (by decide +kernel) (by decide +kernel)
theorem wd_88 : (Cond.initialized RX10 : Cond) ∈ wsG := wG 88 (by decide +kernel) (by decide +kernel)
theorem wd_89 : (Cond.initialized RX6 : Cond) ∈ wsG := wG 89 (by decide +kernel) (by decide +kernel)
theorem wd_90 : (Cond.initialized RX5 : Cond) ∈ wsG := wG 90 (by decide +kernel) (by decide +kernel)
theorem wd_91 : (Cond.initialized RX8 : Cond) ∈ wsG := wG 91 (by decide +kernel) (by decide +kernel)
theorem wd_92 : (Cond.initialized RX3 : Cond) ∈ wsG := wG 92 (by decide +kernel) (by decide +kernel)
theorem wd_93 : (Cond.initialized "java/util/Arrays" : Cond) ∈ wsG := wG 93 (by decide +kernel) (by decide +kernel)
theorem wd_94 : (Cond.initialized RX9 : Cond) ∈ wsG := wG 94 (by decide +kernel) (by decide +kernel)
theorem wd_95 : (Cond.initialized RX2 : Cond) ∈ wsG := wG 95 (by decide +kernel) (by decide +kernel)
theorem wd_96 : (Cond.initialized RX7 : Cond) ∈ wsG := wG 96 (by decide +kernel) (by decide +kernel)
theorem wd_97 : (Cond.initialized RX1 : Cond) ∈ wsG := wG 97 (by decide +kernel) (by decide +kernel)
theorem wd_98 : (Cond.initialized RX0 : Cond) ∈ wsG := wG 98 (by decide +kernel) (by decide +kernel)
theorem wd_99 : (Cond.initialized RX11 : Cond) ∈ wsG := wG 99 (by decide +kernel) (by decide +kernel)
theorem wd_100 : (Cond.initialized "java/lang/Math" : Cond) ∈ wsG := wG 100 (by decide +kernel) (by decide +kernel)
theorem wd_101 : (Cond.initialized "java/lang/System" : Cond) ∈ wsG := wG 101 (by decide +kernel) (by decide +kernel)
theorem wd_102 : (Cond.initialized "java/lang/Number" : Cond) ∈ wsG := wG 102 (by decide +kernel) (by decide +kernel)
theorem wd_103 : (Cond.initialized "java/lang/Float" : Cond) ∈ wsG := wG 103 (by decide +kernel) (by decide +kernel)
theorem wd_104 : (Cond.initialized "java/lang/Integer" : Cond) ∈ wsG := wG 104 (by decide +kernel) (by decide +kernel)
theorem wd_105 : (Cond.initialized RX4 : Cond) ∈ wsG := wG 105 (by decide +kernel) (by decide +kernel)
theorem wd_106 : (Cond.initialized "java/lang/Throwable" : Cond) ∈ wsG := wG 106 (by decide +kernel) (by decide +kernel)
theorem wd_107 : (Cond.initialized "java/lang/Exception" : Cond) ∈ wsG := wG 107 (by decide +kernel) (by decide +kernel)
theorem wd_108 : (Cond.initialized "java/lang/RuntimeException" : Cond) ∈ wsG := wG 108 (by decide +kernel) (by decide +kernel)
theorem wd_109 : (Cond.initialized "java/util/NoSuchElementException" : Cond) ∈ wsG := wG 109 (by decide +kernel) (by decide +kernel)
theorem wd_110 : (Cond.classLink RL 8 "EnginesOut" : Cond) ∈ wsG := wG 110 (by decide +kernel) (by decide +kernel)
theorem wd_111 : (Cond.instantiable RX10 9 : Cond) ∈ wsG := wG 111 (by decide +kernel) (by decide +kernel)
theorem wd_112 : (Cond.methodLink RL 15 yX10_init : Cond) ∈ wsG := wG 112 (by decide +kernel) (by decide +kernel)
theorem wd_113 : (Cond.instanceMethod yX10_init : Cond) ∈ wsG := wG 113 (by decide +kernel) (by decide +kernel)
theorem wd_114 : (Cond.code yX10_init cX10_init 1 (none : Option Jvm.ClassFile.FieldType) : Cond) ∈ wsG := wG 114 (by decide +kernel) (by decide +kernel)
theorem wd_115 : (Cond.methodLink RX10 1 objectInit : Cond) ∈ wsG := wG 115 (by decide +kernel) (by decide +kernel)
theorem wd_116 : (Cond.instanceMethod objectInit : Cond) ∈ wsG := wG 116 (by decide +kernel) (by decide +kernel)
theorem wd_117 : (Cond.code objectInit object_method_1_code 1 (none : Option Jvm.ClassFile.FieldType) : Cond) ∈ wsG := wG 117 (by decide +kernel) (by decide +kernel)
theorem wd_118 : (Cond.classLink RX10 7 "EnginesOut$Row" : Cond) ∈ wsG := wG 118 (by decide +kernel) (by decide +kernel)
theorem wd_119 : (Cond.instantiable RX6 2 : Cond) ∈ wsG := wG 119 (by decide +kernel) (by decide +kernel)
theorem wd_120 : (Cond.methodLinkNest RX10 9 yX6_init "EnginesOut" : Cond) ∈ lw_tbl := List.mem_of_getElem? (i := 120) (by decide +kernel)
theorem wd_121 : (Cond.instanceMethod yX6_init : Cond) ∈ wsG := wG 121 (by decide +kernel) (by decide +kernel)
theorem wd_122 : (Cond.code yX6_init cX6_init 1 (none : Option Jvm.ClassFile.FieldType) : Cond) ∈ wsG := wG 122 (by decide +kernel) (by decide +kernel)
theorem wd_123 : (Cond.methodLink RX6 3 objectInit : Cond) ∈ wsG := wG 123 (by decide +kernel) (by decide +kernel)
theorem wd_124 : (Cond.fieldLink RX6 11 "EnginesOut$Row" "numbers" "[J" : Cond) ∈ wsG := wG 124 (by decide +kernel) (by decide +kernel)
theorem wd_125 : (Cond.fieldLink RX10 387 "EnginesOut$Row" "numbers" "[J" : Cond) ∈ wsG := wG 125 (by decide +kernel) (by decide +kernel)
theorem wd_126 : (Cond.fieldLink RX6 15 "EnginesOut$Row" "size" "I" : Cond) ∈ wsG := wG 126 (by decide +kernel) (by decide +kernel)
theorem wd_127 : (Cond.fieldLink RX10 382 "EnginesOut$Row" "size" "I" : Cond) ∈ wsG := wG 127 (by decide +kernel) (by decide +kernel)
theorem wd_128 : (Cond.laysFinal "EnginesOut$Row" "EnginesOut$Row" "numbers" "[J" : Cond) ∈ wsG := wG 128 (by decide +kernel) (by decide +kernel)
theorem wd_130 : (Cond.lays "EnginesOut$Row" "EnginesOut$Row" "size" "I" : Cond) ∈ wsG := wG 130 (by decide +kernel) (by decide +kernel)
theorem wd_133 : (Cond.arrayClass .long : Cond) ∈ wsG := wG 133 (by decide +kernel) (by decide +kernel)
theorem wd_134 : (Cond.classLink RX10 16 "EnginesOut$Reader" : Cond) ∈ wsG := wG 134 (by decide +kernel) (by decide +kernel)
theorem wd_135 : (Cond.instantiable RX5 7 : Cond) ∈ wsG := wG 135 (by decide +kernel) (by decide +kernel)
theorem wd_136 : (Cond.methodLinkNest RX10 18 yX5_init "EnginesOut" : Cond) ∈ lw_tbl := List.mem_of_getElem? (i := 136) (by decide +kernel)
theorem wd_137 : (Cond.instanceMethod yX5_init : Cond) ∈ wsG := wG 137 (by decide +kernel) (by decide +kernel)
theorem wd_138 : (Cond.code yX5_init cX5_init 1 (none : Option Jvm.ClassFile.FieldType) : Cond) ∈ wsG := wG 138 (by decide +kernel) (by decide +kernel)
theorem wd_139 : (Cond.methodLink RX5 3 objectInit : Cond) ∈ wsG := wG 139 (by decide +kernel) (by decide +kernel)
theorem wd_140 : (Cond.classLink RX5 9 "EnginesOut$Text" : Cond) ∈ wsG := wG 140 (by decide +kernel) (by decide +kernel)
theorem wd_141 : (Cond.instantiable RX8 2 : Cond) ∈ wsG := wG 141 (by decide +kernel) (by decide +kernel)
theorem wd_142 : (Cond.methodLinkNest RX5 11 yX8_init "EnginesOut" : Cond) ∈ lw_tbl := List.mem_of_getElem? (i := 142) (by decide +kernel)
theorem wd_143 : (Cond.instanceMethod yX8_init : Cond) ∈ wsG := wG 143 (by decide +kernel) (by decide +kernel)
theorem wd_144 : (Cond.code yX8_init cX8_init 1 (none : Option Jvm.ClassFile.FieldType) : Cond) ∈ wsG := wG 144 (by decide +kernel) (by decide +kernel)
theorem wd_145 : (Cond.methodLink RX8 3 objectInit : Cond) ∈ wsG := wG 145 (by decide +kernel) (by decide +kernel)
theorem wd_146 : (Cond.fieldLink RX8 9 "EnginesOut$Text" "signs" "[I" : Cond) ∈ wsG := wG 146 (by decide +kernel) (by decide +kernel)
theorem wd_147 : (Cond.fieldLink RX8 15 "EnginesOut$Text" "size" "I" : Cond) ∈ wsG := wG 147 (by decide +kernel) (by decide +kernel)
theorem wd_148 : (Cond.fieldLink RX5 45 "EnginesOut$Text" "size" "I" : Cond) ∈ wsG := wG 148 (by decide +kernel) (by decide +kernel)
theorem wd_149 : (Cond.fieldLink RX10 383 "EnginesOut$Text" "size" "I" : Cond) ∈ wsG := wG 149 (by decide +kernel) (by decide +kernel)
theorem wd_150 : (Cond.laysFinal "EnginesOut$Text" "EnginesOut$Text" "signs" "[I" : Cond) ∈ wsG := wG 150 (by decide +kernel) (by decide +kernel)
theorem wd_152 : (Cond.lays "EnginesOut$Text" "EnginesOut$Text" "size" "I" : Cond) ∈ wsG := wG 152 (by decide +kernel) (by decide +kernel)
theorem wd_155 : (Cond.arrayClass .int : Cond) ∈ wsG := wG 155 (by decide +kernel) (by decide +kernel)
theorem wd_156 : (Cond.classLink RX5 18 "EnginesOut$Land" : Cond) ∈ wsG := wG 156 (by decide +kernel) (by decide +kernel)
theorem wd_157 : (Cond.instantiable RX3 9 : Cond) ∈ wsG := wG 157 (by decide +kernel) (by decide +kernel)
theorem wd_158 : (Cond.methodLink RX5 20 yX3_init : Cond) ∈ wsG := wG 158 (by decide +kernel) (by decide +kernel)
theorem wd_159 : (Cond.instanceMethod yX3_init : Cond) ∈ wsG := wG 159 (by decide +kernel) (by decide +kernel)
theorem wd_160 : (Cond.code yX3_init cX3_init 2 (none : Option Jvm.ClassFile.FieldType) : Cond) ∈ wsG := wG 160 (by decide +kernel) (by decide +kernel)
theorem wd_161 : (Cond.methodLink RX3 3 objectInit : Cond) ∈ wsG := wG 161 (by decide +kernel) (by decide +kernel)
theorem wd_162 : (Cond.methodLink RX3 41 ⟨"java/util/Arrays", "fill", "([II)V"⟩ : Cond) ∈ wsG := wG 162 (by decide +kernel) (by decide +kernel)
theorem wd_163 : (Cond.static ⟨"java/util/Arrays", "fill", "([II)V"⟩ : Cond) ∈ wsG := wG 163 (by decide +kernel) (by decide +kernel)
theorem wd_164 : (Cond.code ⟨"java/util/Arrays", "fill", "([II)V"⟩ prog_23_method_103_code 4 (none : Option Jvm.ClassFile.FieldType) : Cond) ∈ wsG := wG 164 (by decide +kernel) (by decide +kernel)
theorem wd_165 : (Cond.fieldLink RX3 9 "EnginesOut$Land" "weights" "[I" : Cond) ∈ wsG := wG 165 (by decide +kernel) (by decide +kernel)
theorem wd_166 : (Cond.fieldLink RX0 60 "EnginesOut$Land" "weights" "[I" : Cond) ∈ wsG := wG 166 (by decide +kernel) (by decide +kernel)
theorem wd_167 : (Cond.fieldLink RX5 96 "EnginesOut$Land" "weights" "[I" : Cond) ∈ wsG := wG 167 (by decide +kernel) (by decide +kernel)
theorem wd_168 : (Cond.fieldLink RX9 98 "EnginesOut$Land" "weights" "[I" : Cond) ∈ wsG := wG 168 (by decide +kernel) (by decide +kernel)
theorem wd_169 : (Cond.fieldLink RX10 159 "EnginesOut$Land" "weights" "[I" : Cond) ∈ wsG := wG 169 (by decide +kernel) (by decide +kernel)
theorem wd_170 : (Cond.fieldLink RX3 15 "EnginesOut$Land" "lesser" "[I" : Cond) ∈ wsG := wG 170 (by decide +kernel) (by decide +kernel)
theorem wd_171 : (Cond.fieldLink RX10 290 "EnginesOut$Land" "lesser" "[I" : Cond) ∈ wsG := wG 171 (by decide +kernel) (by decide +kernel)
theorem wd_172 : (Cond.fieldLink RX3 18 "EnginesOut$Land" "greater" "[I" : Cond) ∈ wsG := wG 172 (by decide +kernel) (by decide +kernel)
theorem wd_173 : (Cond.fieldLink RX10 293 "EnginesOut$Land" "greater" "[I" : Cond) ∈ wsG := wG 173 (by decide +kernel) (by decide +kernel)
theorem wd_174 : (Cond.fieldLink RX3 21 "EnginesOut$Land" "lengths" "[I" : Cond) ∈ wsG := wG 174 (by decide +kernel) (by decide +kernel)
theorem wd_175 : (Cond.fieldLink RX3 24 "EnginesOut$Land" "isShut" "[Z" : Cond) ∈ wsG := wG 175 (by decide +kernel) (by decide +kernel)
theorem wd_176 : (Cond.fieldLink RX10 127 "EnginesOut$Land" "isShut" "[Z" : Cond) ∈ wsG := wG 176 (by decide +kernel) (by decide +kernel)
theorem wd_177 : (Cond.fieldLink RX3 28 "EnginesOut$Land" "ways" "[I" : Cond) ∈ wsG := wG 177 (by decide +kernel) (by decide +kernel)
theorem wd_178 : (Cond.fieldLink RX5 55 "EnginesOut$Land" "ways" "[I" : Cond) ∈ wsG := wG 178 (by decide +kernel) (by decide +kernel)
theorem wd_179 : (Cond.fieldLink RX10 131 "EnginesOut$Land" "ways" "[I" : Cond) ∈ wsG := wG 179 (by decide +kernel) (by decide +kernel)
theorem wd_180 : (Cond.fieldLink RX3 31 "EnginesOut$Land" "places" "[I" : Cond) ∈ wsG := wG 180 (by decide +kernel) (by decide +kernel)
theorem wd_181 : (Cond.fieldLink RX5 105 "EnginesOut$Land" "places" "[I" : Cond) ∈ wsG := wG 181 (by decide +kernel) (by decide +kernel)
theorem wd_182 : (Cond.fieldLink RX3 34 "EnginesOut$Land" "roads" "I" : Cond) ∈ wsG := wG 182 (by decide +kernel) (by decide +kernel)
theorem wd_183 : (Cond.fieldLink RX10 283 "EnginesOut$Land" "roads" "I" : Cond) ∈ wsG := wG 183 (by decide +kernel) (by decide +kernel)
theorem wd_184 : (Cond.fieldLink RX3 38 "EnginesOut$Land" "stations" "I" : Cond) ∈ wsG := wG 184 (by decide +kernel) (by decide +kernel)
theorem wd_185 : (Cond.fieldLink RX4 65 "EnginesOut$Land" "stations" "I" : Cond) ∈ wsG := wG 185 (by decide +kernel) (by decide +kernel)
theorem wd_186 : (Cond.fieldLink RX5 99 "EnginesOut$Land" "stations" "I" : Cond) ∈ wsG := wG 186 (by decide +kernel) (by decide +kernel)
theorem wd_187 : (Cond.fieldLink RX0 86 "EnginesOut$Land" "stations" "I" : Cond) ∈ wsG := wG 187 (by decide +kernel) (by decide +kernel)
theorem wd_188 : (Cond.fieldLink RX7 53 "EnginesOut$Land" "stations" "I" : Cond) ∈ wsG := wG 188 (by decide +kernel) (by decide +kernel)
theorem wd_189 : (Cond.fieldLink RX10 240 "EnginesOut$Land" "stations" "I" : Cond) ∈ wsG := wG 189 (by decide +kernel) (by decide +kernel)
theorem wd_190 : (Cond.laysFinal "EnginesOut$Land" "EnginesOut$Land" "weights" "[I" : Cond) ∈ wsG := wG 190 (by decide +kernel) (by decide +kernel)
theorem wd_192 : (Cond.laysFinal "EnginesOut$Land" "EnginesOut$Land" "lesser" "[I" : Cond) ∈ wsG := wG 192 (by decide +kernel) (by decide +kernel)
theorem wd_194 : (Cond.laysFinal "EnginesOut$Land" "EnginesOut$Land" "greater" "[I" : Cond) ∈ wsG := wG 194 (by decide +kernel) (by decide +kernel)
theorem wd_196 : (Cond.laysFinal "EnginesOut$Land" "EnginesOut$Land" "lengths" "[I" : Cond) ∈ wsG := wG 196 (by decide +kernel) (by decide +kernel)
theorem wd_198 : (Cond.laysFinal "EnginesOut$Land" "EnginesOut$Land" "isShut" "[Z" : Cond) ∈ wsG := wG 198 (by decide +kernel) (by decide +kernel)
theorem wd_200 : (Cond.laysFinal "EnginesOut$Land" "EnginesOut$Land" "ways" "[I" : Cond) ∈ wsG := wG 200 (by decide +kernel) (by decide +kernel)
theorem wd_202 : (Cond.laysFinal "EnginesOut$Land" "EnginesOut$Land" "places" "[I" : Cond) ∈ wsG := wG 202 (by decide +kernel) (by decide +kernel)
theorem wd_204 : (Cond.lays "EnginesOut$Land" "EnginesOut$Land" "roads" "I" : Cond) ∈ wsG := wG 204 (by decide +kernel) (by decide +kernel)
theorem wd_206 : (Cond.lays "EnginesOut$Land" "EnginesOut$Land" "stations" "I" : Cond) ∈ wsG := wG 206 (by decide +kernel) (by decide +kernel)
theorem wd_209 : (Cond.arrayClass .boolean : Cond) ∈ wsG := wG 209 (by decide +kernel) (by decide +kernel)
theorem wd_210 : (Cond.fieldLink RX5 12 "EnginesOut$Reader" "text" "LEnginesOut$Text;" : Cond) ∈ wsG := wG 210 (by decide +kernel) (by decide +kernel)
theorem wd_211 : (Cond.fieldLink RX10 62 "EnginesOut$Reader" "text" "LEnginesOut$Text;" : Cond) ∈ wsG := wG 211 (by decide +kernel) (by decide +kernel)
theorem wd_212 : (Cond.fieldLink RX5 21 "EnginesOut$Reader" "draft" "LEnginesOut$Land;" : Cond) ∈ wsG := wG 212 (by decide +kernel) (by decide +kernel)
theorem wd_213 : (Cond.fieldLink RX10 84 "EnginesOut$Reader" "draft" "LEnginesOut$Land;" : Cond) ∈ wsG := wG 213 (by decide +kernel) (by decide +kernel)
theorem wd_214 : (Cond.fieldLink RX5 25 "EnginesOut$Reader" "posts" "[I" : Cond) ∈ wsG := wG 214 (by decide +kernel) (by decide +kernel)
theorem wd_215 : (Cond.fieldLink RX10 97 "EnginesOut$Reader" "posts" "[I" : Cond) ∈ wsG := wG 215 (by decide +kernel) (by decide +kernel)
theorem wd_216 : (Cond.fieldLink RX5 29 "EnginesOut$Reader" "engines" "I" : Cond) ∈ wsG := wG 216 (by decide +kernel) (by decide +kernel)
theorem wd_217 : (Cond.fieldLink RX10 101 "EnginesOut$Reader" "engines" "I" : Cond) ∈ wsG := wG 217 (by decide +kernel) (by decide +kernel)
theorem wd_218 : (Cond.fieldLink RX5 33 "EnginesOut$Reader" "at" "I" : Cond) ∈ wsG := wG 218 (by decide +kernel) (by decide +kernel)
theorem wd_219 : (Cond.fieldLink RX5 36 "EnginesOut$Reader" "fault" "I" : Cond) ∈ wsG := wG 219 (by decide +kernel) (by decide +kernel)
theorem wd_220 : (Cond.fieldLink RX5 39 "EnginesOut$Reader" "weighed" "I" : Cond) ∈ wsG := wG 220 (by decide +kernel) (by decide +kernel)
theorem wd_221 : (Cond.laysFinal "EnginesOut$Reader" "EnginesOut$Reader" "text" "LEnginesOut$Text;" : Cond) ∈ wsG := wG 221 (by decide +kernel) (by decide +kernel)
theorem wd_223 : (Cond.laysFinal "EnginesOut$Reader" "EnginesOut$Reader" "draft" "LEnginesOut$Land;" : Cond) ∈ wsG := wG 223 (by decide +kernel) (by decide +kernel)
theorem wd_225 : (Cond.laysFinal "EnginesOut$Reader" "EnginesOut$Reader" "posts" "[I" : Cond) ∈ wsG := wG 225 (by decide +kernel) (by decide +kernel)
theorem wd_227 : (Cond.lays "EnginesOut$Reader" "EnginesOut$Reader" "engines" "I" : Cond) ∈ wsG := wG 227 (by decide +kernel) (by decide +kernel)
theorem wd_229 : (Cond.lays "EnginesOut$Reader" "EnginesOut$Reader" "at" "I" : Cond) ∈ wsG := wG 229 (by decide +kernel) (by decide +kernel)
theorem wd_231 : (Cond.lays "EnginesOut$Reader" "EnginesOut$Reader" "fault" "I" : Cond) ∈ wsG := wG 231 (by decide +kernel) (by decide +kernel)
theorem wd_233 : (Cond.lays "EnginesOut$Reader" "EnginesOut$Reader" "weighed" "I" : Cond) ∈ wsG := wG 233 (by decide +kernel) (by decide +kernel)
theorem wd_236 : (Cond.classLink RX10 23 "EnginesOut$World" : Cond) ∈ wsG := wG 236 (by decide +kernel) (by decide +kernel)
theorem wd_237 : (Cond.instantiable RX9 6 : Cond) ∈ wsG := wG 237 (by decide +kernel) (by decide +kernel)
theorem wd_238 : (Cond.methodLinkNest RX10 25 yX9_init "EnginesOut" : Cond) ∈ lw_tbl := List.mem_of_getElem? (i := 238) (by decide +kernel)
theorem wd_239 : (Cond.instanceMethod yX9_init : Cond) ∈ wsG := wG 239 (by decide +kernel) (by decide +kernel)
theorem wd_240 : (Cond.code yX9_init cX9_init 1 (none : Option Jvm.ClassFile.FieldType) : Cond) ∈ wsG := wG 240 (by decide +kernel) (by decide +kernel)
theorem wd_241 : (Cond.methodLink RX9 3 objectInit : Cond) ∈ wsG := wG 241 (by decide +kernel) (by decide +kernel)
theorem wd_242 : (Cond.classLink RX9 9 "EnginesOut$Land" : Cond) ∈ wsG := wG 242 (by decide +kernel) (by decide +kernel)
theorem wd_243 : (Cond.methodLink RX9 11 yX3_init : Cond) ∈ wsG := wG 243 (by decide +kernel) (by decide +kernel)
theorem wd_244 : (Cond.classLink RX9 18 "EnginesOut$Crew" : Cond) ∈ wsG := wG 244 (by decide +kernel) (by decide +kernel)
theorem wd_245 : (Cond.instantiable RX2 12 : Cond) ∈ wsG := wG 245 (by decide +kernel) (by decide +kernel)
theorem wd_246 : (Cond.methodLinkNest RX9 20 yX2_init "EnginesOut" : Cond) ∈ lw_tbl := List.mem_of_getElem? (i := 246) (by decide +kernel)
theorem wd_247 : (Cond.instanceMethod yX2_init : Cond) ∈ wsG := wG 247 (by decide +kernel) (by decide +kernel)
theorem wd_248 : (Cond.code yX2_init cX2_init 1 (none : Option Jvm.ClassFile.FieldType) : Cond) ∈ wsG := wG 248 (by decide +kernel) (by decide +kernel)
theorem wd_249 : (Cond.methodLink RX2 3 objectInit : Cond) ∈ wsG := wG 249 (by decide +kernel) (by decide +kernel)
theorem wd_250 : (Cond.fieldLink RX2 9 "EnginesOut$Crew" "posts" "[I" : Cond) ∈ wsG := wG 250 (by decide +kernel) (by decide +kernel)
theorem wd_251 : (Cond.fieldLink RX0 45 "EnginesOut$Crew" "posts" "[I" : Cond) ∈ wsG := wG 251 (by decide +kernel) (by decide +kernel)
theorem wd_252 : (Cond.fieldLink RX4 84 "EnginesOut$Crew" "posts" "[I" : Cond) ∈ wsG := wG 252 (by decide +kernel) (by decide +kernel)
theorem wd_253 : (Cond.fieldLink RX7 36 "EnginesOut$Crew" "posts" "[I" : Cond) ∈ wsG := wG 253 (by decide +kernel) (by decide +kernel)
theorem wd_254 : (Cond.fieldLink RX9 63 "EnginesOut$Crew" "posts" "[I" : Cond) ∈ wsG := wG 254 (by decide +kernel) (by decide +kernel)
theorem wd_255 : (Cond.fieldLink RX10 174 "EnginesOut$Crew" "posts" "[I" : Cond) ∈ wsG := wG 255 (by decide +kernel) (by decide +kernel)
theorem wd_256 : (Cond.fieldLink RX2 15 "EnginesOut$Crew" "modes" "[I" : Cond) ∈ wsG := wG 256 (by decide +kernel) (by decide +kernel)
theorem wd_257 : (Cond.fieldLink RX0 42 "EnginesOut$Crew" "modes" "[I" : Cond) ∈ wsG := wG 257 (by decide +kernel) (by decide +kernel)
theorem wd_258 : (Cond.fieldLink RX4 81 "EnginesOut$Crew" "modes" "[I" : Cond) ∈ wsG := wG 258 (by decide +kernel) (by decide +kernel)
theorem wd_259 : (Cond.fieldLink RX9 59 "EnginesOut$Crew" "modes" "[I" : Cond) ∈ wsG := wG 259 (by decide +kernel) (by decide +kernel)
theorem wd_260 : (Cond.fieldLink RX10 175 "EnginesOut$Crew" "modes" "[I" : Cond) ∈ wsG := wG 260 (by decide +kernel) (by decide +kernel)
theorem wd_261 : (Cond.fieldLink RX2 18 "EnginesOut$Crew" "readyAt" "[I" : Cond) ∈ wsG := wG 261 (by decide +kernel) (by decide +kernel)
theorem wd_262 : (Cond.fieldLink RX2 21 "EnginesOut$Crew" "begun" "[I" : Cond) ∈ wsG := wG 262 (by decide +kernel) (by decide +kernel)
theorem wd_263 : (Cond.fieldLink RX2 24 "EnginesOut$Crew" "size" "I" : Cond) ∈ wsG := wG 263 (by decide +kernel) (by decide +kernel)
theorem wd_264 : (Cond.fieldLink RX1 30 "EnginesOut$Crew" "size" "I" : Cond) ∈ wsG := wG 264 (by decide +kernel) (by decide +kernel)
theorem wd_265 : (Cond.fieldLink RX0 36 "EnginesOut$Crew" "size" "I" : Cond) ∈ wsG := wG 265 (by decide +kernel) (by decide +kernel)
theorem wd_266 : (Cond.fieldLink RX4 78 "EnginesOut$Crew" "size" "I" : Cond) ∈ wsG := wG 266 (by decide +kernel) (by decide +kernel)
theorem wd_267 : (Cond.fieldLink RX7 31 "EnginesOut$Crew" "size" "I" : Cond) ∈ wsG := wG 267 (by decide +kernel) (by decide +kernel)
theorem wd_268 : (Cond.fieldLink RX9 56 "EnginesOut$Crew" "size" "I" : Cond) ∈ wsG := wG 268 (by decide +kernel) (by decide +kernel)
theorem wd_269 : (Cond.fieldLink RX10 304 "EnginesOut$Crew" "size" "I" : Cond) ∈ wsG := wG 269 (by decide +kernel) (by decide +kernel)
theorem wd_270 : (Cond.fieldLink RX2 28 "EnginesOut$Crew" "beginnings" "I" : Cond) ∈ wsG := wG 270 (by decide +kernel) (by decide +kernel)
theorem wd_271 : (Cond.fieldLink RX2 31 "EnginesOut$Crew" "minute" "I" : Cond) ∈ wsG := wG 271 (by decide +kernel) (by decide +kernel)
theorem wd_272 : (Cond.fieldLink RX10 376 "EnginesOut$Crew" "minute" "I" : Cond) ∈ wsG := wG 272 (by decide +kernel) (by decide +kernel)
theorem wd_273 : (Cond.fieldLink RX2 34 "EnginesOut$Crew" "calls" "I" : Cond) ∈ wsG := wG 273 (by decide +kernel) (by decide +kernel)
theorem wd_274 : (Cond.fieldLink RX9 79 "EnginesOut$Crew" "calls" "I" : Cond) ∈ wsG := wG 274 (by decide +kernel) (by decide +kernel)
theorem wd_275 : (Cond.fieldLink RX10 221 "EnginesOut$Crew" "calls" "I" : Cond) ∈ wsG := wG 275 (by decide +kernel) (by decide +kernel)
theorem wd_276 : (Cond.fieldLink RX2 37 "EnginesOut$Crew" "late" "I" : Cond) ∈ wsG := wG 276 (by decide +kernel) (by decide +kernel)
theorem wd_277 : (Cond.fieldLink RX9 85 "EnginesOut$Crew" "late" "I" : Cond) ∈ wsG := wG 277 (by decide +kernel) (by decide +kernel)
theorem wd_278 : (Cond.fieldLink RX10 184 "EnginesOut$Crew" "late" "I" : Cond) ∈ wsG := wG 278 (by decide +kernel) (by decide +kernel)
theorem wd_279 : (Cond.fieldLink RX2 40 "EnginesOut$Crew" "lost" "I" : Cond) ∈ wsG := wG 279 (by decide +kernel) (by decide +kernel)
theorem wd_280 : (Cond.fieldLink RX9 82 "EnginesOut$Crew" "lost" "I" : Cond) ∈ wsG := wG 280 (by decide +kernel) (by decide +kernel)
theorem wd_281 : (Cond.fieldLink RX10 224 "EnginesOut$Crew" "lost" "I" : Cond) ∈ wsG := wG 281 (by decide +kernel) (by decide +kernel)
theorem wd_282 : (Cond.fieldLink RX2 43 "EnginesOut$Crew" "driven" "I" : Cond) ∈ wsG := wG 282 (by decide +kernel) (by decide +kernel)
theorem wd_283 : (Cond.fieldLink RX10 187 "EnginesOut$Crew" "driven" "I" : Cond) ∈ wsG := wG 283 (by decide +kernel) (by decide +kernel)
theorem wd_284 : (Cond.fieldLink RX2 46 "EnginesOut$Crew" "moved" "I" : Cond) ∈ wsG := wG 284 (by decide +kernel) (by decide +kernel)
theorem wd_285 : (Cond.fieldLink RX10 379 "EnginesOut$Crew" "moved" "I" : Cond) ∈ wsG := wG 285 (by decide +kernel) (by decide +kernel)
theorem wd_286 : (Cond.laysFinal "EnginesOut$Crew" "EnginesOut$Crew" "posts" "[I" : Cond) ∈ wsG := wG 286 (by decide +kernel) (by decide +kernel)
theorem wd_288 : (Cond.laysFinal "EnginesOut$Crew" "EnginesOut$Crew" "modes" "[I" : Cond) ∈ wsG := wG 288 (by decide +kernel) (by decide +kernel)
theorem wd_290 : (Cond.laysFinal "EnginesOut$Crew" "EnginesOut$Crew" "readyAt" "[I" : Cond) ∈ wsG := wG 290 (by decide +kernel) (by decide +kernel)
theorem wd_292 : (Cond.laysFinal "EnginesOut$Crew" "EnginesOut$Crew" "begun" "[I" : Cond) ∈ wsG := wG 292 (by decide +kernel) (by decide +kernel)
theorem wd_294 : (Cond.lays "EnginesOut$Crew" "EnginesOut$Crew" "size" "I" : Cond) ∈ wsG := wG 294 (by decide +kernel) (by decide +kernel)
theorem wd_296 : (Cond.lays "EnginesOut$Crew" "EnginesOut$Crew" "beginnings" "I" : Cond) ∈ wsG := wG 296 (by decide +kernel) (by decide +kernel)
theorem wd_298 : (Cond.lays "EnginesOut$Crew" "EnginesOut$Crew" "minute" "I" : Cond) ∈ wsG := wG 298 (by decide +kernel) (by decide +kernel)
theorem wd_300 : (Cond.lays "EnginesOut$Crew" "EnginesOut$Crew" "calls" "I" : Cond) ∈ wsG := wG 300 (by decide +kernel) (by decide +kernel)
theorem wd_302 : (Cond.lays "EnginesOut$Crew" "EnginesOut$Crew" "late" "I" : Cond) ∈ wsG := wG 302 (by decide +kernel) (by decide +kernel)
theorem wd_304 : (Cond.lays "EnginesOut$Crew" "EnginesOut$Crew" "lost" "I" : Cond) ∈ wsG := wG 304 (by decide +kernel) (by decide +kernel)
theorem wd_306 : (Cond.lays "EnginesOut$Crew" "EnginesOut$Crew" "driven" "I" : Cond) ∈ wsG := wG 306 (by decide +kernel) (by decide +kernel)
theorem wd_308 : (Cond.lays "EnginesOut$Crew" "EnginesOut$Crew" "moved" "I" : Cond) ∈ wsG := wG 308 (by decide +kernel) (by decide +kernel)
theorem wd_311 : (Cond.fieldLink RX9 12 "EnginesOut$World" "land" "LEnginesOut$Land;" : Cond) ∈ wsG := wG 311 (by decide +kernel) (by decide +kernel)
theorem wd_312 : (Cond.fieldLink RX4 48 "EnginesOut$World" "land" "LEnginesOut$Land;" : Cond) ∈ wsG := wG 312 (by decide +kernel) (by decide +kernel)
theorem wd_313 : (Cond.fieldLink RX0 52 "EnginesOut$World" "land" "LEnginesOut$Land;" : Cond) ∈ wsG := wG 313 (by decide +kernel) (by decide +kernel)
theorem wd_314 : (Cond.fieldLink RX10 80 "EnginesOut$World" "land" "LEnginesOut$Land;" : Cond) ∈ wsG := wG 314 (by decide +kernel) (by decide +kernel)
theorem wd_315 : (Cond.fieldLink RX9 21 "EnginesOut$World" "crew" "LEnginesOut$Crew;" : Cond) ∈ wsG := wG 315 (by decide +kernel) (by decide +kernel)
theorem wd_316 : (Cond.fieldLink RX1 24 "EnginesOut$World" "crew" "LEnginesOut$Crew;" : Cond) ∈ wsG := wG 316 (by decide +kernel) (by decide +kernel)
theorem wd_317 : (Cond.fieldLink RX0 30 "EnginesOut$World" "crew" "LEnginesOut$Crew;" : Cond) ∈ wsG := wG 317 (by decide +kernel) (by decide +kernel)
theorem wd_318 : (Cond.fieldLink RX4 74 "EnginesOut$World" "crew" "LEnginesOut$Crew;" : Cond) ∈ wsG := wG 318 (by decide +kernel) (by decide +kernel)
theorem wd_319 : (Cond.fieldLink RX10 93 "EnginesOut$World" "crew" "LEnginesOut$Crew;" : Cond) ∈ wsG := wG 319 (by decide +kernel) (by decide +kernel)
theorem wd_320 : (Cond.fieldLink RX9 25 "EnginesOut$World" "reach" "I" : Cond) ∈ wsG := wG 320 (by decide +kernel) (by decide +kernel)
theorem wd_321 : (Cond.fieldLink RX10 111 "EnginesOut$World" "reach" "I" : Cond) ∈ wsG := wG 321 (by decide +kernel) (by decide +kernel)
theorem wd_322 : (Cond.fieldLink RX9 29 "EnginesOut$World" "service" "I" : Cond) ∈ wsG := wG 322 (by decide +kernel) (by decide +kernel)
theorem wd_323 : (Cond.fieldLink RX10 114 "EnginesOut$World" "service" "I" : Cond) ∈ wsG := wG 323 (by decide +kernel) (by decide +kernel)
theorem wd_324 : (Cond.fieldLink RX9 32 "EnginesOut$World" "limit" "I" : Cond) ∈ wsG := wG 324 (by decide +kernel) (by decide +kernel)
theorem wd_325 : (Cond.fieldLink RX10 117 "EnginesOut$World" "limit" "I" : Cond) ∈ wsG := wG 325 (by decide +kernel) (by decide +kernel)
theorem wd_326 : (Cond.fieldLink RX9 35 "EnginesOut$World" "random" "I" : Cond) ∈ wsG := wG 326 (by decide +kernel) (by decide +kernel)
theorem wd_327 : (Cond.fieldLink RX10 218 "EnginesOut$World" "random" "I" : Cond) ∈ wsG := wG 327 (by decide +kernel) (by decide +kernel)
theorem wd_328 : (Cond.laysFinal "EnginesOut$World" "EnginesOut$World" "land" "LEnginesOut$Land;" : Cond) ∈ wsG := wG 328 (by decide +kernel) (by decide +kernel)
theorem wd_330 : (Cond.laysFinal "EnginesOut$World" "EnginesOut$World" "crew" "LEnginesOut$Crew;" : Cond) ∈ wsG := wG 330 (by decide +kernel) (by decide +kernel)
theorem wd_332 : (Cond.lays "EnginesOut$World" "EnginesOut$World" "reach" "I" : Cond) ∈ wsG := wG 332 (by decide +kernel) (by decide +kernel)
theorem wd_334 : (Cond.lays "EnginesOut$World" "EnginesOut$World" "service" "I" : Cond) ∈ wsG := wG 334 (by decide +kernel) (by decide +kernel)
theorem wd_336 : (Cond.lays "EnginesOut$World" "EnginesOut$World" "limit" "I" : Cond) ∈ wsG := wG 336 (by decide +kernel) (by decide +kernel)
theorem wd_338 : (Cond.lays "EnginesOut$World" "EnginesOut$World" "random" "I" : Cond) ∈ wsG := wG 338 (by decide +kernel) (by decide +kernel)
theorem wd_341 : (Cond.classLink RX10 33 "EnginesOut$Sight" : Cond) ∈ wsG := wG 341 (by decide +kernel) (by decide +kernel)
theorem wd_342 : (Cond.instantiable RX7 4 : Cond) ∈ wsG := wG 342 (by decide +kernel) (by decide +kernel)
theorem wd_343 : (Cond.methodLinkNest RX10 35 yX7_init "EnginesOut" : Cond) ∈ lw_tbl := List.mem_of_getElem? (i := 343) (by decide +kernel)
theorem wd_344 : (Cond.instanceMethod yX7_init : Cond) ∈ wsG := wG 344 (by decide +kernel) (by decide +kernel)
theorem wd_345 : (Cond.code yX7_init cX7_init 1 (none : Option Jvm.ClassFile.FieldType) : Cond) ∈ wsG := wG 345 (by decide +kernel) (by decide +kernel)
theorem wd_346 : (Cond.methodLink RX7 3 objectInit : Cond) ∈ wsG := wG 346 (by decide +kernel) (by decide +kernel)
theorem wd_347 : (Cond.fieldLink RX7 9 "EnginesOut$Sight" "nodesOf" "[I" : Cond) ∈ wsG := wG 347 (by decide +kernel) (by decide +kernel)
theorem wd_348 : (Cond.fieldLink RX0 25 "EnginesOut$Sight" "nodesOf" "[I" : Cond) ∈ wsG := wG 348 (by decide +kernel) (by decide +kernel)
theorem wd_349 : (Cond.fieldLink RX10 149 "EnginesOut$Sight" "nodesOf" "[I" : Cond) ∈ wsG := wG 349 (by decide +kernel) (by decide +kernel)
theorem wd_350 : (Cond.fieldLink RX7 15 "EnginesOut$Sight" "ways" "[I" : Cond) ∈ wsG := wG 350 (by decide +kernel) (by decide +kernel)
theorem wd_351 : (Cond.fieldLink RX10 286 "EnginesOut$Sight" "ways" "[I" : Cond) ∈ wsG := wG 351 (by decide +kernel) (by decide +kernel)
theorem wd_352 : (Cond.fieldLink RX7 18 "EnginesOut$Sight" "once" "I" : Cond) ∈ wsG := wG 352 (by decide +kernel) (by decide +kernel)
theorem wd_353 : (Cond.fieldLink RX10 247 "EnginesOut$Sight" "once" "I" : Cond) ∈ wsG := wG 353 (by decide +kernel) (by decide +kernel)
theorem wd_354 : (Cond.fieldLink RX7 22 "EnginesOut$Sight" "twofold" "I" : Cond) ∈ wsG := wG 354 (by decide +kernel) (by decide +kernel)
theorem wd_355 : (Cond.laysFinal "EnginesOut$Sight" "EnginesOut$Sight" "nodesOf" "[I" : Cond) ∈ wsG := wG 355 (by decide +kernel) (by decide +kernel)
theorem wd_357 : (Cond.laysFinal "EnginesOut$Sight" "EnginesOut$Sight" "ways" "[I" : Cond) ∈ wsG := wG 357 (by decide +kernel) (by decide +kernel)
theorem wd_359 : (Cond.lays "EnginesOut$Sight" "EnginesOut$Sight" "once" "I" : Cond) ∈ wsG := wG 359 (by decide +kernel) (by decide +kernel)
theorem wd_361 : (Cond.lays "EnginesOut$Sight" "EnginesOut$Sight" "twofold" "I" : Cond) ∈ wsG := wG 361 (by decide +kernel) (by decide +kernel)
theorem wd_364 : (Cond.classLink RX10 40 "EnginesOut$Couple" : Cond) ∈ wsG := wG 364 (by decide +kernel) (by decide +kernel)
theorem wd_365 : (Cond.instantiable RX1 4 : Cond) ∈ wsG := wG 365 (by decide +kernel) (by decide +kernel)
theorem wd_366 : (Cond.methodLinkNest RX10 42 yX1_init "EnginesOut" : Cond) ∈ lw_tbl := List.mem_of_getElem? (i := 366) (by decide +kernel)
theorem wd_367 : (Cond.instanceMethod yX1_init : Cond) ∈ wsG := wG 367 (by decide +kernel) (by decide +kernel)
theorem wd_368 : (Cond.code yX1_init cX1_init 1 (none : Option Jvm.ClassFile.FieldType) : Cond) ∈ wsG := wG 368 (by decide +kernel) (by decide +kernel)
theorem wd_369 : (Cond.methodLink RX1 3 objectInit : Cond) ∈ wsG := wG 369 (by decide +kernel) (by decide +kernel)
theorem wd_370 : (Cond.fieldLink RX1 9 "EnginesOut$Couple" "toFirst" "I" : Cond) ∈ wsG := wG 370 (by decide +kernel) (by decide +kernel)
theorem wd_371 : (Cond.fieldLink RX10 200 "EnginesOut$Couple" "toFirst" "I" : Cond) ∈ wsG := wG 371 (by decide +kernel) (by decide +kernel)
theorem wd_372 : (Cond.fieldLink RX1 15 "EnginesOut$Couple" "toSecond" "I" : Cond) ∈ wsG := wG 372 (by decide +kernel) (by decide +kernel)
theorem wd_373 : (Cond.fieldLink RX10 203 "EnginesOut$Couple" "toSecond" "I" : Cond) ∈ wsG := wG 373 (by decide +kernel) (by decide +kernel)
theorem wd_374 : (Cond.fieldLink RX1 18 "EnginesOut$Couple" "longer" "I" : Cond) ∈ wsG := wG 374 (by decide +kernel) (by decide +kernel)
theorem wd_375 : (Cond.fieldLink RX10 206 "EnginesOut$Couple" "longer" "I" : Cond) ∈ wsG := wG 375 (by decide +kernel) (by decide +kernel)
theorem wd_376 : (Cond.fieldLink RX1 21 "EnginesOut$Couple" "together" "I" : Cond) ∈ wsG := wG 376 (by decide +kernel) (by decide +kernel)
theorem wd_377 : (Cond.fieldLink RX10 212 "EnginesOut$Couple" "together" "I" : Cond) ∈ wsG := wG 377 (by decide +kernel) (by decide +kernel)
theorem wd_378 : (Cond.lays "EnginesOut$Couple" "EnginesOut$Couple" "toFirst" "I" : Cond) ∈ wsG := wG 378 (by decide +kernel) (by decide +kernel)
theorem wd_380 : (Cond.lays "EnginesOut$Couple" "EnginesOut$Couple" "toSecond" "I" : Cond) ∈ wsG := wG 380 (by decide +kernel) (by decide +kernel)
theorem wd_382 : (Cond.lays "EnginesOut$Couple" "EnginesOut$Couple" "longer" "I" : Cond) ∈ wsG := wG 382 (by decide +kernel) (by decide +kernel)
theorem wd_384 : (Cond.lays "EnginesOut$Couple" "EnginesOut$Couple" "together" "I" : Cond) ∈ wsG := wG 384 (by decide +kernel) (by decide +kernel)
theorem wd_387 : (Cond.classLink RX10 47 "EnginesOut$Chances" : Cond) ∈ wsG := wG 387 (by decide +kernel) (by decide +kernel)
theorem wd_388 : (Cond.instantiable RX0 4 : Cond) ∈ wsG := wG 388 (by decide +kernel) (by decide +kernel)
theorem wd_389 : (Cond.methodLinkNest RX10 49 yX0_init "EnginesOut" : Cond) ∈ lw_tbl := List.mem_of_getElem? (i := 389) (by decide +kernel)
theorem wd_390 : (Cond.instanceMethod yX0_init : Cond) ∈ wsG := wG 390 (by decide +kernel) (by decide +kernel)
theorem wd_391 : (Cond.code yX0_init cX0_init 1 (none : Option Jvm.ClassFile.FieldType) : Cond) ∈ wsG := wG 391 (by decide +kernel) (by decide +kernel)
theorem wd_392 : (Cond.methodLink RX0 3 objectInit : Cond) ∈ wsG := wG 392 (by decide +kernel) (by decide +kernel)
theorem wd_393 : (Cond.fieldLink RX0 9 "EnginesOut$Chances" "best" "[I" : Cond) ∈ wsG := wG 393 (by decide +kernel) (by decide +kernel)
theorem wd_394 : (Cond.fieldLink RX10 327 "EnginesOut$Chances" "best" "[I" : Cond) ∈ wsG := wG 394 (by decide +kernel) (by decide +kernel)
theorem wd_395 : (Cond.fieldLink RX0 15 "EnginesOut$Chances" "tried" "[I" : Cond) ∈ wsG := wG 395 (by decide +kernel) (by decide +kernel)
theorem wd_396 : (Cond.fieldLink RX0 18 "EnginesOut$Chances" "byEngines" "[I" : Cond) ∈ wsG := wG 396 (by decide +kernel) (by decide +kernel)
theorem wd_397 : (Cond.fieldLink RX0 21 "EnginesOut$Chances" "hits" "[J" : Cond) ∈ wsG := wG 397 (by decide +kernel) (by decide +kernel)
theorem wd_398 : (Cond.laysFinal "EnginesOut$Chances" "EnginesOut$Chances" "best" "[I" : Cond) ∈ wsG := wG 398 (by decide +kernel) (by decide +kernel)
theorem wd_400 : (Cond.laysFinal "EnginesOut$Chances" "EnginesOut$Chances" "tried" "[I" : Cond) ∈ wsG := wG 400 (by decide +kernel) (by decide +kernel)
theorem wd_402 : (Cond.laysFinal "EnginesOut$Chances" "EnginesOut$Chances" "byEngines" "[I" : Cond) ∈ wsG := wG 402 (by decide +kernel) (by decide +kernel)
theorem wd_404 : (Cond.laysFinal "EnginesOut$Chances" "EnginesOut$Chances" "hits" "[J" : Cond) ∈ wsG := wG 404 (by decide +kernel) (by decide +kernel)
theorem wd_407 : (Cond.fieldLink RX10 10 "EnginesOut" "told" "LEnginesOut$Row;" : Cond) ∈ wsG := wG 407 (by decide +kernel) (by decide +kernel)
theorem wd_408 : (Cond.fieldLink RX10 19 "EnginesOut" "reader" "LEnginesOut$Reader;" : Cond) ∈ wsG := wG 408 (by decide +kernel) (by decide +kernel)
theorem wd_409 : (Cond.fieldLink RX10 26 "EnginesOut" "now" "LEnginesOut$World;" : Cond) ∈ wsG := wG 409 (by decide +kernel) (by decide +kernel)
theorem wd_410 : (Cond.fieldLink RX10 30 "EnginesOut" "kept" "LEnginesOut$World;" : Cond) ∈ wsG := wG 410 (by decide +kernel) (by decide +kernel)
theorem wd_411 : (Cond.fieldLink RX10 36 "EnginesOut" "sight" "LEnginesOut$Sight;" : Cond) ∈ wsG := wG 411 (by decide +kernel) (by decide +kernel)
theorem wd_412 : (Cond.fieldLink RX10 43 "EnginesOut" "couple" "LEnginesOut$Couple;" : Cond) ∈ wsG := wG 412 (by decide +kernel) (by decide +kernel)
theorem wd_413 : (Cond.fieldLink RX10 50 "EnginesOut" "chances" "LEnginesOut$Chances;" : Cond) ∈ wsG := wG 413 (by decide +kernel) (by decide +kernel)
theorem wd_414 : (Cond.fieldLink RX10 54 "EnginesOut" "planner" "LEnginesOut$Planner;" : Cond) ∈ wsG := wG 414 (by decide +kernel) (by decide +kernel)
theorem wd_415 : (Cond.fieldLink RX10 58 "EnginesOut" "isKept" "Z" : Cond) ∈ wsG := wG 415 (by decide +kernel) (by decide +kernel)
theorem wd_416 : (Cond.laysFinal "EnginesOut" "EnginesOut" "told" "LEnginesOut$Row;" : Cond) ∈ wsG := wG 416 (by decide +kernel) (by decide +kernel)
theorem wd_418 : (Cond.laysFinal "EnginesOut" "EnginesOut" "reader" "LEnginesOut$Reader;" : Cond) ∈ wsG := wG 418 (by decide +kernel) (by decide +kernel)
theorem wd_420 : (Cond.laysFinal "EnginesOut" "EnginesOut" "now" "LEnginesOut$World;" : Cond) ∈ wsG := wG 420 (by decide +kernel) (by decide +kernel)
theorem wd_422 : (Cond.laysFinal "EnginesOut" "EnginesOut" "kept" "LEnginesOut$World;" : Cond) ∈ wsG := wG 422 (by decide +kernel) (by decide +kernel)
theorem wd_424 : (Cond.laysFinal "EnginesOut" "EnginesOut" "sight" "LEnginesOut$Sight;" : Cond) ∈ wsG := wG 424 (by decide +kernel) (by decide +kernel)
theorem wd_426 : (Cond.laysFinal "EnginesOut" "EnginesOut" "couple" "LEnginesOut$Couple;" : Cond) ∈ wsG := wG 426 (by decide +kernel) (by decide +kernel)
theorem wd_428 : (Cond.laysFinal "EnginesOut" "EnginesOut" "chances" "LEnginesOut$Chances;" : Cond) ∈ wsG := wG 428 (by decide +kernel) (by decide +kernel)
theorem wd_430 : (Cond.lays "EnginesOut" "EnginesOut" "planner" "LEnginesOut$Planner;" : Cond) ∈ wsG := wG 430 (by decide +kernel) (by decide +kernel)
theorem wd_432 : (Cond.lays "EnginesOut" "EnginesOut" "isKept" "Z" : Cond) ∈ wsG := wG 432 (by decide +kernel) (by decide +kernel)
theorem wd_435 : (Cond.methodLink RL 19 yX10_sign : Cond) ∈ wsG := wG 435 (by decide +kernel) (by decide +kernel)
theorem wd_436 : (Cond.instanceMethod yX10_sign : Cond) ∈ wsG := wG 436 (by decide +kernel) (by decide +kernel)
theorem wd_437 : (Cond.selects RX10 yX10_sign yX10_sign : Cond) ∈ wsG := wG 437 (by decide +kernel) (by decide +kernel)
theorem wd_438 : (Cond.code yX10_sign cX10_sign 2 (some .int) : Cond) ∈ wsG := wG 438 (by decide +kernel) (by decide +kernel)
theorem wd_439 : (Cond.methodLink RX10 66 yX8_append : Cond) ∈ wsG := wG 439 (by decide +kernel) (by decide +kernel)
theorem wd_440 : (Cond.instanceMethod yX8_append : Cond) ∈ wsG := wG 440 (by decide +kernel) (by decide +kernel)
theorem wd_441 : (Cond.selects RX8 yX8_append yX8_append : Cond) ∈ wsG := wG 441 (by decide +kernel) (by decide +kernel)
theorem wd_442 : (Cond.code yX8_append cX8_append 3 (some .int) : Cond) ∈ wsG := wG 442 (by decide +kernel) (by decide +kernel)
theorem wd_443 : (Cond.methodLink RL 24 yX10_end : Cond) ∈ wsG := wG 443 (by decide +kernel) (by decide +kernel)
theorem wd_444 : (Cond.instanceMethod yX10_end : Cond) ∈ wsG := wG 444 (by decide +kernel) (by decide +kernel)
theorem wd_445 : (Cond.selects RX10 yX10_end yX10_end : Cond) ∈ wsG := wG 445 (by decide +kernel) (by decide +kernel)
theorem wd_446 : (Cond.code yX10_end cX10_end 2 (some .boolean) : Cond) ∈ wsG := wG 446 (by decide +kernel) (by decide +kernel)
theorem wd_447 : (Cond.methodLink RX10 72 yX8_cutTo : Cond) ∈ wsG := wG 447 (by decide +kernel) (by decide +kernel)
theorem wd_448 : (Cond.instanceMethod yX8_cutTo : Cond) ∈ wsG := wG 448 (by decide +kernel) (by decide +kernel)
theorem wd_449 : (Cond.selects RX8 yX8_cutTo yX8_cutTo : Cond) ∈ wsG := wG 449 (by decide +kernel) (by decide +kernel)
theorem wd_450 : (Cond.code yX8_cutTo cX8_cutTo 2 (some .boolean) : Cond) ∈ wsG := wG 450 (by decide +kernel) (by decide +kernel)
theorem wd_451 : (Cond.methodLink RL 29 yX10_land : Cond) ∈ wsG := wG 451 (by decide +kernel) (by decide +kernel)
theorem wd_452 : (Cond.instanceMethod yX10_land : Cond) ∈ wsG := wG 452 (by decide +kernel) (by decide +kernel)
theorem wd_453 : (Cond.selects RX10 yX10_land yX10_land : Cond) ∈ wsG := wG 453 (by decide +kernel) (by decide +kernel)
theorem wd_454 : (Cond.code yX10_land cX10_land 2 (some .int) : Cond) ∈ wsG := wG 454 (by decide +kernel) (by decide +kernel)
theorem wd_455 : (Cond.methodLink RX10 76 yX5_read : Cond) ∈ wsG := wG 455 (by decide +kernel) (by decide +kernel)
theorem wd_456 : (Cond.instanceMethod yX5_read : Cond) ∈ wsG := wG 456 (by decide +kernel) (by decide +kernel)
theorem wd_457 : (Cond.selects RX5 yX5_read yX5_read : Cond) ∈ wsG := wG 457 (by decide +kernel) (by decide +kernel)
theorem wd_458 : (Cond.code yX5_read cX5_read 3 (some .int) : Cond) ∈ wsG := wG 458 (by decide +kernel) (by decide +kernel)
theorem wd_459 : (Cond.methodLink RX5 42 yX3_empty : Cond) ∈ wsG := wG 459 (by decide +kernel) (by decide +kernel)
theorem wd_460 : (Cond.instanceMethod yX3_empty : Cond) ∈ wsG := wG 460 (by decide +kernel) (by decide +kernel)
theorem wd_461 : (Cond.selects RX3 yX3_empty yX3_empty : Cond) ∈ wsG := wG 461 (by decide +kernel) (by decide +kernel)
theorem wd_462 : (Cond.code yX3_empty cX3_empty 1 (none : Option Jvm.ClassFile.FieldType) : Cond) ∈ wsG := wG 462 (by decide +kernel) (by decide +kernel)
theorem wd_463 : (Cond.methodLink RX5 48 yX5_readLine : Cond) ∈ wsG := wG 463 (by decide +kernel) (by decide +kernel)
theorem wd_465 : (Cond.instanceMethod yX5_readLine : Cond) ∈ wsG := wG 465 (by decide +kernel) (by decide +kernel)
theorem wd_466 : (Cond.code yX5_readLine cX5_readLine 1 (none : Option Jvm.ClassFile.FieldType) : Cond) ∈ wsG := wG 466 (by decide +kernel) (by decide +kernel)
theorem wd_467 : (Cond.methodLink RX5 62 yX8_signAt : Cond) ∈ wsG := wG 467 (by decide +kernel) (by decide +kernel)
theorem wd_468 : (Cond.instanceMethod yX8_signAt : Cond) ∈ wsG := wG 468 (by decide +kernel) (by decide +kernel)
theorem wd_469 : (Cond.selects RX8 yX8_signAt yX8_signAt : Cond) ∈ wsG := wG 469 (by decide +kernel) (by decide +kernel)
theorem wd_470 : (Cond.code yX8_signAt cX8_signAt 2 (some .int) : Cond) ∈ wsG := wG 470 (by decide +kernel) (by decide +kernel)
theorem wd_471 : (Cond.methodLink RX5 66 yX5_readRoad : Cond) ∈ wsG := wG 471 (by decide +kernel) (by decide +kernel)
theorem wd_473 : (Cond.instanceMethod yX5_readRoad : Cond) ∈ wsG := wG 473 (by decide +kernel) (by decide +kernel)
theorem wd_474 : (Cond.code yX5_readRoad cX5_readRoad 4 (none : Option Jvm.ClassFile.FieldType) : Cond) ∈ wsG := wG 474 (by decide +kernel) (by decide +kernel)
theorem wd_475 : (Cond.methodLink RX5 81 yX5_takeNumber : Cond) ∈ wsG := wG 475 (by decide +kernel) (by decide +kernel)
theorem wd_477 : (Cond.instanceMethod yX5_takeNumber : Cond) ∈ wsG := wG 477 (by decide +kernel) (by decide +kernel)
theorem wd_478 : (Cond.code yX5_takeNumber cX5_takeNumber 4 (some .int) : Cond) ∈ wsG := wG 478 (by decide +kernel) (by decide +kernel)
theorem wd_479 : (Cond.methodLink RX5 112 yX5_isDigitNext : Cond) ∈ wsG := wG 479 (by decide +kernel) (by decide +kernel)
theorem wd_481 : (Cond.instanceMethod yX5_isDigitNext : Cond) ∈ wsG := wG 481 (by decide +kernel) (by decide +kernel)
theorem wd_482 : (Cond.code yX5_isDigitNext cX5_isDigitNext 2 (some .boolean) : Cond) ∈ wsG := wG 482 (by decide +kernel) (by decide +kernel)
theorem wd_483 : (Cond.methodLink RX5 78 yX5_refuse : Cond) ∈ wsG := wG 483 (by decide +kernel) (by decide +kernel)
theorem wd_485 : (Cond.instanceMethod yX5_refuse : Cond) ∈ wsG := wG 485 (by decide +kernel) (by decide +kernel)
theorem wd_486 : (Cond.code yX5_refuse cX5_refuse 2 (none : Option Jvm.ClassFile.FieldType) : Cond) ∈ wsG := wG 486 (by decide +kernel) (by decide +kernel)
theorem wd_487 : (Cond.methodLink RX5 51 yX5_take : Cond) ∈ wsG := wG 487 (by decide +kernel) (by decide +kernel)
theorem wd_489 : (Cond.instanceMethod yX5_take : Cond) ∈ wsG := wG 489 (by decide +kernel) (by decide +kernel)
theorem wd_490 : (Cond.code yX5_take cX5_take 2 (none : Option Jvm.ClassFile.FieldType) : Cond) ∈ wsG := wG 490 (by decide +kernel) (by decide +kernel)
theorem wd_491 : (Cond.methodLink RX5 85 yX3_roadOf : Cond) ∈ wsG := wG 491 (by decide +kernel) (by decide +kernel)
theorem wd_492 : (Cond.instanceMethod yX3_roadOf : Cond) ∈ wsG := wG 492 (by decide +kernel) (by decide +kernel)
theorem wd_493 : (Cond.selects RX3 yX3_roadOf yX3_roadOf : Cond) ∈ wsG := wG 493 (by decide +kernel) (by decide +kernel)
theorem wd_494 : (Cond.code yX3_roadOf cX3_roadOf 6 (some .int) : Cond) ∈ wsG := wG 494 (by decide +kernel) (by decide +kernel)
theorem wd_495 : (Cond.methodLink RX3 53 Lib.Math.min.name : Cond) ∈ wsG := wG 495 (by decide +kernel) (by decide +kernel)
theorem wd_496 : (Cond.static Lib.Math.min.name : Cond) ∈ wsG := wG 496 (by decide +kernel) (by decide +kernel)
theorem wd_497 : (Cond.code Lib.Math.min.name prog_18_method_69_code 2 (some .int) : Cond) ∈ wsG := wG 497 (by decide +kernel) (by decide +kernel)
theorem wd_498 : (Cond.methodLink RX3 59 Lib.Math.max.name : Cond) ∈ wsG := wG 498 (by decide +kernel) (by decide +kernel)
theorem wd_499 : (Cond.static Lib.Math.max.name : Cond) ∈ wsG := wG 499 (by decide +kernel) (by decide +kernel)
theorem wd_500 : (Cond.code Lib.Math.max.name prog_18_method_65_code 2 (some .int) : Cond) ∈ wsG := wG 500 (by decide +kernel) (by decide +kernel)
theorem wd_501 : (Cond.methodLink RX5 88 yX3_addRoad : Cond) ∈ wsG := wG 501 (by decide +kernel) (by decide +kernel)
theorem wd_502 : (Cond.instanceMethod yX3_addRoad : Cond) ∈ wsG := wG 502 (by decide +kernel) (by decide +kernel)
theorem wd_503 : (Cond.selects RX3 yX3_addRoad yX3_addRoad : Cond) ∈ wsG := wG 503 (by decide +kernel) (by decide +kernel)
theorem wd_504 : (Cond.code yX3_addRoad cX3_addRoad 4 (none : Option Jvm.ClassFile.FieldType) : Cond) ∈ wsG := wG 504 (by decide +kernel) (by decide +kernel)
theorem wd_505 : (Cond.methodLink RX5 69 yX5_readWeight : Cond) ∈ wsG := wG 505 (by decide +kernel) (by decide +kernel)
theorem wd_507 : (Cond.instanceMethod yX5_readWeight : Cond) ∈ wsG := wG 507 (by decide +kernel) (by decide +kernel)
theorem wd_508 : (Cond.code yX5_readWeight cX5_readWeight 3 (none : Option Jvm.ClassFile.FieldType) : Cond) ∈ wsG := wG 508 (by decide +kernel) (by decide +kernel)
theorem wd_509 : (Cond.methodLinkNest RX5 92 yX10_isNode "EnginesOut" : Cond) ∈ lw_tbl := List.mem_of_getElem? (i := 509) (by decide +kernel)
theorem wd_510 : (Cond.static yX10_isNode : Cond) ∈ wsG := wG 510 (by decide +kernel) (by decide +kernel)
theorem wd_511 : (Cond.code yX10_isNode cX10_isNode 1 (some .boolean) : Cond) ∈ wsG := wG 511 (by decide +kernel) (by decide +kernel)
theorem wd_512 : (Cond.methodLink RX5 72 yX5_readStations : Cond) ∈ wsG := wG 512 (by decide +kernel) (by decide +kernel)
theorem wd_514 : (Cond.instanceMethod yX5_readStations : Cond) ∈ wsG := wG 514 (by decide +kernel) (by decide +kernel)
theorem wd_515 : (Cond.code yX5_readStations cX5_readStations 4 (none : Option Jvm.ClassFile.FieldType) : Cond) ∈ wsG := wG 515 (by decide +kernel) (by decide +kernel)
theorem wd_516 : (Cond.methodLink RX5 102 yX3_isStationAt : Cond) ∈ wsG := wG 516 (by decide +kernel) (by decide +kernel)
theorem wd_517 : (Cond.instanceMethod yX3_isStationAt : Cond) ∈ wsG := wG 517 (by decide +kernel) (by decide +kernel)
theorem wd_518 : (Cond.selects RX3 yX3_isStationAt yX3_isStationAt : Cond) ∈ wsG := wG 518 (by decide +kernel) (by decide +kernel)
theorem wd_519 : (Cond.code yX3_isStationAt cX3_isStationAt 3 (some .boolean) : Cond) ∈ wsG := wG 519 (by decide +kernel) (by decide +kernel)
theorem wd_520 : (Cond.methodLink RX5 108 yX5_isCommaNext : Cond) ∈ wsG := wG 520 (by decide +kernel) (by decide +kernel)
theorem wd_522 : (Cond.instanceMethod yX5_isCommaNext : Cond) ∈ wsG := wG 522 (by decide +kernel) (by decide +kernel)
theorem wd_523 : (Cond.code yX5_isCommaNext cX5_isCommaNext 1 (some .boolean) : Cond) ∈ wsG := wG 523 (by decide +kernel) (by decide +kernel)
theorem wd_524 : (Cond.methodLink RX5 75 yX5_readEngines : Cond) ∈ wsG := wG 524 (by decide +kernel) (by decide +kernel)
theorem wd_526 : (Cond.instanceMethod yX5_readEngines : Cond) ∈ wsG := wG 526 (by decide +kernel) (by decide +kernel)
theorem wd_527 : (Cond.code yX5_readEngines cX5_readEngines 4 (none : Option Jvm.ClassFile.FieldType) : Cond) ∈ wsG := wG 527 (by decide +kernel) (by decide +kernel)
theorem wd_528 : (Cond.methodLink RX5 58 yX3_measure : Cond) ∈ wsG := wG 528 (by decide +kernel) (by decide +kernel)
theorem wd_529 : (Cond.instanceMethod yX3_measure : Cond) ∈ wsG := wG 529 (by decide +kernel) (by decide +kernel)
theorem wd_530 : (Cond.selects RX3 yX3_measure yX3_measure : Cond) ∈ wsG := wG 530 (by decide +kernel) (by decide +kernel)
theorem wd_531 : (Cond.code yX3_measure cX3_measure 4 (none : Option Jvm.ClassFile.FieldType) : Cond) ∈ wsG := wG 531 (by decide +kernel) (by decide +kernel)
theorem wd_532 : (Cond.methodLink RX3 62 yX3_shorten : Cond) ∈ wsG := wG 532 (by decide +kernel) (by decide +kernel)
theorem wd_533 : (Cond.static yX3_shorten : Cond) ∈ wsG := wG 533 (by decide +kernel) (by decide +kernel)
theorem wd_534 : (Cond.code yX3_shorten cX3_shorten 6 (none : Option Jvm.ClassFile.FieldType) : Cond) ∈ wsG := wG 534 (by decide +kernel) (by decide +kernel)
theorem wd_535 : (Cond.methodLink RX10 87 yX3_takeOver : Cond) ∈ wsG := wG 535 (by decide +kernel) (by decide +kernel)
theorem wd_536 : (Cond.instanceMethod yX3_takeOver : Cond) ∈ wsG := wG 536 (by decide +kernel) (by decide +kernel)
theorem wd_537 : (Cond.selects RX3 yX3_takeOver yX3_takeOver : Cond) ∈ wsG := wG 537 (by decide +kernel) (by decide +kernel)
theorem wd_538 : (Cond.code yX3_takeOver cX3_takeOver 3 (none : Option Jvm.ClassFile.FieldType) : Cond) ∈ wsG := wG 538 (by decide +kernel) (by decide +kernel)
theorem wd_539 : (Cond.methodLink RX3 47 arraycopyName : Cond) ∈ wsG := wG 539 (by decide +kernel) (by decide +kernel)
theorem wd_540 : (Cond.static arraycopyName : Cond) ∈ wsG := wG 540 (by decide +kernel) (by decide +kernel)
theorem wd_541 : (Cond.native arraycopyName : Cond) ∈ wsG := wG 541 (by decide +kernel) (by decide +kernel)
theorem wd_542 : (Cond.methodLink RX10 105 yX2_begin : Cond) ∈ wsG := wG 542 (by decide +kernel) (by decide +kernel)
theorem wd_543 : (Cond.instanceMethod yX2_begin : Cond) ∈ wsG := wG 543 (by decide +kernel) (by decide +kernel)
theorem wd_544 : (Cond.selects RX2 yX2_begin yX2_begin : Cond) ∈ wsG := wG 544 (by decide +kernel) (by decide +kernel)
theorem wd_545 : (Cond.code yX2_begin cX2_begin 4 (none : Option Jvm.ClassFile.FieldType) : Cond) ∈ wsG := wG 545 (by decide +kernel) (by decide +kernel)
theorem wd_546 : (Cond.methodLink RX2 49 Lib.Math.min.name : Cond) ∈ wsG := wG 546 (by decide +kernel) (by decide +kernel)
theorem wd_547 : (Cond.methodLink RX2 55 Lib.Math.max.name : Cond) ∈ wsG := wG 547 (by decide +kernel) (by decide +kernel)
theorem wd_548 : (Cond.methodLink RL 34 yX10_reach : Cond) ∈ wsG := wG 548 (by decide +kernel) (by decide +kernel)
theorem wd_549 : (Cond.instanceMethod yX10_reach : Cond) ∈ wsG := wG 549 (by decide +kernel) (by decide +kernel)
theorem wd_550 : (Cond.selects RX10 yX10_reach yX10_reach : Cond) ∈ wsG := wG 550 (by decide +kernel) (by decide +kernel)
theorem wd_551 : (Cond.code yX10_reach cX10_reach 3 (some .int) : Cond) ∈ wsG := wG 551 (by decide +kernel) (by decide +kernel)
theorem wd_552 : (Cond.methodLink RL 38 yX10_service : Cond) ∈ wsG := wG 552 (by decide +kernel) (by decide +kernel)
theorem wd_553 : (Cond.instanceMethod yX10_service : Cond) ∈ wsG := wG 553 (by decide +kernel) (by decide +kernel)
theorem wd_554 : (Cond.selects RX10 yX10_service yX10_service : Cond) ∈ wsG := wG 554 (by decide +kernel) (by decide +kernel)
theorem wd_555 : (Cond.code yX10_service cX10_service 3 (some .int) : Cond) ∈ wsG := wG 555 (by decide +kernel) (by decide +kernel)
theorem wd_556 : (Cond.methodLink RL 42 yX10_limit : Cond) ∈ wsG := wG 556 (by decide +kernel) (by decide +kernel)
theorem wd_557 : (Cond.instanceMethod yX10_limit : Cond) ∈ wsG := wG 557 (by decide +kernel) (by decide +kernel)
theorem wd_558 : (Cond.selects RX10 yX10_limit yX10_limit : Cond) ∈ wsG := wG 558 (by decide +kernel) (by decide +kernel)
theorem wd_559 : (Cond.code yX10_limit cX10_limit 3 (some .int) : Cond) ∈ wsG := wG 559 (by decide +kernel) (by decide +kernel)
theorem wd_560 : (Cond.methodLink RL 46 yX10_shuts : Cond) ∈ wsG := wG 560 (by decide +kernel) (by decide +kernel)
theorem wd_561 : (Cond.instanceMethod yX10_shuts : Cond) ∈ wsG := wG 561 (by decide +kernel) (by decide +kernel)
theorem wd_562 : (Cond.selects RX10 yX10_shuts yX10_shuts : Cond) ∈ wsG := wG 562 (by decide +kernel) (by decide +kernel)
theorem wd_563 : (Cond.code yX10_shuts cX10_shuts 5 (some .int) : Cond) ∈ wsG := wG 563 (by decide +kernel) (by decide +kernel)
theorem wd_564 : (Cond.methodLink RX10 120 yX10_isNode : Cond) ∈ wsG := wG 564 (by decide +kernel) (by decide +kernel)
theorem wd_565 : (Cond.methodLink RX10 123 yX3_roadOf : Cond) ∈ wsG := wG 565 (by decide +kernel) (by decide +kernel)
theorem wd_566 : (Cond.methodLink RX10 134 yX3_measure : Cond) ∈ wsG := wG 566 (by decide +kernel) (by decide +kernel)
theorem wd_567 : (Cond.methodLink RX10 137 yX3_shutRoads : Cond) ∈ wsG := wG 567 (by decide +kernel) (by decide +kernel)
theorem wd_568 : (Cond.instanceMethod yX3_shutRoads : Cond) ∈ wsG := wG 568 (by decide +kernel) (by decide +kernel)
theorem wd_569 : (Cond.selects RX3 yX3_shutRoads yX3_shutRoads : Cond) ∈ wsG := wG 569 (by decide +kernel) (by decide +kernel)
theorem wd_570 : (Cond.code yX3_shutRoads cX3_shutRoads 3 (some .int) : Cond) ∈ wsG := wG 570 (by decide +kernel) (by decide +kernel)
theorem wd_571 : (Cond.methodLink RL 51 yX10_far : Cond) ∈ wsG := wG 571 (by decide +kernel) (by decide +kernel)
theorem wd_572 : (Cond.instanceMethod yX10_far : Cond) ∈ wsG := wG 572 (by decide +kernel) (by decide +kernel)
theorem wd_573 : (Cond.selects RX10 yX10_far yX10_far : Cond) ∈ wsG := wG 573 (by decide +kernel) (by decide +kernel)
theorem wd_574 : (Cond.code yX10_far cX10_far 3 (some .int) : Cond) ∈ wsG := wG 574 (by decide +kernel) (by decide +kernel)
theorem wd_575 : (Cond.methodLink RX10 140 yX3_wayOf : Cond) ∈ wsG := wG 575 (by decide +kernel) (by decide +kernel)
theorem wd_576 : (Cond.instanceMethod yX3_wayOf : Cond) ∈ wsG := wG 576 (by decide +kernel) (by decide +kernel)
theorem wd_577 : (Cond.selects RX3 yX3_wayOf yX3_wayOf : Cond) ∈ wsG := wG 577 (by decide +kernel) (by decide +kernel)
theorem wd_578 : (Cond.code yX3_wayOf cX3_wayOf 3 (some .int) : Cond) ∈ wsG := wG 578 (by decide +kernel) (by decide +kernel)
theorem wd_579 : (Cond.methodLinkNest RX3 65 yX10_isNode "EnginesOut" : Cond) ∈ lw_tbl := List.mem_of_getElem? (i := 579) (by decide +kernel)
theorem wd_580 : (Cond.methodLink RL 56 yX10_reached : Cond) ∈ wsG := wG 580 (by decide +kernel) (by decide +kernel)
theorem wd_581 : (Cond.instanceMethod yX10_reached : Cond) ∈ wsG := wG 581 (by decide +kernel) (by decide +kernel)
theorem wd_582 : (Cond.selects RX10 yX10_reached yX10_reached : Cond) ∈ wsG := wG 582 (by decide +kernel) (by decide +kernel)
theorem wd_583 : (Cond.code yX10_reached cX10_reached 3 (some .int) : Cond) ∈ wsG := wG 583 (by decide +kernel) (by decide +kernel)
theorem wd_584 : (Cond.methodLink RX10 143 yX10_isStation : Cond) ∈ wsG := wG 584 (by decide +kernel) (by decide +kernel)
theorem wd_586 : (Cond.instanceMethod yX10_isStation : Cond) ∈ wsG := wG 586 (by decide +kernel) (by decide +kernel)
theorem wd_587 : (Cond.code yX10_isStation cX10_isStation 2 (some .boolean) : Cond) ∈ wsG := wG 587 (by decide +kernel) (by decide +kernel)
theorem wd_588 : (Cond.methodLink RX10 146 yX10_look : Cond) ∈ wsG := wG 588 (by decide +kernel) (by decide +kernel)
theorem wd_590 : (Cond.instanceMethod yX10_look : Cond) ∈ wsG := wG 590 (by decide +kernel) (by decide +kernel)
theorem wd_591 : (Cond.code yX10_look cX10_look 1 (none : Option Jvm.ClassFile.FieldType) : Cond) ∈ wsG := wG 591 (by decide +kernel) (by decide +kernel)
theorem wd_592 : (Cond.methodLink RX10 287 yX7_look : Cond) ∈ wsG := wG 592 (by decide +kernel) (by decide +kernel)
theorem wd_593 : (Cond.instanceMethod yX7_look : Cond) ∈ wsG := wG 593 (by decide +kernel) (by decide +kernel)
theorem wd_594 : (Cond.selects RX7 yX7_look yX7_look : Cond) ∈ wsG := wG 594 (by decide +kernel) (by decide +kernel)
theorem wd_595 : (Cond.code yX7_look cX7_look 7 (none : Option Jvm.ClassFile.FieldType) : Cond) ∈ wsG := wG 595 (by decide +kernel) (by decide +kernel)
theorem wd_596 : (Cond.methodLink RX7 25 yX3_placeOf : Cond) ∈ wsG := wG 596 (by decide +kernel) (by decide +kernel)
theorem wd_597 : (Cond.instanceMethod yX3_placeOf : Cond) ∈ wsG := wG 597 (by decide +kernel) (by decide +kernel)
theorem wd_598 : (Cond.selects RX3 yX3_placeOf yX3_placeOf : Cond) ∈ wsG := wG 598 (by decide +kernel) (by decide +kernel)
theorem wd_599 : (Cond.code yX3_placeOf cX3_placeOf 2 (some .int) : Cond) ∈ wsG := wG 599 (by decide +kernel) (by decide +kernel)
theorem wd_600 : (Cond.methodLink RX10 152 yX3_weigh : Cond) ∈ wsG := wG 600 (by decide +kernel) (by decide +kernel)
theorem wd_601 : (Cond.instanceMethod yX3_weigh : Cond) ∈ wsG := wG 601 (by decide +kernel) (by decide +kernel)
theorem wd_602 : (Cond.selects RX3 yX3_weigh yX3_weigh : Cond) ∈ wsG := wG 602 (by decide +kernel) (by decide +kernel)
theorem wd_603 : (Cond.code yX3_weigh cX3_weigh 4 (some .int) : Cond) ∈ wsG := wG 603 (by decide +kernel) (by decide +kernel)
theorem wd_604 : (Cond.methodLink RX10 155 yX6_tell : Cond) ∈ wsG := wG 604 (by decide +kernel) (by decide +kernel)
theorem wd_605 : (Cond.instanceMethod yX6_tell : Cond) ∈ wsG := wG 605 (by decide +kernel) (by decide +kernel)
theorem wd_606 : (Cond.selects RX6 yX6_tell yX6_tell : Cond) ∈ wsG := wG 606 (by decide +kernel) (by decide +kernel)
theorem wd_607 : (Cond.code yX6_tell cX6_tell 3 (none : Option Jvm.ClassFile.FieldType) : Cond) ∈ wsG := wG 607 (by decide +kernel) (by decide +kernel)
theorem wd_608 : (Cond.methodLink RX6 19 yX6_clear : Cond) ∈ wsG := wG 608 (by decide +kernel) (by decide +kernel)
theorem wd_609 : (Cond.instanceMethod yX6_clear : Cond) ∈ wsG := wG 609 (by decide +kernel) (by decide +kernel)
theorem wd_610 : (Cond.selects RX6 yX6_clear yX6_clear : Cond) ∈ wsG := wG 610 (by decide +kernel) (by decide +kernel)
theorem wd_611 : (Cond.code yX6_clear cX6_clear 1 (none : Option Jvm.ClassFile.FieldType) : Cond) ∈ wsG := wG 611 (by decide +kernel) (by decide +kernel)
theorem wd_612 : (Cond.methodLink RX6 22 yX6_add : Cond) ∈ wsG := wG 612 (by decide +kernel) (by decide +kernel)
theorem wd_613 : (Cond.instanceMethod yX6_add : Cond) ∈ wsG := wG 613 (by decide +kernel) (by decide +kernel)
theorem wd_614 : (Cond.selects RX6 yX6_add yX6_add : Cond) ∈ wsG := wG 614 (by decide +kernel) (by decide +kernel)
theorem wd_615 : (Cond.code yX6_add cX6_add 3 (none : Option Jvm.ClassFile.FieldType) : Cond) ∈ wsG := wG 615 (by decide +kernel) (by decide +kernel)
theorem wd_616 : (Cond.methodLink RL 60 yX10_node : Cond) ∈ wsG := wG 616 (by decide +kernel) (by decide +kernel)
theorem wd_617 : (Cond.instanceMethod yX10_node : Cond) ∈ wsG := wG 617 (by decide +kernel) (by decide +kernel)
theorem wd_618 : (Cond.selects RX10 yX10_node yX10_node : Cond) ∈ wsG := wG 618 (by decide +kernel) (by decide +kernel)
theorem wd_619 : (Cond.code yX10_node cX10_node 3 (some .int) : Cond) ∈ wsG := wG 619 (by decide +kernel) (by decide +kernel)
theorem wd_620 : (Cond.methodLink RX10 162 yX10_readyThatReach : Cond) ∈ wsG := wG 620 (by decide +kernel) (by decide +kernel)
theorem wd_622 : (Cond.instanceMethod yX10_readyThatReach : Cond) ∈ wsG := wG 622 (by decide +kernel) (by decide +kernel)
theorem wd_623 : (Cond.code yX10_readyThatReach cX10_readyThatReach 4 (some .int) : Cond) ∈ wsG := wG 623 (by decide +kernel) (by decide +kernel)
theorem wd_624 : (Cond.methodLink RX10 391 yX9_readyWay : Cond) ∈ wsG := wG 624 (by decide +kernel) (by decide +kernel)
theorem wd_625 : (Cond.instanceMethod yX9_readyWay : Cond) ∈ wsG := wG 625 (by decide +kernel) (by decide +kernel)
theorem wd_626 : (Cond.selects RX9 yX9_readyWay yX9_readyWay : Cond) ∈ wsG := wG 626 (by decide +kernel) (by decide +kernel)
theorem wd_627 : (Cond.code yX9_readyWay cX9_readyWay 3 (some .int) : Cond) ∈ wsG := wG 627 (by decide +kernel) (by decide +kernel)
theorem wd_628 : (Cond.methodLink RX9 66 yX3_placeOf : Cond) ∈ wsG := wG 628 (by decide +kernel) (by decide +kernel)
theorem wd_629 : (Cond.methodLink RX9 70 yX3_wayOf : Cond) ∈ wsG := wG 629 (by decide +kernel) (by decide +kernel)
theorem wd_630 : (Cond.methodLink RX10 165 yX3_nearestStation : Cond) ∈ wsG := wG 630 (by decide +kernel) (by decide +kernel)
theorem wd_631 : (Cond.instanceMethod yX3_nearestStation : Cond) ∈ wsG := wG 631 (by decide +kernel) (by decide +kernel)
theorem wd_632 : (Cond.selects RX3 yX3_nearestStation yX3_nearestStation : Cond) ∈ wsG := wG 632 (by decide +kernel) (by decide +kernel)
theorem wd_633 : (Cond.code yX3_nearestStation cX3_nearestStation 6 (some .int) : Cond) ∈ wsG := wG 633 (by decide +kernel) (by decide +kernel)
theorem wd_634 : (Cond.methodLink RX3 73 yX3_wayOf : Cond) ∈ wsG := wG 634 (by decide +kernel) (by decide +kernel)
theorem wd_635 : (Cond.methodLink RX10 168 yX9_whoGoes : Cond) ∈ wsG := wG 635 (by decide +kernel) (by decide +kernel)
theorem wd_636 : (Cond.instanceMethod yX9_whoGoes : Cond) ∈ wsG := wG 636 (by decide +kernel) (by decide +kernel)
theorem wd_637 : (Cond.selects RX9 yX9_whoGoes yX9_whoGoes : Cond) ∈ wsG := wG 637 (by decide +kernel) (by decide +kernel)
theorem wd_638 : (Cond.code yX9_whoGoes cX9_whoGoes 6 (some .int) : Cond) ∈ wsG := wG 638 (by decide +kernel) (by decide +kernel)
theorem wd_639 : (Cond.methodLink RX9 73 yX9_readyWay : Cond) ∈ wsG := wG 639 (by decide +kernel) (by decide +kernel)
theorem wd_640 : (Cond.methodLink RL 64 yX10_engine : Cond) ∈ wsG := wG 640 (by decide +kernel) (by decide +kernel)
theorem wd_641 : (Cond.instanceMethod yX10_engine : Cond) ∈ wsG := wG 641 (by decide +kernel) (by decide +kernel)
theorem wd_642 : (Cond.selects RX10 yX10_engine yX10_engine : Cond) ∈ wsG := wG 642 (by decide +kernel) (by decide +kernel)
theorem wd_643 : (Cond.code yX10_engine cX10_engine 3 (some .int) : Cond) ∈ wsG := wG 643 (by decide +kernel) (by decide +kernel)
theorem wd_644 : (Cond.methodLink RX10 171 yX10_isEngine : Cond) ∈ wsG := wG 644 (by decide +kernel) (by decide +kernel)
theorem wd_646 : (Cond.instanceMethod yX10_isEngine : Cond) ∈ wsG := wG 646 (by decide +kernel) (by decide +kernel)
theorem wd_647 : (Cond.code yX10_isEngine cX10_isEngine 2 (some .boolean) : Cond) ∈ wsG := wG 647 (by decide +kernel) (by decide +kernel)
theorem wd_648 : (Cond.methodLink RX10 178 yX2_waitOf : Cond) ∈ wsG := wG 648 (by decide +kernel) (by decide +kernel)
theorem wd_649 : (Cond.instanceMethod yX2_waitOf : Cond) ∈ wsG := wG 649 (by decide +kernel) (by decide +kernel)
theorem wd_650 : (Cond.selects RX2 yX2_waitOf yX2_waitOf : Cond) ∈ wsG := wG 650 (by decide +kernel) (by decide +kernel)
theorem wd_651 : (Cond.code yX2_waitOf cX2_waitOf 2 (some .int) : Cond) ∈ wsG := wG 651 (by decide +kernel) (by decide +kernel)
theorem wd_652 : (Cond.methodLink RL 68 yX10_station : Cond) ∈ wsG := wG 652 (by decide +kernel) (by decide +kernel)
theorem wd_653 : (Cond.instanceMethod yX10_station : Cond) ∈ wsG := wG 653 (by decide +kernel) (by decide +kernel)
theorem wd_654 : (Cond.selects RX10 yX10_station yX10_station : Cond) ∈ wsG := wG 654 (by decide +kernel) (by decide +kernel)
theorem wd_655 : (Cond.code yX10_station cX10_station 2 (some .int) : Cond) ∈ wsG := wG 655 (by decide +kernel) (by decide +kernel)
theorem wd_656 : (Cond.methodLink RX10 181 yX3_placeOf : Cond) ∈ wsG := wG 656 (by decide +kernel) (by decide +kernel)
theorem wd_657 : (Cond.methodLink RL 72 yX10_call : Cond) ∈ wsG := wG 657 (by decide +kernel) (by decide +kernel)
theorem wd_658 : (Cond.instanceMethod yX10_call : Cond) ∈ wsG := wG 658 (by decide +kernel) (by decide +kernel)
theorem wd_659 : (Cond.selects RX10 yX10_call yX10_call : Cond) ∈ wsG := wG 659 (by decide +kernel) (by decide +kernel)
theorem wd_660 : (Cond.code yX10_call cX10_call 5 (some .int) : Cond) ∈ wsG := wG 660 (by decide +kernel) (by decide +kernel)
theorem wd_661 : (Cond.methodLink RX10 190 yX9_send : Cond) ∈ wsG := wG 661 (by decide +kernel) (by decide +kernel)
theorem wd_662 : (Cond.instanceMethod yX9_send : Cond) ∈ wsG := wG 662 (by decide +kernel) (by decide +kernel)
theorem wd_663 : (Cond.selects RX9 yX9_send yX9_send : Cond) ∈ wsG := wG 663 (by decide +kernel) (by decide +kernel)
theorem wd_664 : (Cond.code yX9_send cX9_send 4 (some .int) : Cond) ∈ wsG := wG 664 (by decide +kernel) (by decide +kernel)
theorem wd_665 : (Cond.methodLink RX9 76 yX9_whoGoes : Cond) ∈ wsG := wG 665 (by decide +kernel) (by decide +kernel)
theorem wd_666 : (Cond.methodLink RX9 88 yX2_goOut : Cond) ∈ wsG := wG 666 (by decide +kernel) (by decide +kernel)
theorem wd_667 : (Cond.instanceMethod yX2_goOut : Cond) ∈ wsG := wG 667 (by decide +kernel) (by decide +kernel)
theorem wd_668 : (Cond.selects RX2 yX2_goOut yX2_goOut : Cond) ∈ wsG := wG 668 (by decide +kernel) (by decide +kernel)
theorem wd_669 : (Cond.code yX2_goOut cX2_goOut 4 (none : Option Jvm.ClassFile.FieldType) : Cond) ∈ wsG := wG 669 (by decide +kernel) (by decide +kernel)
theorem wd_670 : (Cond.methodLink RX10 193 yX6_tell_ : Cond) ∈ wsG := wG 670 (by decide +kernel) (by decide +kernel)
theorem wd_671 : (Cond.instanceMethod yX6_tell_ : Cond) ∈ wsG := wG 671 (by decide +kernel) (by decide +kernel)
theorem wd_672 : (Cond.selects RX6 yX6_tell_ yX6_tell_ : Cond) ∈ wsG := wG 672 (by decide +kernel) (by decide +kernel)
theorem wd_673 : (Cond.code yX6_tell_ cX6_tell_ 5 (none : Option Jvm.ClassFile.FieldType) : Cond) ∈ wsG := wG 673 (by decide +kernel) (by decide +kernel)
theorem wd_674 : (Cond.methodLink RX6 26 yX6_tell : Cond) ∈ wsG := wG 674 (by decide +kernel) (by decide +kernel)
theorem wd_675 : (Cond.methodLink RL 76 yX10_pair : Cond) ∈ wsG := wG 675 (by decide +kernel) (by decide +kernel)
theorem wd_676 : (Cond.instanceMethod yX10_pair : Cond) ∈ wsG := wG 676 (by decide +kernel) (by decide +kernel)
theorem wd_677 : (Cond.selects RX10 yX10_pair yX10_pair : Cond) ∈ wsG := wG 677 (by decide +kernel) (by decide +kernel)
theorem wd_678 : (Cond.code yX10_pair cX10_pair 3 (some .int) : Cond) ∈ wsG := wG 678 (by decide +kernel) (by decide +kernel)
theorem wd_679 : (Cond.methodLink RX10 196 yX1_find : Cond) ∈ wsG := wG 679 (by decide +kernel) (by decide +kernel)
theorem wd_680 : (Cond.instanceMethod yX1_find : Cond) ∈ wsG := wG 680 (by decide +kernel) (by decide +kernel)
theorem wd_681 : (Cond.selects RX1 yX1_find yX1_find : Cond) ∈ wsG := wG 681 (by decide +kernel) (by decide +kernel)
theorem wd_682 : (Cond.code yX1_find cX1_find 6 (some .boolean) : Cond) ∈ wsG := wG 682 (by decide +kernel) (by decide +kernel)
theorem wd_683 : (Cond.methodLink RX1 35 yX9_readyWay : Cond) ∈ wsG := wG 683 (by decide +kernel) (by decide +kernel)
theorem wd_684 : (Cond.methodLink RX1 39 yX1_tryBeside : Cond) ∈ wsG := wG 684 (by decide +kernel) (by decide +kernel)
theorem wd_686 : (Cond.instanceMethod yX1_tryBeside : Cond) ∈ wsG := wG 686 (by decide +kernel) (by decide +kernel)
theorem wd_687 : (Cond.code yX1_tryBeside cX1_tryBeside 7 (none : Option Jvm.ClassFile.FieldType) : Cond) ∈ wsG := wG 687 (by decide +kernel) (by decide +kernel)
theorem wd_688 : (Cond.methodLink RX1 43 yX1_isLess : Cond) ∈ wsG := wG 688 (by decide +kernel) (by decide +kernel)
theorem wd_690 : (Cond.instanceMethod yX1_isLess : Cond) ∈ wsG := wG 690 (by decide +kernel) (by decide +kernel)
theorem wd_691 : (Cond.code yX1_isLess cX1_isLess 3 (some .boolean) : Cond) ∈ wsG := wG 691 (by decide +kernel) (by decide +kernel)
theorem wd_692 : (Cond.methodLink RX1 47 Lib.Math.max.name : Cond) ∈ wsG := wG 692 (by decide +kernel) (by decide +kernel)
theorem wd_693 : (Cond.methodLink RX10 209 yX6_add : Cond) ∈ wsG := wG 693 (by decide +kernel) (by decide +kernel)
theorem wd_694 : (Cond.methodLink RL 80 yX10_worstPair : Cond) ∈ wsG := wG 694 (by decide +kernel) (by decide +kernel)
theorem wd_695 : (Cond.instanceMethod yX10_worstPair : Cond) ∈ wsG := wG 695 (by decide +kernel) (by decide +kernel)
theorem wd_696 : (Cond.selects RX10 yX10_worstPair yX10_worstPair : Cond) ∈ wsG := wG 696 (by decide +kernel) (by decide +kernel)
theorem wd_697 : (Cond.code yX10_worstPair cX10_worstPair 7 (some .int) : Cond) ∈ wsG := wG 697 (by decide +kernel) (by decide +kernel)
theorem wd_698 : (Cond.methodLink RL 84 yX10_pass : Cond) ∈ wsG := wG 698 (by decide +kernel) (by decide +kernel)
theorem wd_699 : (Cond.instanceMethod yX10_pass : Cond) ∈ wsG := wG 699 (by decide +kernel) (by decide +kernel)
theorem wd_700 : (Cond.selects RX10 yX10_pass yX10_pass : Cond) ∈ wsG := wG 700 (by decide +kernel) (by decide +kernel)
theorem wd_701 : (Cond.code yX10_pass cX10_pass 4 (some .int) : Cond) ∈ wsG := wG 701 (by decide +kernel) (by decide +kernel)
theorem wd_702 : (Cond.methodLink RX10 215 yX2_nextMinute : Cond) ∈ wsG := wG 702 (by decide +kernel) (by decide +kernel)
theorem wd_703 : (Cond.instanceMethod yX2_nextMinute : Cond) ∈ wsG := wG 703 (by decide +kernel) (by decide +kernel)
theorem wd_704 : (Cond.selects RX2 yX2_nextMinute yX2_nextMinute : Cond) ∈ wsG := wG 704 (by decide +kernel) (by decide +kernel)
theorem wd_705 : (Cond.code yX2_nextMinute cX2_nextMinute 3 (some .int) : Cond) ∈ wsG := wG 705 (by decide +kernel) (by decide +kernel)
theorem wd_706 : (Cond.methodLink RL 88 yX10_seed : Cond) ∈ wsG := wG 706 (by decide +kernel) (by decide +kernel)
theorem wd_707 : (Cond.instanceMethod yX10_seed : Cond) ∈ wsG := wG 707 (by decide +kernel) (by decide +kernel)
theorem wd_708 : (Cond.selects RX10 yX10_seed yX10_seed : Cond) ∈ wsG := wG 708 (by decide +kernel) (by decide +kernel)
theorem wd_709 : (Cond.code yX10_seed cX10_seed 3 (some .int) : Cond) ∈ wsG := wG 709 (by decide +kernel) (by decide +kernel)
theorem wd_710 : (Cond.methodLink RL 92 yX10_storms : Cond) ∈ wsG := wG 710 (by decide +kernel) (by decide +kernel)
theorem wd_711 : (Cond.instanceMethod yX10_storms : Cond) ∈ wsG := wG 711 (by decide +kernel) (by decide +kernel)
theorem wd_712 : (Cond.selects RX10 yX10_storms yX10_storms : Cond) ∈ wsG := wG 712 (by decide +kernel) (by decide +kernel)
theorem wd_713 : (Cond.code yX10_storms cX10_storms 7 (some .int) : Cond) ∈ wsG := wG 713 (by decide +kernel) (by decide +kernel)
theorem wd_714 : (Cond.methodLink RX10 227 yX9_draw : Cond) ∈ wsG := wG 714 (by decide +kernel) (by decide +kernel)
theorem wd_715 : (Cond.instanceMethod yX9_draw : Cond) ∈ wsG := wG 715 (by decide +kernel) (by decide +kernel)
theorem wd_716 : (Cond.selects RX9 yX9_draw yX9_draw : Cond) ∈ wsG := wG 716 (by decide +kernel) (by decide +kernel)
theorem wd_717 : (Cond.code yX9_draw cX9_draw 2 (some .int) : Cond) ∈ wsG := wG 717 (by decide +kernel) (by decide +kernel)
theorem wd_718 : (Cond.constant RX9 45 1103515245 : Cond) ∈ wsG := wG 718 (by decide +kernel) (by decide +kernel)
theorem wd_719 : (Cond.methodLink RX10 230 yX9_callSomewhere : Cond) ∈ wsG := wG 719 (by decide +kernel) (by decide +kernel)
theorem wd_720 : (Cond.instanceMethod yX9_callSomewhere : Cond) ∈ wsG := wG 720 (by decide +kernel) (by decide +kernel)
theorem wd_721 : (Cond.selects RX9 yX9_callSomewhere yX9_callSomewhere : Cond) ∈ wsG := wG 721 (by decide +kernel) (by decide +kernel)
theorem wd_722 : (Cond.code yX9_callSomewhere cX9_callSomewhere 4 (none : Option Jvm.ClassFile.FieldType) : Cond) ∈ wsG := wG 722 (by decide +kernel) (by decide +kernel)
theorem wd_723 : (Cond.methodLink RX9 92 yX3_weigh : Cond) ∈ wsG := wG 723 (by decide +kernel) (by decide +kernel)
theorem wd_724 : (Cond.methodLink RX9 95 yX9_draw : Cond) ∈ wsG := wG 724 (by decide +kernel) (by decide +kernel)
theorem wd_725 : (Cond.methodLink RX9 101 yX9_send : Cond) ∈ wsG := wG 725 (by decide +kernel) (by decide +kernel)
theorem wd_726 : (Cond.methodLink RL 96 yX10_cover : Cond) ∈ wsG := wG 726 (by decide +kernel) (by decide +kernel)
theorem wd_727 : (Cond.instanceMethod yX10_cover : Cond) ∈ wsG := wG 727 (by decide +kernel) (by decide +kernel)
theorem wd_728 : (Cond.selects RX10 yX10_cover yX10_cover : Cond) ∈ wsG := wG 728 (by decide +kernel) (by decide +kernel)
theorem wd_729 : (Cond.code yX10_cover cX10_cover 2 (some .int) : Cond) ∈ wsG := wG 729 (by decide +kernel) (by decide +kernel)
theorem wd_730 : (Cond.methodLink RX10 233 yX10_coverNow : Cond) ∈ wsG := wG 730 (by decide +kernel) (by decide +kernel)
theorem wd_732 : (Cond.instanceMethod yX10_coverNow : Cond) ∈ wsG := wG 732 (by decide +kernel) (by decide +kernel)
theorem wd_733 : (Cond.code yX10_coverNow cX10_coverNow 1 (some .int) : Cond) ∈ wsG := wG 733 (by decide +kernel) (by decide +kernel)
theorem wd_734 : (Cond.methodLink RX10 270 yX2_inMode : Cond) ∈ wsG := wG 734 (by decide +kernel) (by decide +kernel)
theorem wd_735 : (Cond.instanceMethod yX2_inMode : Cond) ∈ wsG := wG 735 (by decide +kernel) (by decide +kernel)
theorem wd_736 : (Cond.selects RX2 yX2_inMode yX2_inMode : Cond) ∈ wsG := wG 736 (by decide +kernel) (by decide +kernel)
theorem wd_737 : (Cond.code yX2_inMode cX2_inMode 4 (some .int) : Cond) ∈ wsG := wG 737 (by decide +kernel) (by decide +kernel)
theorem wd_738 : (Cond.methodLink RX10 276 yX7_putEngines : Cond) ∈ wsG := wG 738 (by decide +kernel) (by decide +kernel)
theorem wd_739 : (Cond.instanceMethod yX7_putEngines : Cond) ∈ wsG := wG 739 (by decide +kernel) (by decide +kernel)
theorem wd_740 : (Cond.selects RX7 yX7_putEngines yX7_putEngines : Cond) ∈ wsG := wG 740 (by decide +kernel) (by decide +kernel)
theorem wd_741 : (Cond.code yX7_putEngines cX7_putEngines 4 (none : Option Jvm.ClassFile.FieldType) : Cond) ∈ wsG := wG 741 (by decide +kernel) (by decide +kernel)
theorem wd_742 : (Cond.methodLink RX7 39 yX7_putOne : Cond) ∈ wsG := wG 742 (by decide +kernel) (by decide +kernel)
theorem wd_744 : (Cond.instanceMethod yX7_putOne : Cond) ∈ wsG := wG 744 (by decide +kernel) (by decide +kernel)
theorem wd_745 : (Cond.code yX7_putOne cX7_putOne 2 (none : Option Jvm.ClassFile.FieldType) : Cond) ∈ wsG := wG 745 (by decide +kernel) (by decide +kernel)
theorem wd_746 : (Cond.methodLink RX10 250 yX7_covered : Cond) ∈ wsG := wG 746 (by decide +kernel) (by decide +kernel)
theorem wd_747 : (Cond.instanceMethod yX7_covered : Cond) ∈ wsG := wG 747 (by decide +kernel) (by decide +kernel)
theorem wd_748 : (Cond.selects RX7 yX7_covered yX7_covered : Cond) ∈ wsG := wG 748 (by decide +kernel) (by decide +kernel)
theorem wd_749 : (Cond.code yX7_covered cX7_covered 2 (some .int) : Cond) ∈ wsG := wG 749 (by decide +kernel) (by decide +kernel)
theorem wd_750 : (Cond.methodLink RX7 43 yX3_weigh : Cond) ∈ wsG := wG 750 (by decide +kernel) (by decide +kernel)
theorem wd_751 : (Cond.methodLink RX10 236 yX7_doubled : Cond) ∈ wsG := wG 751 (by decide +kernel) (by decide +kernel)
theorem wd_752 : (Cond.instanceMethod yX7_doubled : Cond) ∈ wsG := wG 752 (by decide +kernel) (by decide +kernel)
theorem wd_753 : (Cond.selects RX7 yX7_doubled yX7_doubled : Cond) ∈ wsG := wG 753 (by decide +kernel) (by decide +kernel)
theorem wd_754 : (Cond.code yX7_doubled cX7_doubled 2 (some .int) : Cond) ∈ wsG := wG 754 (by decide +kernel) (by decide +kernel)
theorem wd_755 : (Cond.methodLink RL 100 yX10_covers : Cond) ∈ wsG := wG 755 (by decide +kernel) (by decide +kernel)
theorem wd_756 : (Cond.instanceMethod yX10_covers : Cond) ∈ wsG := wG 756 (by decide +kernel) (by decide +kernel)
theorem wd_757 : (Cond.selects RX10 yX10_covers yX10_covers : Cond) ∈ wsG := wG 757 (by decide +kernel) (by decide +kernel)
theorem wd_758 : (Cond.code yX10_covers cX10_covers 2 (some .int) : Cond) ∈ wsG := wG 758 (by decide +kernel) (by decide +kernel)
theorem wd_759 : (Cond.methodLink RX10 243 yX7_putStations : Cond) ∈ wsG := wG 759 (by decide +kernel) (by decide +kernel)
theorem wd_760 : (Cond.instanceMethod yX7_putStations : Cond) ∈ wsG := wG 760 (by decide +kernel) (by decide +kernel)
theorem wd_761 : (Cond.selects RX7 yX7_putStations yX7_putStations : Cond) ∈ wsG := wG 761 (by decide +kernel) (by decide +kernel)
theorem wd_762 : (Cond.code yX7_putStations cX7_putStations 3 (none : Option Jvm.ClassFile.FieldType) : Cond) ∈ wsG := wG 762 (by decide +kernel) (by decide +kernel)
theorem wd_763 : (Cond.methodLink RL 104 yX10_share : Cond) ∈ wsG := wG 763 (by decide +kernel) (by decide +kernel)
theorem wd_764 : (Cond.instanceMethod yX10_share : Cond) ∈ wsG := wG 764 (by decide +kernel) (by decide +kernel)
theorem wd_765 : (Cond.selects RX10 yX10_share yX10_share : Cond) ∈ wsG := wG 765 (by decide +kernel) (by decide +kernel)
theorem wd_766 : (Cond.code yX10_share cX10_share 1 (some .int) : Cond) ∈ wsG := wG 766 (by decide +kernel) (by decide +kernel)
theorem wd_767 : (Cond.methodLink RX10 253 yX10_quotientBits : Cond) ∈ wsG := wG 767 (by decide +kernel) (by decide +kernel)
theorem wd_768 : (Cond.static yX10_quotientBits : Cond) ∈ wsG := wG 768 (by decide +kernel) (by decide +kernel)
theorem wd_769 : (Cond.code yX10_quotientBits cX10_quotientBits 7 (some .int) : Cond) ∈ wsG := wG 769 (by decide +kernel) (by decide +kernel)
theorem wd_770 : (Cond.constant RX10 398 2143289344 : Cond) ∈ wsG := wG 770 (by decide +kernel) (by decide +kernel)
theorem wd_771 : (Cond.constantLong RX10 399 2 : Cond) ∈ wsG := wG 771 (by decide +kernel) (by decide +kernel)
theorem wd_772 : (Cond.constantLong RX10 401 8388608 : Cond) ∈ wsG := wG 772 (by decide +kernel) (by decide +kernel)
theorem wd_773 : (Cond.methodLink RL 108 yX10_best : Cond) ∈ wsG := wG 773 (by decide +kernel) (by decide +kernel)
theorem wd_774 : (Cond.instanceMethod yX10_best : Cond) ∈ wsG := wG 774 (by decide +kernel) (by decide +kernel)
theorem wd_775 : (Cond.selects RX10 yX10_best yX10_best : Cond) ∈ wsG := wG 775 (by decide +kernel) (by decide +kernel)
theorem wd_776 : (Cond.code yX10_best cX10_best 3 (some .int) : Cond) ∈ wsG := wG 776 (by decide +kernel) (by decide +kernel)
theorem wd_777 : (Cond.methodLink RX10 256 yX7_bestStations : Cond) ∈ wsG := wG 777 (by decide +kernel) (by decide +kernel)
theorem wd_778 : (Cond.instanceMethod yX7_bestStations : Cond) ∈ wsG := wG 778 (by decide +kernel) (by decide +kernel)
theorem wd_779 : (Cond.selects RX7 yX7_bestStations yX7_bestStations : Cond) ∈ wsG := wG 779 (by decide +kernel) (by decide +kernel)
theorem wd_780 : (Cond.code yX7_bestStations cX7_bestStations 8 (some .int) : Cond) ∈ wsG := wG 780 (by decide +kernel) (by decide +kernel)
theorem wd_781 : (Cond.methodLink RX7 56 ⟨"java/lang/Integer", "bitCount", "(I)I"⟩ : Cond) ∈ wsG := wG 781 (by decide +kernel) (by decide +kernel)
theorem wd_782 : (Cond.static ⟨"java/lang/Integer", "bitCount", "(I)I"⟩ : Cond) ∈ wsG := wG 782 (by decide +kernel) (by decide +kernel)
theorem wd_783 : (Cond.code ⟨"java/lang/Integer", "bitCount", "(I)I"⟩ prog_17_method_49_code 1 (some .int) : Cond) ∈ wsG := wG 783 (by decide +kernel) (by decide +kernel)
theorem wd_784 : (Cond.constant "java/lang/Integer" 265 1431655765 : Cond) ∈ wsG := wG 784 (by decide +kernel) (by decide +kernel)
theorem wd_785 : (Cond.constant "java/lang/Integer" 266 858993459 : Cond) ∈ wsG := wG 785 (by decide +kernel) (by decide +kernel)
theorem wd_786 : (Cond.constant "java/lang/Integer" 267 252645135 : Cond) ∈ wsG := wG 786 (by decide +kernel) (by decide +kernel)
theorem wd_787 : (Cond.methodLink RX7 46 yX7_putStations : Cond) ∈ wsG := wG 787 (by decide +kernel) (by decide +kernel)
theorem wd_788 : (Cond.methodLink RX7 61 yX7_doubled : Cond) ∈ wsG := wG 788 (by decide +kernel) (by decide +kernel)
theorem wd_789 : (Cond.methodLink RX7 49 yX7_covered : Cond) ∈ wsG := wG 789 (by decide +kernel) (by decide +kernel)
theorem wd_790 : (Cond.methodLink RL 112 yX10_nested : Cond) ∈ wsG := wG 790 (by decide +kernel) (by decide +kernel)
theorem wd_791 : (Cond.instanceMethod yX10_nested : Cond) ∈ wsG := wG 791 (by decide +kernel) (by decide +kernel)
theorem wd_792 : (Cond.selects RX10 yX10_nested yX10_nested : Cond) ∈ wsG := wG 792 (by decide +kernel) (by decide +kernel)
theorem wd_793 : (Cond.code yX10_nested cX10_nested 5 (some .int) : Cond) ∈ wsG := wG 793 (by decide +kernel) (by decide +kernel)
theorem wd_794 : (Cond.methodLink RX10 260 yX6_clear : Cond) ∈ wsG := wG 794 (by decide +kernel) (by decide +kernel)
theorem wd_795 : (Cond.methodLink RL 116 yX10_greedy : Cond) ∈ wsG := wG 795 (by decide +kernel) (by decide +kernel)
theorem wd_796 : (Cond.instanceMethod yX10_greedy : Cond) ∈ wsG := wG 796 (by decide +kernel) (by decide +kernel)
theorem wd_797 : (Cond.selects RX10 yX10_greedy yX10_greedy : Cond) ∈ wsG := wG 797 (by decide +kernel) (by decide +kernel)
theorem wd_798 : (Cond.code yX10_greedy cX10_greedy 5 (some .int) : Cond) ∈ wsG := wG 798 (by decide +kernel) (by decide +kernel)
theorem wd_799 : (Cond.methodLink RX10 263 yX7_bestBeside : Cond) ∈ wsG := wG 799 (by decide +kernel) (by decide +kernel)
theorem wd_800 : (Cond.instanceMethod yX7_bestBeside : Cond) ∈ wsG := wG 800 (by decide +kernel) (by decide +kernel)
theorem wd_801 : (Cond.selects RX7 yX7_bestBeside yX7_bestBeside : Cond) ∈ wsG := wG 801 (by decide +kernel) (by decide +kernel)
theorem wd_802 : (Cond.code yX7_bestBeside cX7_bestBeside 6 (some .int) : Cond) ∈ wsG := wG 802 (by decide +kernel) (by decide +kernel)
theorem wd_803 : (Cond.methodLink RX7 64 yX7_coverOf : Cond) ∈ wsG := wG 803 (by decide +kernel) (by decide +kernel)
theorem wd_804 : (Cond.instanceMethod yX7_coverOf : Cond) ∈ wsG := wG 804 (by decide +kernel) (by decide +kernel)
theorem wd_805 : (Cond.selects RX7 yX7_coverOf yX7_coverOf : Cond) ∈ wsG := wG 805 (by decide +kernel) (by decide +kernel)
theorem wd_806 : (Cond.code yX7_coverOf cX7_coverOf 3 (some .int) : Cond) ∈ wsG := wG 806 (by decide +kernel) (by decide +kernel)
theorem wd_807 : (Cond.methodLink RX10 267 yX7_coverOf : Cond) ∈ wsG := wG 807 (by decide +kernel) (by decide +kernel)
theorem wd_808 : (Cond.methodLink RL 120 yX10_dearest : Cond) ∈ wsG := wG 808 (by decide +kernel) (by decide +kernel)
theorem wd_809 : (Cond.instanceMethod yX10_dearest : Cond) ∈ wsG := wG 809 (by decide +kernel) (by decide +kernel)
theorem wd_810 : (Cond.selects RX10 yX10_dearest yX10_dearest : Cond) ∈ wsG := wG 810 (by decide +kernel) (by decide +kernel)
theorem wd_811 : (Cond.code yX10_dearest cX10_dearest 7 (some .int) : Cond) ∈ wsG := wG 811 (by decide +kernel) (by decide +kernel)
theorem wd_812 : (Cond.methodLink RX10 273 yX2_postedAt : Cond) ∈ wsG := wG 812 (by decide +kernel) (by decide +kernel)
theorem wd_813 : (Cond.instanceMethod yX2_postedAt : Cond) ∈ wsG := wG 813 (by decide +kernel) (by decide +kernel)
theorem wd_814 : (Cond.selects RX2 yX2_postedAt yX2_postedAt : Cond) ∈ wsG := wG 814 (by decide +kernel) (by decide +kernel)
theorem wd_815 : (Cond.code yX2_postedAt cX2_postedAt 4 (some .int) : Cond) ∈ wsG := wG 815 (by decide +kernel) (by decide +kernel)
theorem wd_816 : (Cond.methodLink RL 124 yX10_dearestRoad : Cond) ∈ wsG := wG 816 (by decide +kernel) (by decide +kernel)
theorem wd_817 : (Cond.instanceMethod yX10_dearestRoad : Cond) ∈ wsG := wG 817 (by decide +kernel) (by decide +kernel)
theorem wd_818 : (Cond.selects RX10 yX10_dearestRoad yX10_dearestRoad : Cond) ∈ wsG := wG 818 (by decide +kernel) (by decide +kernel)
theorem wd_819 : (Cond.code yX10_dearestRoad cX10_dearestRoad 5 (some .int) : Cond) ∈ wsG := wG 819 (by decide +kernel) (by decide +kernel)
theorem wd_820 : (Cond.constant RX10 282 2147483647 : Cond) ∈ wsG := wG 820 (by decide +kernel) (by decide +kernel)
theorem wd_821 : (Cond.methodLink RL 128 yX10_least : Cond) ∈ wsG := wG 821 (by decide +kernel) (by decide +kernel)
theorem wd_822 : (Cond.instanceMethod yX10_least : Cond) ∈ wsG := wG 822 (by decide +kernel) (by decide +kernel)
theorem wd_823 : (Cond.selects RX10 yX10_least yX10_least : Cond) ∈ wsG := wG 823 (by decide +kernel) (by decide +kernel)
theorem wd_824 : (Cond.code yX10_least cX10_least 4 (some .int) : Cond) ∈ wsG := wG 824 (by decide +kernel) (by decide +kernel)
theorem wd_825 : (Cond.methodLink RL 132 yX10_twice : Cond) ∈ wsG := wG 825 (by decide +kernel) (by decide +kernel)
theorem wd_826 : (Cond.instanceMethod yX10_twice : Cond) ∈ wsG := wG 826 (by decide +kernel) (by decide +kernel)
theorem wd_827 : (Cond.selects RX10 yX10_twice yX10_twice : Cond) ∈ wsG := wG 827 (by decide +kernel) (by decide +kernel)
theorem wd_828 : (Cond.code yX10_twice cX10_twice 3 (some .int) : Cond) ∈ wsG := wG 828 (by decide +kernel) (by decide +kernel)
theorem wd_829 : (Cond.methodLink RL 136 yX10_spread : Cond) ∈ wsG := wG 829 (by decide +kernel) (by decide +kernel)
theorem wd_830 : (Cond.instanceMethod yX10_spread : Cond) ∈ wsG := wG 830 (by decide +kernel) (by decide +kernel)
theorem wd_831 : (Cond.selects RX10 yX10_spread yX10_spread : Cond) ∈ wsG := wG 831 (by decide +kernel) (by decide +kernel)
theorem wd_832 : (Cond.code yX10_spread cX10_spread 7 (some .int) : Cond) ∈ wsG := wG 832 (by decide +kernel) (by decide +kernel)
theorem wd_833 : (Cond.methodLink RX10 296 yX9_nearestWay : Cond) ∈ wsG := wG 833 (by decide +kernel) (by decide +kernel)
theorem wd_834 : (Cond.instanceMethod yX9_nearestWay : Cond) ∈ wsG := wG 834 (by decide +kernel) (by decide +kernel)
theorem wd_835 : (Cond.selects RX9 yX9_nearestWay yX9_nearestWay : Cond) ∈ wsG := wG 835 (by decide +kernel) (by decide +kernel)
theorem wd_836 : (Cond.code yX9_nearestWay cX9_nearestWay 2 (some .int) : Cond) ∈ wsG := wG 836 (by decide +kernel) (by decide +kernel)
theorem wd_837 : (Cond.methodLink RX10 299 Lib.Math.max.name : Cond) ∈ wsG := wG 837 (by decide +kernel) (by decide +kernel)
theorem wd_838 : (Cond.methodLink RL 140 yX10_state : Cond) ∈ wsG := wG 838 (by decide +kernel) (by decide +kernel)
theorem wd_839 : (Cond.instanceMethod yX10_state : Cond) ∈ wsG := wG 839 (by decide +kernel) (by decide +kernel)
theorem wd_840 : (Cond.selects RX10 yX10_state yX10_state : Cond) ∈ wsG := wG 840 (by decide +kernel) (by decide +kernel)
theorem wd_841 : (Cond.code yX10_state cX10_state 3 (some .int) : Cond) ∈ wsG := wG 841 (by decide +kernel) (by decide +kernel)
theorem wd_842 : (Cond.methodLink RX10 307 yX10_coverWithout : Cond) ∈ wsG := wG 842 (by decide +kernel) (by decide +kernel)
theorem wd_844 : (Cond.instanceMethod yX10_coverWithout : Cond) ∈ wsG := wG 844 (by decide +kernel) (by decide +kernel)
theorem wd_845 : (Cond.code yX10_coverWithout cX10_coverWithout 3 (some .int) : Cond) ∈ wsG := wG 845 (by decide +kernel) (by decide +kernel)
theorem wd_846 : (Cond.methodLink RL 144 yX10_worst : Cond) ∈ wsG := wG 846 (by decide +kernel) (by decide +kernel)
theorem wd_847 : (Cond.instanceMethod yX10_worst : Cond) ∈ wsG := wG 847 (by decide +kernel) (by decide +kernel)
theorem wd_848 : (Cond.selects RX10 yX10_worst yX10_worst : Cond) ∈ wsG := wG 848 (by decide +kernel) (by decide +kernel)
theorem wd_849 : (Cond.code yX10_worst cX10_worst 7 (some .int) : Cond) ∈ wsG := wG 849 (by decide +kernel) (by decide +kernel)
theorem wd_850 : (Cond.methodLink RX10 310 ⟨"java/lang/Integer", "bitCount", "(I)I"⟩ : Cond) ∈ wsG := wG 850 (by decide +kernel) (by decide +kernel)
theorem wd_851 : (Cond.methodLink RL 148 yX10_states : Cond) ∈ wsG := wG 851 (by decide +kernel) (by decide +kernel)
theorem wd_852 : (Cond.instanceMethod yX10_states : Cond) ∈ wsG := wG 852 (by decide +kernel) (by decide +kernel)
theorem wd_853 : (Cond.selects RX10 yX10_states yX10_states : Cond) ∈ wsG := wG 853 (by decide +kernel) (by decide +kernel)
theorem wd_854 : (Cond.code yX10_states cX10_states 5 (some .int) : Cond) ∈ wsG := wG 854 (by decide +kernel) (by decide +kernel)
theorem wd_855 : (Cond.methodLink RX10 313 yX10_statesOf : Cond) ∈ wsG := wG 855 (by decide +kernel) (by decide +kernel)
theorem wd_857 : (Cond.instanceMethod yX10_statesOf : Cond) ∈ wsG := wG 857 (by decide +kernel) (by decide +kernel)
theorem wd_858 : (Cond.code yX10_statesOf cX10_statesOf 5 (some .int) : Cond) ∈ wsG := wG 858 (by decide +kernel) (by decide +kernel)
theorem wd_859 : (Cond.methodLink RL 152 yX10_expects : Cond) ∈ wsG := wG 859 (by decide +kernel) (by decide +kernel)
theorem wd_860 : (Cond.instanceMethod yX10_expects : Cond) ∈ wsG := wG 860 (by decide +kernel) (by decide +kernel)
theorem wd_861 : (Cond.selects RX10 yX10_expects yX10_expects : Cond) ∈ wsG := wG 861 (by decide +kernel) (by decide +kernel)
theorem wd_862 : (Cond.code yX10_expects cX10_expects 2 (some .int) : Cond) ∈ wsG := wG 862 (by decide +kernel) (by decide +kernel)
theorem wd_863 : (Cond.methodLink RX10 316 yX0_prepare : Cond) ∈ wsG := wG 863 (by decide +kernel) (by decide +kernel)
theorem wd_864 : (Cond.instanceMethod yX0_prepare : Cond) ∈ wsG := wG 864 (by decide +kernel) (by decide +kernel)
theorem wd_865 : (Cond.selects RX0 yX0_prepare yX0_prepare : Cond) ∈ wsG := wG 865 (by decide +kernel) (by decide +kernel)
theorem wd_866 : (Cond.code yX0_prepare cX0_prepare 5 (none : Option Jvm.ClassFile.FieldType) : Cond) ∈ wsG := wG 866 (by decide +kernel) (by decide +kernel)
theorem wd_867 : (Cond.methodLink RX10 320 yX0_expectedNow : Cond) ∈ wsG := wG 867 (by decide +kernel) (by decide +kernel)
theorem wd_868 : (Cond.instanceMethod yX0_expectedNow : Cond) ∈ wsG := wG 868 (by decide +kernel) (by decide +kernel)
theorem wd_869 : (Cond.selects RX0 yX0_expectedNow yX0_expectedNow : Cond) ∈ wsG := wG 869 (by decide +kernel) (by decide +kernel)
theorem wd_870 : (Cond.code yX0_expectedNow cX0_expectedNow 6 (some .int) : Cond) ∈ wsG := wG 870 (by decide +kernel) (by decide +kernel)
theorem wd_871 : (Cond.methodLink RX0 48 yX0_hitsOf : Cond) ∈ wsG := wG 871 (by decide +kernel) (by decide +kernel)
theorem wd_873 : (Cond.instanceMethod yX0_hitsOf : Cond) ∈ wsG := wG 873 (by decide +kernel) (by decide +kernel)
theorem wd_874 : (Cond.code yX0_hitsOf cX0_hitsOf 2 (some .long) : Cond) ∈ wsG := wG 874 (by decide +kernel) (by decide +kernel)
theorem wd_875 : (Cond.methodLink RX0 56 yX0_expected : Cond) ∈ wsG := wG 875 (by decide +kernel) (by decide +kernel)
theorem wd_877 : (Cond.instanceMethod yX0_expected : Cond) ∈ wsG := wG 877 (by decide +kernel) (by decide +kernel)
theorem wd_878 : (Cond.code yX0_expected cX0_expected 7 (some .int) : Cond) ∈ wsG := wG 878 (by decide +kernel) (by decide +kernel)
theorem wd_879 : (Cond.methodLink RL 156 yX10_bestFor : Cond) ∈ wsG := wG 879 (by decide +kernel) (by decide +kernel)
theorem wd_880 : (Cond.instanceMethod yX10_bestFor : Cond) ∈ wsG := wG 880 (by decide +kernel) (by decide +kernel)
theorem wd_881 : (Cond.selects RX10 yX10_bestFor yX10_bestFor : Cond) ∈ wsG := wG 881 (by decide +kernel) (by decide +kernel)
theorem wd_882 : (Cond.code yX10_bestFor cX10_bestFor 5 (some .int) : Cond) ∈ wsG := wG 882 (by decide +kernel) (by decide +kernel)
theorem wd_883 : (Cond.methodLink RX10 324 yX0_seekBest : Cond) ∈ wsG := wG 883 (by decide +kernel) (by decide +kernel)
theorem wd_884 : (Cond.instanceMethod yX0_seekBest : Cond) ∈ wsG := wG 884 (by decide +kernel) (by decide +kernel)
theorem wd_885 : (Cond.selects RX0 yX0_seekBest yX0_seekBest : Cond) ∈ wsG := wG 885 (by decide +kernel) (by decide +kernel)
theorem wd_886 : (Cond.code yX0_seekBest cX0_seekBest 10 (some .int) : Cond) ∈ wsG := wG 886 (by decide +kernel) (by decide +kernel)
theorem wd_887 : (Cond.methodLink RX0 65 Lib.Math.min.name : Cond) ∈ wsG := wG 887 (by decide +kernel) (by decide +kernel)
theorem wd_888 : (Cond.methodLink RX0 71 Lib.Math.max.name : Cond) ∈ wsG := wG 888 (by decide +kernel) (by decide +kernel)
theorem wd_889 : (Cond.methodLink RX0 74 ⟨"java/util/Arrays", "fill", "([II)V"⟩ : Cond) ∈ wsG := wG 889 (by decide +kernel) (by decide +kernel)
theorem wd_890 : (Cond.methodLink RX0 80 arraycopyName : Cond) ∈ wsG := wG 890 (by decide +kernel) (by decide +kernel)
theorem wd_891 : (Cond.methodLink RX0 89 yX0_nextRow : Cond) ∈ wsG := wG 891 (by decide +kernel) (by decide +kernel)
theorem wd_893 : (Cond.instanceMethod yX0_nextRow : Cond) ∈ wsG := wG 893 (by decide +kernel) (by decide +kernel)
theorem wd_894 : (Cond.code yX0_nextRow cX0_nextRow 6 (some .boolean) : Cond) ∈ wsG := wG 894 (by decide +kernel) (by decide +kernel)
theorem wd_895 : (Cond.methodLink RL 160 yX10_regret : Cond) ∈ wsG := wG 895 (by decide +kernel) (by decide +kernel)
theorem wd_896 : (Cond.instanceMethod yX10_regret : Cond) ∈ wsG := wG 896 (by decide +kernel) (by decide +kernel)
theorem wd_897 : (Cond.selects RX10 yX10_regret yX10_regret : Cond) ∈ wsG := wG 897 (by decide +kernel) (by decide +kernel)
theorem wd_898 : (Cond.code yX10_regret cX10_regret 3 (some .int) : Cond) ∈ wsG := wG 898 (by decide +kernel) (by decide +kernel)
theorem wd_899 : (Cond.methodLink RX10 330 yX10_greatestCover : Cond) ∈ wsG := wG 899 (by decide +kernel) (by decide +kernel)
theorem wd_901 : (Cond.instanceMethod yX10_greatestCover : Cond) ∈ wsG := wG 901 (by decide +kernel) (by decide +kernel)
theorem wd_902 : (Cond.code yX10_greatestCover cX10_greatestCover 3 (some .int) : Cond) ∈ wsG := wG 902 (by decide +kernel) (by decide +kernel)
theorem wd_903 : (Cond.methodLink RX10 357 Lib.Math.min.name : Cond) ∈ wsG := wG 903 (by decide +kernel) (by decide +kernel)
theorem wd_904 : (Cond.methodLink RL 164 yX10_moves : Cond) ∈ wsG := wG 904 (by decide +kernel) (by decide +kernel)
theorem wd_905 : (Cond.instanceMethod yX10_moves : Cond) ∈ wsG := wG 905 (by decide +kernel) (by decide +kernel)
theorem wd_906 : (Cond.selects RX10 yX10_moves yX10_moves : Cond) ∈ wsG := wG 906 (by decide +kernel) (by decide +kernel)
theorem wd_907 : (Cond.code yX10_moves cX10_moves 4 (some .int) : Cond) ∈ wsG := wG 907 (by decide +kernel) (by decide +kernel)
theorem wd_908 : (Cond.methodLink RX10 333 yX10_planned : Cond) ∈ wsG := wG 908 (by decide +kernel) (by decide +kernel)
theorem wd_910 : (Cond.instanceMethod yX10_planned : Cond) ∈ wsG := wG 910 (by decide +kernel) (by decide +kernel)
theorem wd_911 : (Cond.code yX10_planned cX10_planned 2 (Option.some (.object "EnginesOut$Planner")) : Cond) ∈ wsG := wG 911 (by decide +kernel) (by decide +kernel)
theorem wd_912 : (Cond.classLink RX10 338 "EnginesOut$Planner" : Cond) ∈ wsG := wG 912 (by decide +kernel) (by decide +kernel)
theorem wd_913 : (Cond.instantiable RX4 9 : Cond) ∈ wsG := wG 913 (by decide +kernel) (by decide +kernel)
theorem wd_914 : (Cond.methodLinkNest RX10 394 yX4_init "EnginesOut" : Cond) ∈ lw_tbl := List.mem_of_getElem? (i := 914) (by decide +kernel)
theorem wd_915 : (Cond.instanceMethod yX4_init : Cond) ∈ wsG := wG 915 (by decide +kernel) (by decide +kernel)
theorem wd_916 : (Cond.code yX4_init cX4_init 1 (none : Option Jvm.ClassFile.FieldType) : Cond) ∈ wsG := wG 916 (by decide +kernel) (by decide +kernel)
theorem wd_917 : (Cond.methodLink RX4 3 objectInit : Cond) ∈ wsG := wG 917 (by decide +kernel) (by decide +kernel)
theorem wd_918 : (Cond.fieldLink RX4 9 "EnginesOut$Planner" "engines" "[I" : Cond) ∈ wsG := wG 918 (by decide +kernel) (by decide +kernel)
theorem wd_919 : (Cond.fieldLink RX10 350 "EnginesOut$Planner" "engines" "[I" : Cond) ∈ wsG := wG 919 (by decide +kernel) (by decide +kernel)
theorem wd_920 : (Cond.fieldLink RX4 15 "EnginesOut$Planner" "posts" "[I" : Cond) ∈ wsG := wG 920 (by decide +kernel) (by decide +kernel)
theorem wd_921 : (Cond.fieldLink RX10 349 "EnginesOut$Planner" "posts" "[I" : Cond) ∈ wsG := wG 921 (by decide +kernel) (by decide +kernel)
theorem wd_922 : (Cond.fieldLink RX4 18 "EnginesOut$Planner" "goals" "[I" : Cond) ∈ wsG := wG 922 (by decide +kernel) (by decide +kernel)
theorem wd_923 : (Cond.fieldLink RX10 346 "EnginesOut$Planner" "goals" "[I" : Cond) ∈ wsG := wG 923 (by decide +kernel) (by decide +kernel)
theorem wd_924 : (Cond.fieldLink RX4 21 "EnginesOut$Planner" "size" "I" : Cond) ∈ wsG := wG 924 (by decide +kernel) (by decide +kernel)
theorem wd_925 : (Cond.fieldLink RX10 345 "EnginesOut$Planner" "size" "I" : Cond) ∈ wsG := wG 925 (by decide +kernel) (by decide +kernel)
theorem wd_926 : (Cond.fieldLink RX4 25 "EnginesOut$Planner" "minutes" "I" : Cond) ∈ wsG := wG 926 (by decide +kernel) (by decide +kernel)
theorem wd_927 : (Cond.fieldLink RX10 342 "EnginesOut$Planner" "minutes" "I" : Cond) ∈ wsG := wG 927 (by decide +kernel) (by decide +kernel)
theorem wd_928 : (Cond.fieldLink RX4 28 "EnginesOut$Planner" "covered" "I" : Cond) ∈ wsG := wG 928 (by decide +kernel) (by decide +kernel)
theorem wd_929 : (Cond.fieldLink RX10 352 "EnginesOut$Planner" "covered" "I" : Cond) ∈ wsG := wG 929 (by decide +kernel) (by decide +kernel)
theorem wd_930 : (Cond.fieldLink RX4 31 "EnginesOut$Planner" "ways" "[I" : Cond) ∈ wsG := wG 930 (by decide +kernel) (by decide +kernel)
theorem wd_931 : (Cond.fieldLink RX4 34 "EnginesOut$Planner" "worths" "[I" : Cond) ∈ wsG := wG 931 (by decide +kernel) (by decide +kernel)
theorem wd_932 : (Cond.fieldLink RX4 37 "EnginesOut$Planner" "stations" "I" : Cond) ∈ wsG := wG 932 (by decide +kernel) (by decide +kernel)
theorem wd_933 : (Cond.laysFinal "EnginesOut$Planner" "EnginesOut$Planner" "engines" "[I" : Cond) ∈ wsG := wG 933 (by decide +kernel) (by decide +kernel)
theorem wd_935 : (Cond.laysFinal "EnginesOut$Planner" "EnginesOut$Planner" "posts" "[I" : Cond) ∈ wsG := wG 935 (by decide +kernel) (by decide +kernel)
theorem wd_937 : (Cond.laysFinal "EnginesOut$Planner" "EnginesOut$Planner" "goals" "[I" : Cond) ∈ wsG := wG 937 (by decide +kernel) (by decide +kernel)
theorem wd_939 : (Cond.lays "EnginesOut$Planner" "EnginesOut$Planner" "size" "I" : Cond) ∈ wsG := wG 939 (by decide +kernel) (by decide +kernel)
theorem wd_941 : (Cond.lays "EnginesOut$Planner" "EnginesOut$Planner" "minutes" "I" : Cond) ∈ wsG := wG 941 (by decide +kernel) (by decide +kernel)
theorem wd_943 : (Cond.lays "EnginesOut$Planner" "EnginesOut$Planner" "covered" "I" : Cond) ∈ wsG := wG 943 (by decide +kernel) (by decide +kernel)
theorem wd_945 : (Cond.laysFinal "EnginesOut$Planner" "EnginesOut$Planner" "ways" "[I" : Cond) ∈ wsG := wG 945 (by decide +kernel) (by decide +kernel)
theorem wd_947 : (Cond.laysFinal "EnginesOut$Planner" "EnginesOut$Planner" "worths" "[I" : Cond) ∈ wsG := wG 947 (by decide +kernel) (by decide +kernel)
theorem wd_949 : (Cond.lays "EnginesOut$Planner" "EnginesOut$Planner" "stations" "I" : Cond) ∈ wsG := wG 949 (by decide +kernel) (by decide +kernel)
theorem wd_952 : (Cond.methodLink RX10 395 yX4_prepare : Cond) ∈ wsG := wG 952 (by decide +kernel) (by decide +kernel)
theorem wd_953 : (Cond.instanceMethod yX4_prepare : Cond) ∈ wsG := wG 953 (by decide +kernel) (by decide +kernel)
theorem wd_954 : (Cond.selects RX4 yX4_prepare yX4_prepare : Cond) ∈ wsG := wG 954 (by decide +kernel) (by decide +kernel)
theorem wd_955 : (Cond.code yX4_prepare cX4_prepare 5 (none : Option Jvm.ClassFile.FieldType) : Cond) ∈ wsG := wG 955 (by decide +kernel) (by decide +kernel)
theorem wd_956 : (Cond.methodLink RX4 40 yX4_gather : Cond) ∈ wsG := wG 956 (by decide +kernel) (by decide +kernel)
theorem wd_958 : (Cond.instanceMethod yX4_gather : Cond) ∈ wsG := wG 958 (by decide +kernel) (by decide +kernel)
theorem wd_959 : (Cond.code yX4_gather cX4_gather 4 (none : Option Jvm.ClassFile.FieldType) : Cond) ∈ wsG := wG 959 (by decide +kernel) (by decide +kernel)
theorem wd_960 : (Cond.methodLink RX4 68 Lib.Math.min.name : Cond) ∈ wsG := wG 960 (by decide +kernel) (by decide +kernel)
theorem wd_961 : (Cond.methodLink RX4 85 yX3_wayOfStations : Cond) ∈ wsG := wG 961 (by decide +kernel) (by decide +kernel)
theorem wd_962 : (Cond.instanceMethod yX3_wayOfStations : Cond) ∈ wsG := wG 962 (by decide +kernel) (by decide +kernel)
theorem wd_963 : (Cond.selects RX3 yX3_wayOfStations yX3_wayOfStations : Cond) ∈ wsG := wG 963 (by decide +kernel) (by decide +kernel)
theorem wd_964 : (Cond.code yX3_wayOfStations cX3_wayOfStations 3 (some .int) : Cond) ∈ wsG := wG 964 (by decide +kernel) (by decide +kernel)
theorem wd_965 : (Cond.methodLink RX3 69 yX3_placeOf : Cond) ∈ wsG := wG 965 (by decide +kernel) (by decide +kernel)
theorem wd_966 : (Cond.methodLink RX4 44 yX4_indexOf : Cond) ∈ wsG := wG 966 (by decide +kernel) (by decide +kernel)
theorem wd_967 : (Cond.static yX4_indexOf : Cond) ∈ wsG := wG 967 (by decide +kernel) (by decide +kernel)
theorem wd_968 : (Cond.code yX4_indexOf cX4_indexOf 4 (some .int) : Cond) ∈ wsG := wG 968 (by decide +kernel) (by decide +kernel)
theorem wd_969 : (Cond.methodLink RX4 54 yX7_coverOf : Cond) ∈ wsG := wG 969 (by decide +kernel) (by decide +kernel)
theorem wd_970 : (Cond.constant RX4 60 32768 : Cond) ∈ wsG := wG 970 (by decide +kernel) (by decide +kernel)
theorem wd_971 : (Cond.methodLink RX4 61 yX4_fill : Cond) ∈ wsG := wG 971 (by decide +kernel) (by decide +kernel)
theorem wd_973 : (Cond.instanceMethod yX4_fill : Cond) ∈ wsG := wG 973 (by decide +kernel) (by decide +kernel)
theorem wd_974 : (Cond.code yX4_fill cX4_fill 6 (none : Option Jvm.ClassFile.FieldType) : Cond) ∈ wsG := wG 974 (by decide +kernel) (by decide +kernel)
theorem wd_975 : (Cond.methodLink RX4 88 ⟨"java/lang/Integer", "bitCount", "(I)I"⟩ : Cond) ∈ wsG := wG 975 (by decide +kernel) (by decide +kernel)
theorem wd_976 : (Cond.constant RX4 94 (-2147483648) : Cond) ∈ wsG := wG 976 (by decide +kernel) (by decide +kernel)
theorem wd_977 : (Cond.methodLink RX4 95 yX4_worthOf : Cond) ∈ wsG := wG 977 (by decide +kernel) (by decide +kernel)
theorem wd_979 : (Cond.instanceMethod yX4_worthOf : Cond) ∈ wsG := wG 979 (by decide +kernel) (by decide +kernel)
theorem wd_980 : (Cond.code yX4_worthOf cX4_worthOf 8 (some .int) : Cond) ∈ wsG := wG 980 (by decide +kernel) (by decide +kernel)
theorem wd_981 : (Cond.methodLink RX4 102 yX4_wayTo : Cond) ∈ wsG := wG 981 (by decide +kernel) (by decide +kernel)
theorem wd_982 : (Cond.instanceMethod yX4_wayTo : Cond) ∈ wsG := wG 982 (by decide +kernel) (by decide +kernel)
theorem wd_983 : (Cond.selects RX4 yX4_wayTo yX4_wayTo : Cond) ∈ wsG := wG 983 (by decide +kernel) (by decide +kernel)
theorem wd_984 : (Cond.code yX4_wayTo cX4_wayTo 3 (some .int) : Cond) ∈ wsG := wG 984 (by decide +kernel) (by decide +kernel)
theorem wd_985 : (Cond.methodLink RX4 99 Lib.Math.max.name : Cond) ∈ wsG := wG 985 (by decide +kernel) (by decide +kernel)
theorem wd_986 : (Cond.methodLink RX10 337 yX4_choose : Cond) ∈ wsG := wG 986 (by decide +kernel) (by decide +kernel)
theorem wd_987 : (Cond.instanceMethod yX4_choose : Cond) ∈ wsG := wG 987 (by decide +kernel) (by decide +kernel)
theorem wd_988 : (Cond.selects RX4 yX4_choose yX4_choose : Cond) ∈ wsG := wG 988 (by decide +kernel) (by decide +kernel)
theorem wd_989 : (Cond.code yX4_choose cX4_choose 7 (none : Option Jvm.ClassFile.FieldType) : Cond) ∈ wsG := wG 989 (by decide +kernel) (by decide +kernel)
theorem wd_990 : (Cond.methodLink RX4 105 yX4_firstBest : Cond) ∈ wsG := wG 990 (by decide +kernel) (by decide +kernel)
theorem wd_992 : (Cond.instanceMethod yX4_firstBest : Cond) ∈ wsG := wG 992 (by decide +kernel) (by decide +kernel)
theorem wd_993 : (Cond.code yX4_firstBest cX4_firstBest 6 (some .int) : Cond) ∈ wsG := wG 993 (by decide +kernel) (by decide +kernel)
theorem wd_994 : (Cond.methodLink RL 168 yX10_up : Cond) ∈ wsG := wG 994 (by decide +kernel) (by decide +kernel)
theorem wd_995 : (Cond.instanceMethod yX10_up : Cond) ∈ wsG := wG 995 (by decide +kernel) (by decide +kernel)
theorem wd_996 : (Cond.selects RX10 yX10_up yX10_up : Cond) ∈ wsG := wG 996 (by decide +kernel) (by decide +kernel)
theorem wd_997 : (Cond.code yX10_up cX10_up 5 (some .int) : Cond) ∈ wsG := wG 997 (by decide +kernel) (by decide +kernel)
theorem wd_998 : (Cond.methodLink RX10 354 yX9_mayMove : Cond) ∈ wsG := wG 998 (by decide +kernel) (by decide +kernel)
theorem wd_999 : (Cond.instanceMethod yX9_mayMove : Cond) ∈ wsG := wG 999 (by decide +kernel) (by decide +kernel)
theorem wd_1000 : (Cond.selects RX9 yX9_mayMove yX9_mayMove : Cond) ∈ wsG := wG 1000 (by decide +kernel) (by decide +kernel)
theorem wd_1001 : (Cond.code yX9_mayMove cX9_mayMove 1 (some .int) : Cond) ∈ wsG := wG 1001 (by decide +kernel) (by decide +kernel)
theorem wd_1002 : (Cond.methodLink RX9 46 yX2_movedLately : Cond) ∈ wsG := wG 1002 (by decide +kernel) (by decide +kernel)
theorem wd_1003 : (Cond.instanceMethod yX2_movedLately : Cond) ∈ wsG := wG 1003 (by decide +kernel) (by decide +kernel)
theorem wd_1004 : (Cond.selects RX2 yX2_movedLately yX2_movedLately : Cond) ∈ wsG := wG 1004 (by decide +kernel) (by decide +kernel)
theorem wd_1005 : (Cond.code yX2_movedLately cX2_movedLately 3 (some .int) : Cond) ∈ wsG := wG 1005 (by decide +kernel) (by decide +kernel)
theorem wd_1006 : (Cond.methodLink RX9 50 Lib.Math.max.name : Cond) ∈ wsG := wG 1006 (by decide +kernel) (by decide +kernel)
theorem wd_1007 : (Cond.methodLink RX10 360 yX4_wayTo : Cond) ∈ wsG := wG 1007 (by decide +kernel) (by decide +kernel)
theorem wd_1008 : (Cond.methodLink RX10 363 yX2_move : Cond) ∈ wsG := wG 1008 (by decide +kernel) (by decide +kernel)
theorem wd_1009 : (Cond.instanceMethod yX2_move : Cond) ∈ wsG := wG 1009 (by decide +kernel) (by decide +kernel)
theorem wd_1010 : (Cond.selects RX2 yX2_move yX2_move : Cond) ∈ wsG := wG 1010 (by decide +kernel) (by decide +kernel)
theorem wd_1011 : (Cond.code yX2_move cX2_move 4 (none : Option Jvm.ClassFile.FieldType) : Cond) ∈ wsG := wG 1011 (by decide +kernel) (by decide +kernel)
theorem wd_1012 : (Cond.methodLink RX2 64 yX2_remember : Cond) ∈ wsG := wG 1012 (by decide +kernel) (by decide +kernel)
theorem wd_1014 : (Cond.instanceMethod yX2_remember : Cond) ∈ wsG := wG 1014 (by decide +kernel) (by decide +kernel)
theorem wd_1015 : (Cond.code yX2_remember cX2_remember 1 (none : Option Jvm.ClassFile.FieldType) : Cond) ∈ wsG := wG 1015 (by decide +kernel) (by decide +kernel)
theorem wd_1016 : (Cond.methodLink RX2 58 arraycopyName : Cond) ∈ wsG := wG 1016 (by decide +kernel) (by decide +kernel)
theorem wd_1017 : (Cond.methodLink RL 172 yX10_post : Cond) ∈ wsG := wG 1017 (by decide +kernel) (by decide +kernel)
theorem wd_1018 : (Cond.instanceMethod yX10_post : Cond) ∈ wsG := wG 1018 (by decide +kernel) (by decide +kernel)
theorem wd_1019 : (Cond.selects RX10 yX10_post yX10_post : Cond) ∈ wsG := wG 1019 (by decide +kernel) (by decide +kernel)
theorem wd_1020 : (Cond.code yX10_post cX10_post 5 (some .int) : Cond) ∈ wsG := wG 1020 (by decide +kernel) (by decide +kernel)
theorem wd_1021 : (Cond.methodLink RX10 367 yX3_wayOfStations : Cond) ∈ wsG := wG 1021 (by decide +kernel) (by decide +kernel)
theorem wd_1022 : (Cond.methodLink RL 176 yX10_swap : Cond) ∈ wsG := wG 1022 (by decide +kernel) (by decide +kernel)
theorem wd_1023 : (Cond.instanceMethod yX10_swap : Cond) ∈ wsG := wG 1023 (by decide +kernel) (by decide +kernel)
theorem wd_1024 : (Cond.selects RX10 yX10_swap yX10_swap : Cond) ∈ wsG := wG 1024 (by decide +kernel) (by decide +kernel)
theorem wd_1025 : (Cond.code yX10_swap cX10_swap 6 (some .int) : Cond) ∈ wsG := wG 1025 (by decide +kernel) (by decide +kernel)
theorem wd_1026 : (Cond.methodLink RL 180 yX10_left : Cond) ∈ wsG := wG 1026 (by decide +kernel) (by decide +kernel)
theorem wd_1027 : (Cond.instanceMethod yX10_left : Cond) ∈ wsG := wG 1027 (by decide +kernel) (by decide +kernel)
theorem wd_1028 : (Cond.selects RX10 yX10_left yX10_left : Cond) ∈ wsG := wG 1028 (by decide +kernel) (by decide +kernel)
theorem wd_1029 : (Cond.code yX10_left cX10_left 2 (some .int) : Cond) ∈ wsG := wG 1029 (by decide +kernel) (by decide +kernel)
theorem wd_1030 : (Cond.methodLink RX10 370 yX2_waitForMove : Cond) ∈ wsG := wG 1030 (by decide +kernel) (by decide +kernel)
theorem wd_1031 : (Cond.instanceMethod yX2_waitForMove : Cond) ∈ wsG := wG 1031 (by decide +kernel) (by decide +kernel)
theorem wd_1032 : (Cond.selects RX2 yX2_waitForMove yX2_waitForMove : Cond) ∈ wsG := wG 1032 (by decide +kernel) (by decide +kernel)
theorem wd_1033 : (Cond.code yX2_waitForMove cX2_waitForMove 3 (some .int) : Cond) ∈ wsG := wG 1033 (by decide +kernel) (by decide +kernel)
theorem wd_1034 : (Cond.methodLink RL 184 yX10_needs : Cond) ∈ wsG := wG 1034 (by decide +kernel) (by decide +kernel)
theorem wd_1035 : (Cond.instanceMethod yX10_needs : Cond) ∈ wsG := wG 1035 (by decide +kernel) (by decide +kernel)
theorem wd_1036 : (Cond.selects RX10 yX10_needs yX10_needs : Cond) ∈ wsG := wG 1036 (by decide +kernel) (by decide +kernel)
theorem wd_1037 : (Cond.code yX10_needs cX10_needs 4 (some .int) : Cond) ∈ wsG := wG 1037 (by decide +kernel) (by decide +kernel)
theorem wd_1038 : (Cond.methodLink RL 188 yX10_keeps : Cond) ∈ wsG := wG 1038 (by decide +kernel) (by decide +kernel)
theorem wd_1039 : (Cond.instanceMethod yX10_keeps : Cond) ∈ wsG := wG 1039 (by decide +kernel) (by decide +kernel)
theorem wd_1040 : (Cond.selects RX10 yX10_keeps yX10_keeps : Cond) ∈ wsG := wG 1040 (by decide +kernel) (by decide +kernel)
theorem wd_1041 : (Cond.code yX10_keeps cX10_keeps 1 (some .int) : Cond) ∈ wsG := wG 1041 (by decide +kernel) (by decide +kernel)
theorem wd_1042 : (Cond.methodLink RX10 373 yX9_takeOver : Cond) ∈ wsG := wG 1042 (by decide +kernel) (by decide +kernel)
theorem wd_1043 : (Cond.instanceMethod yX9_takeOver : Cond) ∈ wsG := wG 1043 (by decide +kernel) (by decide +kernel)
theorem wd_1044 : (Cond.selects RX9 yX9_takeOver yX9_takeOver : Cond) ∈ wsG := wG 1044 (by decide +kernel) (by decide +kernel)
theorem wd_1045 : (Cond.code yX9_takeOver cX9_takeOver 2 (none : Option Jvm.ClassFile.FieldType) : Cond) ∈ wsG := wG 1045 (by decide +kernel) (by decide +kernel)
theorem wd_1046 : (Cond.methodLink RX9 38 yX3_takeOver : Cond) ∈ wsG := wG 1046 (by decide +kernel) (by decide +kernel)
theorem wd_1047 : (Cond.methodLink RX9 42 yX2_takeOver : Cond) ∈ wsG := wG 1047 (by decide +kernel) (by decide +kernel)
theorem wd_1048 : (Cond.instanceMethod yX2_takeOver : Cond) ∈ wsG := wG 1048 (by decide +kernel) (by decide +kernel)
theorem wd_1049 : (Cond.selects RX2 yX2_takeOver yX2_takeOver : Cond) ∈ wsG := wG 1049 (by decide +kernel) (by decide +kernel)
theorem wd_1050 : (Cond.code yX2_takeOver cX2_takeOver 2 (none : Option Jvm.ClassFile.FieldType) : Cond) ∈ wsG := wG 1050 (by decide +kernel) (by decide +kernel)
theorem wd_1051 : (Cond.methodLink RL 192 yX10_back : Cond) ∈ wsG := wG 1051 (by decide +kernel) (by decide +kernel)
theorem wd_1052 : (Cond.instanceMethod yX10_back : Cond) ∈ wsG := wG 1052 (by decide +kernel) (by decide +kernel)
theorem wd_1053 : (Cond.selects RX10 yX10_back yX10_back : Cond) ∈ wsG := wG 1053 (by decide +kernel) (by decide +kernel)
theorem wd_1054 : (Cond.code yX10_back cX10_back 1 (some .int) : Cond) ∈ wsG := wG 1054 (by decide +kernel) (by decide +kernel)
theorem wd_1055 : (Cond.methodLink RL 196 yX10_count : Cond) ∈ wsG := wG 1055 (by decide +kernel) (by decide +kernel)
theorem wd_1056 : (Cond.instanceMethod yX10_count : Cond) ∈ wsG := wG 1056 (by decide +kernel) (by decide +kernel)
theorem wd_1057 : (Cond.selects RX10 yX10_count yX10_count : Cond) ∈ wsG := wG 1057 (by decide +kernel) (by decide +kernel)
theorem wd_1058 : (Cond.code yX10_count cX10_count 2 (some .int) : Cond) ∈ wsG := wG 1058 (by decide +kernel) (by decide +kernel)
theorem wd_1059 : (Cond.methodLink RL 200 yL_row : Cond) ∈ wsG := wG 1059 (by decide +kernel) (by decide +kernel)
theorem wd_1060 : (Cond.static yL_row : Cond) ∈ wsG := wG 1060 (by decide +kernel) (by decide +kernel)
theorem wd_1062 : (Cond.classLink RL 13 "java/util/NoSuchElementException" : Cond) ∈ wsG := wG 1062 (by decide +kernel) (by decide +kernel)
theorem wd_1063 : (Cond.methodLink RL 7 yX10_row : Cond) ∈ wsG := wG 1063 (by decide +kernel) (by decide +kernel)
theorem wd_1064 : (Cond.instanceMethod yX10_row : Cond) ∈ wsG := wG 1064 (by decide +kernel) (by decide +kernel)
theorem wd_1065 : (Cond.selects RX10 yX10_row yX10_row : Cond) ∈ wsG := wG 1065 (by decide +kernel) (by decide +kernel)
theorem wd_1066 : (Cond.code yX10_row cX10_row 2 (some .long) : Cond) ∈ wsG := wG 1066 (by decide +kernel) (by decide +kernel)
theorem wd_1067 : (Cond.classLink RX10 384 "java/util/NoSuchElementException" : Cond) ∈ wsG := wG 1067 (by decide +kernel) (by decide +kernel)
theorem wd_1068 : (Cond.instantiable "java/util/NoSuchElementException" 6 : Cond) ∈ wsG := wG 1068 (by decide +kernel) (by decide +kernel)
theorem wd_1076 : (Cond.selects "java/util/NoSuchElementException" ⟨"java/lang/Throwable", "fillInStackTrace", "(I)Ljava/lang/Throwable;"⟩ ⟨"java/lang/Throwable", "fillInStackTrace", "(I)Ljava/lang/Throwable;"⟩ : Cond) ∈ wsG := wG 1076 (by decide +kernel) (by decide +kernel)
theorem wd_1077 : (Cond.selects "java/util/NoSuchElementException" ⟨"java/lang/Throwable", "fillInStackTrace", "()Ljava/lang/Throwable;"⟩ ⟨"java/lang/Throwable", "fillInStackTrace", "()Ljava/lang/Throwable;"⟩ : Cond) ∈ wsG := wG 1077 (by decide +kernel) (by decide +kernel)
theorem wd_1078 : (Cond.lays "java/util/NoSuchElementException" "java/lang/Throwable" "cause" "Ljava/lang/Throwable;" : Cond) ∈ wsG := wG 1078 (by decide +kernel) (by decide +kernel)
theorem wd_1079 : (Cond.lays "java/lang/Throwable" "java/lang/Throwable" "cause" "Ljava/lang/Throwable;" : Cond) ∈ wsG := wG 1079 (by decide +kernel) (by decide +kernel)
theorem wd_1080 : (Cond.lays "java/util/NoSuchElementException" "java/lang/Throwable" "stackTrace" "[Ljava/lang/StackTraceElement;" : Cond) ∈ wsG := wG 1080 (by decide +kernel) (by decide +kernel)
theorem wd_1081 : (Cond.lays "java/lang/Throwable" "java/lang/Throwable" "stackTrace" "[Ljava/lang/StackTraceElement;" : Cond) ∈ wsG := wG 1081 (by decide +kernel) (by decide +kernel)
theorem wd_1082 : (Cond.lays "java/util/NoSuchElementException" "java/lang/Throwable" "suppressedExceptions" "Ljava/util/List;" : Cond) ∈ wsG := wG 1082 (by decide +kernel) (by decide +kernel)
theorem wd_1083 : (Cond.lays "java/lang/Throwable" "java/lang/Throwable" "suppressedExceptions" "Ljava/util/List;" : Cond) ∈ wsG := wG 1083 (by decide +kernel) (by decide +kernel)
theorem wd_1084 : (Cond.lays "java/util/NoSuchElementException" "java/lang/Throwable" "detailMessage" "Ljava/lang/String;" : Cond) ∈ wsG := wG 1084 (by decide +kernel) (by decide +kernel)
theorem wd_1085 : (Cond.lays "java/lang/Throwable" "java/lang/Throwable" "detailMessage" "Ljava/lang/String;" : Cond) ∈ wsG := wG 1085 (by decide +kernel) (by decide +kernel)
theorem wd_1086 : (Cond.lays "java/util/NoSuchElementException" "java/lang/Throwable" "backtrace" "Ljava/lang/Object;" : Cond) ∈ wsG := wG 1086 (by decide +kernel) (by decide +kernel)
theorem wd_1087 : (Cond.lays "java/lang/Throwable" "java/lang/Throwable" "backtrace" "Ljava/lang/Object;" : Cond) ∈ wsG := wG 1087 (by decide +kernel) (by decide +kernel)
theorem wd_1088 : (Cond.fieldLink "java/lang/Throwable" 198 "java/lang/Throwable" "backtrace" "Ljava/lang/Object;" : Cond) ∈ wsG := wG 1088 (by decide +kernel) (by decide +kernel)
theorem wd_1090 : (Cond.instanceMethod ⟨"java/lang/Throwable", "<init>", "()V"⟩ : Cond) ∈ wsG := wG 1090 (by decide +kernel) (by decide +kernel)
theorem wd_1091 : (Cond.code ⟨"java/lang/Throwable", "<init>", "()V"⟩ prog_22_method_1_code 1 (none : Option Jvm.ClassFile.FieldType) : Cond) ∈ wsG := wG 1091 (by decide +kernel) (by decide +kernel)
theorem wd_1092 : (Cond.methodLink "java/lang/Throwable" 1 objectInit : Cond) ∈ wsG := wG 1092 (by decide +kernel) (by decide +kernel)
theorem wd_1093 : (Cond.fieldLink "java/lang/Throwable" 13 "java/lang/Throwable" "UNASSIGNED_STACK" "[Ljava/lang/StackTraceElement;" : Cond) ∈ wsG := wG 1093 (by decide +kernel) (by decide +kernel)
theorem wd_1095 : (Cond.fieldLink "java/lang/Throwable" 20 "java/lang/Throwable" "SUPPRESSED_SENTINEL" "Ljava/util/List;" : Cond) ∈ wsG := wG 1095 (by decide +kernel) (by decide +kernel)
theorem wd_1097 : (Cond.methodLink "java/lang/Throwable" 27 ⟨"java/lang/Throwable", "fillInStackTrace", "()Ljava/lang/Throwable;"⟩ : Cond) ∈ wsG := wG 1097 (by decide +kernel) (by decide +kernel)
theorem wd_1098 : (Cond.instanceMethod ⟨"java/lang/Throwable", "fillInStackTrace", "()Ljava/lang/Throwable;"⟩ : Cond) ∈ wsG := wG 1098 (by decide +kernel) (by decide +kernel)
theorem wd_1101 : (Cond.methodLink "java/lang/Throwable" 202 ⟨"java/lang/Throwable", "fillInStackTrace", "(I)Ljava/lang/Throwable;"⟩ : Cond) ∈ wsG := wG 1101 (by decide +kernel) (by decide +kernel)
theorem wd_1103 : (Cond.instanceMethod ⟨"java/lang/Throwable", "fillInStackTrace", "(I)Ljava/lang/Throwable;"⟩ : Cond) ∈ wsG := wG 1103 (by decide +kernel) (by decide +kernel)
theorem wd_1104 : (Cond.instantiable "java/lang/Throwable" 6 : Cond) ∈ wsG := wG 1104 (by decide +kernel) (by decide +kernel)
theorem wd_1105 : (Cond.native ⟨"java/lang/Throwable", "fillInStackTrace", "(I)Ljava/lang/Throwable;"⟩ : Cond) ∈ wsG := wG 1105 (by decide +kernel) (by decide +kernel)
theorem wd_1106 : (Cond.methodLink RX10 386 ⟨"java/util/NoSuchElementException", "<init>", "()V"⟩ : Cond) ∈ wsG := wG 1106 (by decide +kernel) (by decide +kernel)
theorem wd_1107 : (Cond.instanceMethod ⟨"java/util/NoSuchElementException", "<init>", "()V"⟩ : Cond) ∈ wsG := wG 1107 (by decide +kernel) (by decide +kernel)
theorem wd_1108 : (Cond.code ⟨"java/util/NoSuchElementException", "<init>", "()V"⟩ prog_24_method_1_code 1 (none : Option Jvm.ClassFile.FieldType) : Cond) ∈ wsG := wG 1108 (by decide +kernel) (by decide +kernel)
theorem wd_1109 : (Cond.methodLink "java/util/NoSuchElementException" 1 ⟨"java/lang/RuntimeException", "<init>", "()V"⟩ : Cond) ∈ wsG := wG 1109 (by decide +kernel) (by decide +kernel)
theorem wd_1110 : (Cond.instanceMethod ⟨"java/lang/RuntimeException", "<init>", "()V"⟩ : Cond) ∈ wsG := wG 1110 (by decide +kernel) (by decide +kernel)
theorem wd_1111 : (Cond.code ⟨"java/lang/RuntimeException", "<init>", "()V"⟩ prog_20_method_1_code 1 (none : Option Jvm.ClassFile.FieldType) : Cond) ∈ wsG := wG 1111 (by decide +kernel) (by decide +kernel)
theorem wd_1112 : (Cond.methodLink "java/lang/RuntimeException" 1 ⟨"java/lang/Exception", "<init>", "()V"⟩ : Cond) ∈ wsG := wG 1112 (by decide +kernel) (by decide +kernel)
theorem wd_1113 : (Cond.instanceMethod ⟨"java/lang/Exception", "<init>", "()V"⟩ : Cond) ∈ wsG := wG 1113 (by decide +kernel) (by decide +kernel)
theorem wd_1114 : (Cond.code ⟨"java/lang/Exception", "<init>", "()V"⟩ prog_15_method_1_code 1 (none : Option Jvm.ClassFile.FieldType) : Cond) ∈ wsG := wG 1114 (by decide +kernel) (by decide +kernel)
theorem wd_1115 : (Cond.methodLink "java/lang/Exception" 1 ⟨"java/lang/Throwable", "<init>", "()V"⟩ : Cond) ∈ wsG := wG 1115 (by decide +kernel) (by decide +kernel)
theorem wd_1116 : (Cond.fieldLink "java/lang/Throwable" 198 "java/lang/Throwable" "backtrace" "Ljava/lang/Object;" : Cond) ∈ wsG := wG 1116 (by decide +kernel) (by decide +kernel)
theorem wd_1117 : (Cond.fieldLink "java/lang/Throwable" 7 "java/lang/Throwable" "cause" "Ljava/lang/Throwable;" : Cond) ∈ wsG := wG 1117 (by decide +kernel) (by decide +kernel)
theorem wd_1118 : (Cond.fieldLink "java/lang/Throwable" 17 "java/lang/Throwable" "stackTrace" "[Ljava/lang/StackTraceElement;" : Cond) ∈ wsG := wG 1118 (by decide +kernel) (by decide +kernel)
theorem wd_1119 : (Cond.fieldLink "java/lang/Throwable" 24 "java/lang/Throwable" "suppressedExceptions" "Ljava/util/List;" : Cond) ∈ wsG := wG 1119 (by decide +kernel) (by decide +kernel)
theorem wd_1124 : (Cond.lays "java/util/NoSuchElementException" "java/lang/Throwable" "depth" "I" : Cond) ∈ wsG := wG 1124 (by decide +kernel) (by decide +kernel)
theorem wd_1128 : (Cond.classLink RL 16 "EnginesOutModel" : Cond) ∈ wsG := wG 1128 (by decide +kernel) (by decide +kernel)
theorem wd_1129 : (Cond.instantiable RX11 31 : Cond) ∈ wsG := wG 1129 (by decide +kernel) (by decide +kernel)
theorem wd_1130 : (Cond.methodLink RL 18 yX11_init : Cond) ∈ wsG := wG 1130 (by decide +kernel) (by decide +kernel)
theorem wd_1131 : (Cond.instanceMethod yX11_init : Cond) ∈ wsG := wG 1131 (by decide +kernel) (by decide +kernel)
theorem wd_1132 : (Cond.code yX11_init cX11_init 1 (none : Option Jvm.ClassFile.FieldType) : Cond) ∈ wsG := wG 1132 (by decide +kernel) (by decide +kernel)
theorem wd_1133 : (Cond.methodLink RX11 1 objectInit : Cond) ∈ wsG := wG 1133 (by decide +kernel) (by decide +kernel)
theorem wd_1134 : (Cond.fieldLink RX11 7 "EnginesOutModel" "w" "[I" : Cond) ∈ wsG := wG 1134 (by decide +kernel) (by decide +kernel)
theorem wd_1135 : (Cond.fieldLink RX11 13 "EnginesOutModel" "kept" "[I" : Cond) ∈ wsG := wG 1135 (by decide +kernel) (by decide +kernel)
theorem wd_1136 : (Cond.fieldLink RX11 133 "EnginesOutModel" "isKept" "Z" : Cond) ∈ wsG := wG 1136 (by decide +kernel) (by decide +kernel)
theorem wd_1137 : (Cond.fieldLink RX11 16 "EnginesOutModel" "text" "[B" : Cond) ∈ wsG := wG 1137 (by decide +kernel) (by decide +kernel)
theorem wd_1138 : (Cond.fieldLink RX11 55 "EnginesOutModel" "typed" "I" : Cond) ∈ wsG := wG 1138 (by decide +kernel) (by decide +kernel)
theorem wd_1139 : (Cond.fieldLink RX11 20 "EnginesOutModel" "row" "[J" : Cond) ∈ wsG := wG 1139 (by decide +kernel) (by decide +kernel)
theorem wd_1140 : (Cond.fieldLink RX11 52 "EnginesOutModel" "rowMany" "I" : Cond) ∈ wsG := wG 1140 (by decide +kernel) (by decide +kernel)
theorem wd_1141 : (Cond.fieldLink RX11 48 "EnginesOutModel" "thrown" "I" : Cond) ∈ wsG := wG 1141 (by decide +kernel) (by decide +kernel)
theorem wd_1142 : (Cond.fieldLink RX11 24 "EnginesOutModel" "read" "[I" : Cond) ∈ wsG := wG 1142 (by decide +kernel) (by decide +kernel)
theorem wd_1143 : (Cond.fieldLink RX11 67 "EnginesOutModel" "size" "I" : Cond) ∈ wsG := wG 1143 (by decide +kernel) (by decide +kernel)
theorem wd_1144 : (Cond.fieldLink RX11 64 "EnginesOutModel" "here" "I" : Cond) ∈ wsG := wG 1144 (by decide +kernel) (by decide +kernel)
theorem wd_1145 : (Cond.fieldLink RX11 70 "EnginesOutModel" "wrong" "I" : Cond) ∈ wsG := wG 1145 (by decide +kernel) (by decide +kernel)
theorem wd_1146 : (Cond.fieldLink RX11 127 "EnginesOutModel" "lines" "I" : Cond) ∈ wsG := wG 1146 (by decide +kernel) (by decide +kernel)
theorem wd_1147 : (Cond.fieldLink RX11 104 "EnginesOutModel" "hasStations" "Z" : Cond) ∈ wsG := wG 1147 (by decide +kernel) (by decide +kernel)
theorem wd_1148 : (Cond.fieldLink RX11 112 "EnginesOutModel" "hasEngines" "Z" : Cond) ∈ wsG := wG 1148 (by decide +kernel) (by decide +kernel)
theorem wd_1149 : (Cond.fieldLink RX11 101 "EnginesOutModel" "weighed" "I" : Cond) ∈ wsG := wG 1149 (by decide +kernel) (by decide +kernel)
theorem wd_1150 : (Cond.fieldLink RX11 27 "EnginesOutModel" "far" "[I" : Cond) ∈ wsG := wG 1150 (by decide +kernel) (by decide +kernel)
theorem wd_1151 : (Cond.fieldLink RX11 30 "EnginesOutModel" "reaches" "[I" : Cond) ∈ wsG := wG 1151 (by decide +kernel) (by decide +kernel)
theorem wd_1152 : (Cond.fieldLink RX11 201 "EnginesOutModel" "pairFirst" "I" : Cond) ∈ wsG := wG 1152 (by decide +kernel) (by decide +kernel)
theorem wd_1153 : (Cond.fieldLink RX11 204 "EnginesOutModel" "pairOther" "I" : Cond) ∈ wsG := wG 1153 (by decide +kernel) (by decide +kernel)
theorem wd_1154 : (Cond.fieldLink RX11 198 "EnginesOutModel" "pairLonger" "I" : Cond) ∈ wsG := wG 1154 (by decide +kernel) (by decide +kernel)
theorem wd_1155 : (Cond.fieldLink RX11 257 "EnginesOutModel" "stateOnce" "I" : Cond) ∈ wsG := wG 1155 (by decide +kernel) (by decide +kernel)
theorem wd_1156 : (Cond.fieldLink RX11 260 "EnginesOutModel" "stateTwice" "I" : Cond) ∈ wsG := wG 1156 (by decide +kernel) (by decide +kernel)
theorem wd_1157 : (Cond.fieldLink RX11 33 "EnginesOutModel" "sure" "[I" : Cond) ∈ wsG := wG 1157 (by decide +kernel) (by decide +kernel)
theorem wd_1158 : (Cond.fieldLink RX11 36 "EnginesOutModel" "tried" "[I" : Cond) ∈ wsG := wG 1158 (by decide +kernel) (by decide +kernel)
theorem wd_1159 : (Cond.fieldLink RX11 39 "EnginesOutModel" "found" "[I" : Cond) ∈ wsG := wG 1159 (by decide +kernel) (by decide +kernel)
theorem wd_1160 : (Cond.fieldLink RX11 42 "EnginesOutModel" "then" "[I" : Cond) ∈ wsG := wG 1160 (by decide +kernel) (by decide +kernel)
theorem wd_1161 : (Cond.fieldLink RX11 45 "EnginesOutModel" "bestThen" "[I" : Cond) ∈ wsG := wG 1161 (by decide +kernel) (by decide +kernel)
theorem wd_1162 : (Cond.fieldLink RX11 287 "EnginesOutModel" "bestCover" "I" : Cond) ∈ wsG := wG 1162 (by decide +kernel) (by decide +kernel)
theorem wd_1163 : (Cond.fieldLink RX11 290 "EnginesOutModel" "bestMoved" "I" : Cond) ∈ wsG := wG 1163 (by decide +kernel) (by decide +kernel)
theorem wd_1164 : (Cond.fieldLink RX11 293 "EnginesOutModel" "bestMinutes" "I" : Cond) ∈ wsG := wG 1164 (by decide +kernel) (by decide +kernel)
theorem wd_1165 : (Cond.laysFinal "EnginesOutModel" "EnginesOutModel" "w" "[I" : Cond) ∈ wsG := wG 1165 (by decide +kernel) (by decide +kernel)
theorem wd_1167 : (Cond.laysFinal "EnginesOutModel" "EnginesOutModel" "kept" "[I" : Cond) ∈ wsG := wG 1167 (by decide +kernel) (by decide +kernel)
theorem wd_1169 : (Cond.lays "EnginesOutModel" "EnginesOutModel" "isKept" "Z" : Cond) ∈ wsG := wG 1169 (by decide +kernel) (by decide +kernel)
theorem wd_1171 : (Cond.laysFinal "EnginesOutModel" "EnginesOutModel" "text" "[B" : Cond) ∈ wsG := wG 1171 (by decide +kernel) (by decide +kernel)
theorem wd_1173 : (Cond.lays "EnginesOutModel" "EnginesOutModel" "typed" "I" : Cond) ∈ wsG := wG 1173 (by decide +kernel) (by decide +kernel)
theorem wd_1175 : (Cond.laysFinal "EnginesOutModel" "EnginesOutModel" "row" "[J" : Cond) ∈ wsG := wG 1175 (by decide +kernel) (by decide +kernel)
theorem wd_1177 : (Cond.lays "EnginesOutModel" "EnginesOutModel" "rowMany" "I" : Cond) ∈ wsG := wG 1177 (by decide +kernel) (by decide +kernel)
theorem wd_1179 : (Cond.lays "EnginesOutModel" "EnginesOutModel" "thrown" "I" : Cond) ∈ wsG := wG 1179 (by decide +kernel) (by decide +kernel)
theorem wd_1181 : (Cond.laysFinal "EnginesOutModel" "EnginesOutModel" "read" "[I" : Cond) ∈ wsG := wG 1181 (by decide +kernel) (by decide +kernel)
theorem wd_1183 : (Cond.lays "EnginesOutModel" "EnginesOutModel" "size" "I" : Cond) ∈ wsG := wG 1183 (by decide +kernel) (by decide +kernel)
theorem wd_1185 : (Cond.lays "EnginesOutModel" "EnginesOutModel" "here" "I" : Cond) ∈ wsG := wG 1185 (by decide +kernel) (by decide +kernel)
theorem wd_1187 : (Cond.lays "EnginesOutModel" "EnginesOutModel" "wrong" "I" : Cond) ∈ wsG := wG 1187 (by decide +kernel) (by decide +kernel)
theorem wd_1189 : (Cond.lays "EnginesOutModel" "EnginesOutModel" "lines" "I" : Cond) ∈ wsG := wG 1189 (by decide +kernel) (by decide +kernel)
theorem wd_1191 : (Cond.lays "EnginesOutModel" "EnginesOutModel" "hasStations" "Z" : Cond) ∈ wsG := wG 1191 (by decide +kernel) (by decide +kernel)
theorem wd_1193 : (Cond.lays "EnginesOutModel" "EnginesOutModel" "hasEngines" "Z" : Cond) ∈ wsG := wG 1193 (by decide +kernel) (by decide +kernel)
theorem wd_1195 : (Cond.lays "EnginesOutModel" "EnginesOutModel" "weighed" "I" : Cond) ∈ wsG := wG 1195 (by decide +kernel) (by decide +kernel)
theorem wd_1197 : (Cond.laysFinal "EnginesOutModel" "EnginesOutModel" "far" "[I" : Cond) ∈ wsG := wG 1197 (by decide +kernel) (by decide +kernel)
theorem wd_1199 : (Cond.laysFinal "EnginesOutModel" "EnginesOutModel" "reaches" "[I" : Cond) ∈ wsG := wG 1199 (by decide +kernel) (by decide +kernel)
theorem wd_1201 : (Cond.lays "EnginesOutModel" "EnginesOutModel" "pairFirst" "I" : Cond) ∈ wsG := wG 1201 (by decide +kernel) (by decide +kernel)
theorem wd_1203 : (Cond.lays "EnginesOutModel" "EnginesOutModel" "pairOther" "I" : Cond) ∈ wsG := wG 1203 (by decide +kernel) (by decide +kernel)
theorem wd_1205 : (Cond.lays "EnginesOutModel" "EnginesOutModel" "pairLonger" "I" : Cond) ∈ wsG := wG 1205 (by decide +kernel) (by decide +kernel)
theorem wd_1207 : (Cond.lays "EnginesOutModel" "EnginesOutModel" "stateOnce" "I" : Cond) ∈ wsG := wG 1207 (by decide +kernel) (by decide +kernel)
theorem wd_1209 : (Cond.lays "EnginesOutModel" "EnginesOutModel" "stateTwice" "I" : Cond) ∈ wsG := wG 1209 (by decide +kernel) (by decide +kernel)
theorem wd_1211 : (Cond.laysFinal "EnginesOutModel" "EnginesOutModel" "sure" "[I" : Cond) ∈ wsG := wG 1211 (by decide +kernel) (by decide +kernel)
theorem wd_1213 : (Cond.laysFinal "EnginesOutModel" "EnginesOutModel" "tried" "[I" : Cond) ∈ wsG := wG 1213 (by decide +kernel) (by decide +kernel)
theorem wd_1215 : (Cond.laysFinal "EnginesOutModel" "EnginesOutModel" "found" "[I" : Cond) ∈ wsG := wG 1215 (by decide +kernel) (by decide +kernel)
theorem wd_1217 : (Cond.laysFinal "EnginesOutModel" "EnginesOutModel" "then" "[I" : Cond) ∈ wsG := wG 1217 (by decide +kernel) (by decide +kernel)
theorem wd_1219 : (Cond.laysFinal "EnginesOutModel" "EnginesOutModel" "bestThen" "[I" : Cond) ∈ wsG := wG 1219 (by decide +kernel) (by decide +kernel)
theorem wd_1221 : (Cond.lays "EnginesOutModel" "EnginesOutModel" "bestCover" "I" : Cond) ∈ wsG := wG 1221 (by decide +kernel) (by decide +kernel)
theorem wd_1223 : (Cond.lays "EnginesOutModel" "EnginesOutModel" "bestMoved" "I" : Cond) ∈ wsG := wG 1223 (by decide +kernel) (by decide +kernel)
theorem wd_1225 : (Cond.lays "EnginesOutModel" "EnginesOutModel" "bestMinutes" "I" : Cond) ∈ wsG := wG 1225 (by decide +kernel) (by decide +kernel)
theorem wd_1228 : (Cond.arrayClass .byte : Cond) ∈ wsG := wG 1228 (by decide +kernel) (by decide +kernel)
theorem wd_1229 : (Cond.methodLink RL 206 yX11_thrown : Cond) ∈ wsG := wG 1229 (by decide +kernel) (by decide +kernel)
theorem wd_1230 : (Cond.instanceMethod yX11_thrown : Cond) ∈ wsG := wG 1230 (by decide +kernel) (by decide +kernel)
theorem wd_1231 : (Cond.selects RX11 yX11_thrown yX11_thrown : Cond) ∈ wsG := wG 1231 (by decide +kernel) (by decide +kernel)
theorem wd_1232 : (Cond.code yX11_thrown cX11_thrown 1 (some .int) : Cond) ∈ wsG := wG 1232 (by decide +kernel) (by decide +kernel)
theorem wd_1233 : (Cond.methodLink RL 23 yX11_sign : Cond) ∈ wsG := wG 1233 (by decide +kernel) (by decide +kernel)
theorem wd_1234 : (Cond.instanceMethod yX11_sign : Cond) ∈ wsG := wG 1234 (by decide +kernel) (by decide +kernel)
theorem wd_1235 : (Cond.selects RX11 yX11_sign yX11_sign : Cond) ∈ wsG := wG 1235 (by decide +kernel) (by decide +kernel)
theorem wd_1236 : (Cond.code yX11_sign cX11_sign 3 (some .int) : Cond) ∈ wsG := wG 1236 (by decide +kernel) (by decide +kernel)
theorem wd_1237 : (Cond.methodLink RL 28 yX11_end : Cond) ∈ wsG := wG 1237 (by decide +kernel) (by decide +kernel)
theorem wd_1238 : (Cond.instanceMethod yX11_end : Cond) ∈ wsG := wG 1238 (by decide +kernel) (by decide +kernel)
theorem wd_1239 : (Cond.selects RX11 yX11_end yX11_end : Cond) ∈ wsG := wG 1239 (by decide +kernel) (by decide +kernel)
theorem wd_1240 : (Cond.code yX11_end cX11_end 2 (some .boolean) : Cond) ∈ wsG := wG 1240 (by decide +kernel) (by decide +kernel)
theorem wd_1241 : (Cond.methodLink RX11 58 yX11_in : Cond) ∈ wsG := wG 1241 (by decide +kernel) (by decide +kernel)
theorem wd_1242 : (Cond.static yX11_in : Cond) ∈ wsG := wG 1242 (by decide +kernel) (by decide +kernel)
theorem wd_1243 : (Cond.code yX11_in cX11_in 6 (some .boolean) : Cond) ∈ wsG := wG 1243 (by decide +kernel) (by decide +kernel)
theorem wd_1244 : (Cond.methodLink RL 33 yX11_land : Cond) ∈ wsG := wG 1244 (by decide +kernel) (by decide +kernel)
theorem wd_1245 : (Cond.instanceMethod yX11_land : Cond) ∈ wsG := wG 1245 (by decide +kernel) (by decide +kernel)
theorem wd_1246 : (Cond.selects RX11 yX11_land yX11_land : Cond) ∈ wsG := wG 1246 (by decide +kernel) (by decide +kernel)
theorem wd_1247 : (Cond.code yX11_land cX11_land 2 (some .int) : Cond) ∈ wsG := wG 1247 (by decide +kernel) (by decide +kernel)
theorem wd_1248 : (Cond.methodLink RX11 130 yX11_readsLine : Cond) ∈ wsG := wG 1248 (by decide +kernel) (by decide +kernel)
theorem wd_1250 : (Cond.instanceMethod yX11_readsLine : Cond) ∈ wsG := wG 1250 (by decide +kernel) (by decide +kernel)
theorem wd_1251 : (Cond.code yX11_readsLine cX11_readsLine 1 (none : Option Jvm.ClassFile.FieldType) : Cond) ∈ wsG := wG 1251 (by decide +kernel) (by decide +kernel)
theorem wd_1252 : (Cond.methodLink RX11 73 yX11_sees : Cond) ∈ wsG := wG 1252 (by decide +kernel) (by decide +kernel)
theorem wd_1254 : (Cond.instanceMethod yX11_sees : Cond) ∈ wsG := wG 1254 (by decide +kernel) (by decide +kernel)
theorem wd_1255 : (Cond.code yX11_sees cX11_sees 1 (some .int) : Cond) ∈ wsG := wG 1255 (by decide +kernel) (by decide +kernel)
theorem wd_1256 : (Cond.methodLink RX11 115 yX11_readsRoad : Cond) ∈ wsG := wG 1256 (by decide +kernel) (by decide +kernel)
theorem wd_1258 : (Cond.instanceMethod yX11_readsRoad : Cond) ∈ wsG := wG 1258 (by decide +kernel) (by decide +kernel)
theorem wd_1259 : (Cond.code yX11_readsRoad cX11_readsRoad 4 (none : Option Jvm.ClassFile.FieldType) : Cond) ∈ wsG := wG 1259 (by decide +kernel) (by decide +kernel)
theorem wd_1260 : (Cond.methodLink RX11 85 yX11_number : Cond) ∈ wsG := wG 1260 (by decide +kernel) (by decide +kernel)
theorem wd_1262 : (Cond.instanceMethod yX11_number : Cond) ∈ wsG := wG 1262 (by decide +kernel) (by decide +kernel)
theorem wd_1263 : (Cond.code yX11_number cX11_number 5 (some .int) : Cond) ∈ wsG := wG 1263 (by decide +kernel) (by decide +kernel)
theorem wd_1264 : (Cond.constantLong RX11 81 48 : Cond) ∈ wsG := wG 1264 (by decide +kernel) (by decide +kernel)
theorem wd_1265 : (Cond.constantLong RX11 83 57 : Cond) ∈ wsG := wG 1265 (by decide +kernel) (by decide +kernel)
theorem wd_1266 : (Cond.methodLink RX11 77 yX11_fault : Cond) ∈ wsG := wG 1266 (by decide +kernel) (by decide +kernel)
theorem wd_1268 : (Cond.instanceMethod yX11_fault : Cond) ∈ wsG := wG 1268 (by decide +kernel) (by decide +kernel)
theorem wd_1269 : (Cond.code yX11_fault cX11_fault 2 (none : Option Jvm.ClassFile.FieldType) : Cond) ∈ wsG := wG 1269 (by decide +kernel) (by decide +kernel)
theorem wd_1270 : (Cond.methodLink RX11 89 yX11_expect : Cond) ∈ wsG := wG 1270 (by decide +kernel) (by decide +kernel)
theorem wd_1272 : (Cond.instanceMethod yX11_expect : Cond) ∈ wsG := wG 1272 (by decide +kernel) (by decide +kernel)
theorem wd_1273 : (Cond.code yX11_expect cX11_expect 2 (none : Option Jvm.ClassFile.FieldType) : Cond) ∈ wsG := wG 1273 (by decide +kernel) (by decide +kernel)
theorem wd_1274 : (Cond.methodLink RX11 93 Lib.Math.min.name : Cond) ∈ wsG := wG 1274 (by decide +kernel) (by decide +kernel)
theorem wd_1275 : (Cond.methodLink RX11 98 Lib.Math.max.name : Cond) ∈ wsG := wG 1275 (by decide +kernel) (by decide +kernel)
theorem wd_1276 : (Cond.methodLink RX11 118 yX11_readsWeight : Cond) ∈ wsG := wG 1276 (by decide +kernel) (by decide +kernel)
theorem wd_1278 : (Cond.instanceMethod yX11_readsWeight : Cond) ∈ wsG := wG 1278 (by decide +kernel) (by decide +kernel)
theorem wd_1279 : (Cond.code yX11_readsWeight cX11_readsWeight 3 (none : Option Jvm.ClassFile.FieldType) : Cond) ∈ wsG := wG 1279 (by decide +kernel) (by decide +kernel)
theorem wd_1280 : (Cond.methodLink RX11 121 yX11_readsStations : Cond) ∈ wsG := wG 1280 (by decide +kernel) (by decide +kernel)
theorem wd_1282 : (Cond.instanceMethod yX11_readsStations : Cond) ∈ wsG := wG 1282 (by decide +kernel) (by decide +kernel)
theorem wd_1283 : (Cond.code yX11_readsStations cX11_readsStations 2 (none : Option Jvm.ClassFile.FieldType) : Cond) ∈ wsG := wG 1283 (by decide +kernel) (by decide +kernel)
theorem wd_1284 : (Cond.methodLink RX11 108 yX11_isToldStation : Cond) ∈ wsG := wG 1284 (by decide +kernel) (by decide +kernel)
theorem wd_1286 : (Cond.instanceMethod yX11_isToldStation : Cond) ∈ wsG := wG 1286 (by decide +kernel) (by decide +kernel)
theorem wd_1287 : (Cond.code yX11_isToldStation cX11_isToldStation 3 (some .boolean) : Cond) ∈ wsG := wG 1287 (by decide +kernel) (by decide +kernel)
theorem wd_1288 : (Cond.methodLink RX11 124 yX11_readsEngines : Cond) ∈ wsG := wG 1288 (by decide +kernel) (by decide +kernel)
theorem wd_1290 : (Cond.instanceMethod yX11_readsEngines : Cond) ∈ wsG := wG 1290 (by decide +kernel) (by decide +kernel)
theorem wd_1291 : (Cond.code yX11_readsEngines cX11_readsEngines 2 (none : Option Jvm.ClassFile.FieldType) : Cond) ∈ wsG := wG 1291 (by decide +kernel) (by decide +kernel)
theorem wd_1292 : (Cond.methodLink RL 37 yX11_reach : Cond) ∈ wsG := wG 1292 (by decide +kernel) (by decide +kernel)
theorem wd_1293 : (Cond.instanceMethod yX11_reach : Cond) ∈ wsG := wG 1293 (by decide +kernel) (by decide +kernel)
theorem wd_1294 : (Cond.selects RX11 yX11_reach yX11_reach : Cond) ∈ wsG := wG 1294 (by decide +kernel) (by decide +kernel)
theorem wd_1295 : (Cond.code yX11_reach cX11_reach 2 (some .int) : Cond) ∈ wsG := wG 1295 (by decide +kernel) (by decide +kernel)
theorem wd_1296 : (Cond.methodLink RX11 136 yX11_sets : Cond) ∈ wsG := wG 1296 (by decide +kernel) (by decide +kernel)
theorem wd_1298 : (Cond.instanceMethod yX11_sets : Cond) ∈ wsG := wG 1298 (by decide +kernel) (by decide +kernel)
theorem wd_1299 : (Cond.code yX11_sets cX11_sets 6 (some .int) : Cond) ∈ wsG := wG 1299 (by decide +kernel) (by decide +kernel)
theorem wd_1300 : (Cond.methodLink RL 41 yX11_service : Cond) ∈ wsG := wG 1300 (by decide +kernel) (by decide +kernel)
theorem wd_1301 : (Cond.instanceMethod yX11_service : Cond) ∈ wsG := wG 1301 (by decide +kernel) (by decide +kernel)
theorem wd_1302 : (Cond.selects RX11 yX11_service yX11_service : Cond) ∈ wsG := wG 1302 (by decide +kernel) (by decide +kernel)
theorem wd_1303 : (Cond.code yX11_service cX11_service 2 (some .int) : Cond) ∈ wsG := wG 1303 (by decide +kernel) (by decide +kernel)
theorem wd_1304 : (Cond.methodLink RL 45 yX11_limit : Cond) ∈ wsG := wG 1304 (by decide +kernel) (by decide +kernel)
theorem wd_1305 : (Cond.instanceMethod yX11_limit : Cond) ∈ wsG := wG 1305 (by decide +kernel) (by decide +kernel)
theorem wd_1306 : (Cond.selects RX11 yX11_limit yX11_limit : Cond) ∈ wsG := wG 1306 (by decide +kernel) (by decide +kernel)
theorem wd_1307 : (Cond.code yX11_limit cX11_limit 2 (some .int) : Cond) ∈ wsG := wG 1307 (by decide +kernel) (by decide +kernel)
theorem wd_1308 : (Cond.methodLink RL 50 yX11_shuts : Cond) ∈ wsG := wG 1308 (by decide +kernel) (by decide +kernel)
theorem wd_1309 : (Cond.instanceMethod yX11_shuts : Cond) ∈ wsG := wG 1309 (by decide +kernel) (by decide +kernel)
theorem wd_1310 : (Cond.selects RX11 yX11_shuts yX11_shuts : Cond) ∈ wsG := wG 1310 (by decide +kernel) (by decide +kernel)
theorem wd_1311 : (Cond.code yX11_shuts cX11_shuts 4 (some .int) : Cond) ∈ wsG := wG 1311 (by decide +kernel) (by decide +kernel)
theorem wd_1312 : (Cond.methodLink RX11 144 yX11_isNode : Cond) ∈ wsG := wG 1312 (by decide +kernel) (by decide +kernel)
theorem wd_1313 : (Cond.static yX11_isNode : Cond) ∈ wsG := wG 1313 (by decide +kernel) (by decide +kernel)
theorem wd_1314 : (Cond.code yX11_isNode cX11_isNode 1 (some .boolean) : Cond) ∈ wsG := wG 1314 (by decide +kernel) (by decide +kernel)
theorem wd_1315 : (Cond.constantLong RX11 62 11 : Cond) ∈ wsG := wG 1315 (by decide +kernel) (by decide +kernel)
theorem wd_1316 : (Cond.methodLink RX11 147 yX11_setsShut : Cond) ∈ wsG := wG 1316 (by decide +kernel) (by decide +kernel)
theorem wd_1318 : (Cond.instanceMethod yX11_setsShut : Cond) ∈ wsG := wG 1318 (by decide +kernel) (by decide +kernel)
theorem wd_1319 : (Cond.code yX11_setsShut cX11_setsShut 4 (none : Option Jvm.ClassFile.FieldType) : Cond) ∈ wsG := wG 1319 (by decide +kernel) (by decide +kernel)
theorem wd_1320 : (Cond.methodLink RX11 151 yX11_shutMany : Cond) ∈ wsG := wG 1320 (by decide +kernel) (by decide +kernel)
theorem wd_1322 : (Cond.instanceMethod yX11_shutMany : Cond) ∈ wsG := wG 1322 (by decide +kernel) (by decide +kernel)
theorem wd_1323 : (Cond.code yX11_shutMany cX11_shutMany 4 (some .int) : Cond) ∈ wsG := wG 1323 (by decide +kernel) (by decide +kernel)
theorem wd_1324 : (Cond.methodLink RL 55 yX11_far : Cond) ∈ wsG := wG 1324 (by decide +kernel) (by decide +kernel)
theorem wd_1325 : (Cond.instanceMethod yX11_far : Cond) ∈ wsG := wG 1325 (by decide +kernel) (by decide +kernel)
theorem wd_1326 : (Cond.selects RX11 yX11_far yX11_far : Cond) ∈ wsG := wG 1326 (by decide +kernel) (by decide +kernel)
theorem wd_1327 : (Cond.code yX11_far cX11_far 3 (some .int) : Cond) ∈ wsG := wG 1327 (by decide +kernel) (by decide +kernel)
theorem wd_1328 : (Cond.methodLink RX11 154 yX11_laysFar : Cond) ∈ wsG := wG 1328 (by decide +kernel) (by decide +kernel)
theorem wd_1330 : (Cond.instanceMethod yX11_laysFar : Cond) ∈ wsG := wG 1330 (by decide +kernel) (by decide +kernel)
theorem wd_1331 : (Cond.code yX11_laysFar cX11_laysFar 5 (none : Option Jvm.ClassFile.FieldType) : Cond) ∈ wsG := wG 1331 (by decide +kernel) (by decide +kernel)
theorem wd_1332 : (Cond.methodLink RX11 140 yX11_isOpen : Cond) ∈ wsG := wG 1332 (by decide +kernel) (by decide +kernel)
theorem wd_1334 : (Cond.instanceMethod yX11_isOpen : Cond) ∈ wsG := wG 1334 (by decide +kernel) (by decide +kernel)
theorem wd_1335 : (Cond.code yX11_isOpen cX11_isOpen 3 (some .boolean) : Cond) ∈ wsG := wG 1335 (by decide +kernel) (by decide +kernel)
theorem wd_1336 : (Cond.methodLink RX11 157 yX11_farOf : Cond) ∈ wsG := wG 1336 (by decide +kernel) (by decide +kernel)
theorem wd_1338 : (Cond.instanceMethod yX11_farOf : Cond) ∈ wsG := wG 1338 (by decide +kernel) (by decide +kernel)
theorem wd_1339 : (Cond.code yX11_farOf cX11_farOf 3 (some .int) : Cond) ∈ wsG := wG 1339 (by decide +kernel) (by decide +kernel)
theorem wd_1340 : (Cond.methodLink RL 59 yX11_reached : Cond) ∈ wsG := wG 1340 (by decide +kernel) (by decide +kernel)
theorem wd_1341 : (Cond.instanceMethod yX11_reached : Cond) ∈ wsG := wG 1341 (by decide +kernel) (by decide +kernel)
theorem wd_1342 : (Cond.selects RX11 yX11_reached yX11_reached : Cond) ∈ wsG := wG 1342 (by decide +kernel) (by decide +kernel)
theorem wd_1343 : (Cond.code yX11_reached cX11_reached 2 (some .int) : Cond) ∈ wsG := wG 1343 (by decide +kernel) (by decide +kernel)
theorem wd_1344 : (Cond.methodLink RX11 160 yX11_isStation : Cond) ∈ wsG := wG 1344 (by decide +kernel) (by decide +kernel)
theorem wd_1346 : (Cond.instanceMethod yX11_isStation : Cond) ∈ wsG := wG 1346 (by decide +kernel) (by decide +kernel)
theorem wd_1347 : (Cond.code yX11_isStation cX11_isStation 2 (some .boolean) : Cond) ∈ wsG := wG 1347 (by decide +kernel) (by decide +kernel)
theorem wd_1348 : (Cond.methodLink RX11 163 yX11_lays : Cond) ∈ wsG := wG 1348 (by decide +kernel) (by decide +kernel)
theorem wd_1350 : (Cond.instanceMethod yX11_lays : Cond) ∈ wsG := wG 1350 (by decide +kernel) (by decide +kernel)
theorem wd_1351 : (Cond.code yX11_lays cX11_lays 3 (none : Option Jvm.ClassFile.FieldType) : Cond) ∈ wsG := wG 1351 (by decide +kernel) (by decide +kernel)
theorem wd_1352 : (Cond.methodLink RX11 166 yX11_weightOf : Cond) ∈ wsG := wG 1352 (by decide +kernel) (by decide +kernel)
theorem wd_1354 : (Cond.instanceMethod yX11_weightOf : Cond) ∈ wsG := wG 1354 (by decide +kernel) (by decide +kernel)
theorem wd_1355 : (Cond.code yX11_weightOf cX11_weightOf 4 (some .int) : Cond) ∈ wsG := wG 1355 (by decide +kernel) (by decide +kernel)
theorem wd_1356 : (Cond.methodLink RX11 170 yX11_tell : Cond) ∈ wsG := wG 1356 (by decide +kernel) (by decide +kernel)
theorem wd_1358 : (Cond.instanceMethod yX11_tell : Cond) ∈ wsG := wG 1358 (by decide +kernel) (by decide +kernel)
theorem wd_1359 : (Cond.code yX11_tell cX11_tell 3 (none : Option Jvm.ClassFile.FieldType) : Cond) ∈ wsG := wG 1359 (by decide +kernel) (by decide +kernel)
theorem wd_1360 : (Cond.methodLink RL 63 yX11_node : Cond) ∈ wsG := wG 1360 (by decide +kernel) (by decide +kernel)
theorem wd_1361 : (Cond.instanceMethod yX11_node : Cond) ∈ wsG := wG 1361 (by decide +kernel) (by decide +kernel)
theorem wd_1362 : (Cond.selects RX11 yX11_node yX11_node : Cond) ∈ wsG := wG 1362 (by decide +kernel) (by decide +kernel)
theorem wd_1363 : (Cond.code yX11_node cX11_node 3 (some .int) : Cond) ∈ wsG := wG 1363 (by decide +kernel) (by decide +kernel)
theorem wd_1364 : (Cond.methodLink RX11 180 yX11_readyFor : Cond) ∈ wsG := wG 1364 (by decide +kernel) (by decide +kernel)
theorem wd_1366 : (Cond.instanceMethod yX11_readyFor : Cond) ∈ wsG := wG 1366 (by decide +kernel) (by decide +kernel)
theorem wd_1367 : (Cond.code yX11_readyFor cX11_readyFor 4 (some .int) : Cond) ∈ wsG := wG 1367 (by decide +kernel) (by decide +kernel)
theorem wd_1368 : (Cond.methodLink RX11 174 yX11_isReady : Cond) ∈ wsG := wG 1368 (by decide +kernel) (by decide +kernel)
theorem wd_1370 : (Cond.instanceMethod yX11_isReady : Cond) ∈ wsG := wG 1370 (by decide +kernel) (by decide +kernel)
theorem wd_1371 : (Cond.code yX11_isReady cX11_isReady 2 (some .boolean) : Cond) ∈ wsG := wG 1371 (by decide +kernel) (by decide +kernel)
theorem wd_1372 : (Cond.methodLink RX11 183 yX11_nearestStation : Cond) ∈ wsG := wG 1372 (by decide +kernel) (by decide +kernel)
theorem wd_1374 : (Cond.instanceMethod yX11_nearestStation : Cond) ∈ wsG := wG 1374 (by decide +kernel) (by decide +kernel)
theorem wd_1375 : (Cond.code yX11_nearestStation cX11_nearestStation 5 (some .int) : Cond) ∈ wsG := wG 1375 (by decide +kernel) (by decide +kernel)
theorem wd_1376 : (Cond.methodLink RX11 186 yX11_goer : Cond) ∈ wsG := wG 1376 (by decide +kernel) (by decide +kernel)
theorem wd_1378 : (Cond.instanceMethod yX11_goer : Cond) ∈ wsG := wG 1378 (by decide +kernel) (by decide +kernel)
theorem wd_1379 : (Cond.code yX11_goer cX11_goer 4 (some .int) : Cond) ∈ wsG := wG 1379 (by decide +kernel) (by decide +kernel)
theorem wd_1380 : (Cond.methodLink RX11 177 yX11_wayOf : Cond) ∈ wsG := wG 1380 (by decide +kernel) (by decide +kernel)
theorem wd_1382 : (Cond.instanceMethod yX11_wayOf : Cond) ∈ wsG := wG 1382 (by decide +kernel) (by decide +kernel)
theorem wd_1383 : (Cond.code yX11_wayOf cX11_wayOf 3 (some .int) : Cond) ∈ wsG := wG 1383 (by decide +kernel) (by decide +kernel)
theorem wd_1384 : (Cond.methodLink RL 67 yX11_engine : Cond) ∈ wsG := wG 1384 (by decide +kernel) (by decide +kernel)
theorem wd_1385 : (Cond.instanceMethod yX11_engine : Cond) ∈ wsG := wG 1385 (by decide +kernel) (by decide +kernel)
theorem wd_1386 : (Cond.selects RX11 yX11_engine yX11_engine : Cond) ∈ wsG := wG 1386 (by decide +kernel) (by decide +kernel)
theorem wd_1387 : (Cond.code yX11_engine cX11_engine 3 (some .int) : Cond) ∈ wsG := wG 1387 (by decide +kernel) (by decide +kernel)
theorem wd_1388 : (Cond.methodLink RX11 189 yX11_isEngine : Cond) ∈ wsG := wG 1388 (by decide +kernel) (by decide +kernel)
theorem wd_1390 : (Cond.instanceMethod yX11_isEngine : Cond) ∈ wsG := wG 1390 (by decide +kernel) (by decide +kernel)
theorem wd_1391 : (Cond.code yX11_isEngine cX11_isEngine 2 (some .boolean) : Cond) ∈ wsG := wG 1391 (by decide +kernel) (by decide +kernel)
theorem wd_1392 : (Cond.methodLink RL 71 yX11_station : Cond) ∈ wsG := wG 1392 (by decide +kernel) (by decide +kernel)
theorem wd_1393 : (Cond.instanceMethod yX11_station : Cond) ∈ wsG := wG 1393 (by decide +kernel) (by decide +kernel)
theorem wd_1394 : (Cond.selects RX11 yX11_station yX11_station : Cond) ∈ wsG := wG 1394 (by decide +kernel) (by decide +kernel)
theorem wd_1395 : (Cond.code yX11_station cX11_station 2 (some .int) : Cond) ∈ wsG := wG 1395 (by decide +kernel) (by decide +kernel)
theorem wd_1396 : (Cond.methodLink RL 75 yX11_call : Cond) ∈ wsG := wG 1396 (by decide +kernel) (by decide +kernel)
theorem wd_1397 : (Cond.instanceMethod yX11_call : Cond) ∈ wsG := wG 1397 (by decide +kernel) (by decide +kernel)
theorem wd_1398 : (Cond.selects RX11 yX11_call yX11_call : Cond) ∈ wsG := wG 1398 (by decide +kernel) (by decide +kernel)
theorem wd_1399 : (Cond.code yX11_call cX11_call 3 (some .int) : Cond) ∈ wsG := wG 1399 (by decide +kernel) (by decide +kernel)
theorem wd_1400 : (Cond.methodLink RX11 192 yX11_calls : Cond) ∈ wsG := wG 1400 (by decide +kernel) (by decide +kernel)
theorem wd_1402 : (Cond.instanceMethod yX11_calls : Cond) ∈ wsG := wG 1402 (by decide +kernel) (by decide +kernel)
theorem wd_1403 : (Cond.code yX11_calls cX11_calls 4 (some .int) : Cond) ∈ wsG := wG 1403 (by decide +kernel) (by decide +kernel)
theorem wd_1404 : (Cond.methodLink RL 79 yX11_pair : Cond) ∈ wsG := wG 1404 (by decide +kernel) (by decide +kernel)
theorem wd_1405 : (Cond.instanceMethod yX11_pair : Cond) ∈ wsG := wG 1405 (by decide +kernel) (by decide +kernel)
theorem wd_1406 : (Cond.selects RX11 yX11_pair yX11_pair : Cond) ∈ wsG := wG 1406 (by decide +kernel) (by decide +kernel)
theorem wd_1407 : (Cond.code yX11_pair cX11_pair 4 (some .int) : Cond) ∈ wsG := wG 1407 (by decide +kernel) (by decide +kernel)
theorem wd_1408 : (Cond.methodLink RX11 207 yX11_pairOf : Cond) ∈ wsG := wG 1408 (by decide +kernel) (by decide +kernel)
theorem wd_1410 : (Cond.instanceMethod yX11_pairOf : Cond) ∈ wsG := wG 1410 (by decide +kernel) (by decide +kernel)
theorem wd_1411 : (Cond.code yX11_pairOf cX11_pairOf 8 (some .int) : Cond) ∈ wsG := wG 1411 (by decide +kernel) (by decide +kernel)
theorem wd_1412 : (Cond.methodLink RX11 195 yX11_canGo : Cond) ∈ wsG := wG 1412 (by decide +kernel) (by decide +kernel)
theorem wd_1414 : (Cond.instanceMethod yX11_canGo : Cond) ∈ wsG := wG 1414 (by decide +kernel) (by decide +kernel)
theorem wd_1415 : (Cond.code yX11_canGo cX11_canGo 3 (some .boolean) : Cond) ∈ wsG := wG 1415 (by decide +kernel) (by decide +kernel)
theorem wd_1416 : (Cond.methodLink RL 83 yX11_worstPair : Cond) ∈ wsG := wG 1416 (by decide +kernel) (by decide +kernel)
theorem wd_1417 : (Cond.instanceMethod yX11_worstPair : Cond) ∈ wsG := wG 1417 (by decide +kernel) (by decide +kernel)
theorem wd_1418 : (Cond.selects RX11 yX11_worstPair yX11_worstPair : Cond) ∈ wsG := wG 1418 (by decide +kernel) (by decide +kernel)
theorem wd_1419 : (Cond.code yX11_worstPair cX11_worstPair 7 (some .int) : Cond) ∈ wsG := wG 1419 (by decide +kernel) (by decide +kernel)
theorem wd_1420 : (Cond.methodLink RL 87 yX11_pass : Cond) ∈ wsG := wG 1420 (by decide +kernel) (by decide +kernel)
theorem wd_1421 : (Cond.instanceMethod yX11_pass : Cond) ∈ wsG := wG 1421 (by decide +kernel) (by decide +kernel)
theorem wd_1422 : (Cond.selects RX11 yX11_pass yX11_pass : Cond) ∈ wsG := wG 1422 (by decide +kernel) (by decide +kernel)
theorem wd_1423 : (Cond.code yX11_pass cX11_pass 4 (some .int) : Cond) ∈ wsG := wG 1423 (by decide +kernel) (by decide +kernel)
theorem wd_1424 : (Cond.constantLong RX11 210 600 : Cond) ∈ wsG := wG 1424 (by decide +kernel) (by decide +kernel)
theorem wd_1425 : (Cond.methodLink RX11 212 yX11_passesOne : Cond) ∈ wsG := wG 1425 (by decide +kernel) (by decide +kernel)
theorem wd_1427 : (Cond.instanceMethod yX11_passesOne : Cond) ∈ wsG := wG 1427 (by decide +kernel) (by decide +kernel)
theorem wd_1428 : (Cond.code yX11_passesOne cX11_passesOne 3 (some .int) : Cond) ∈ wsG := wG 1428 (by decide +kernel) (by decide +kernel)
theorem wd_1429 : (Cond.methodLink RL 91 yX11_seed : Cond) ∈ wsG := wG 1429 (by decide +kernel) (by decide +kernel)
theorem wd_1430 : (Cond.instanceMethod yX11_seed : Cond) ∈ wsG := wG 1430 (by decide +kernel) (by decide +kernel)
theorem wd_1431 : (Cond.selects RX11 yX11_seed yX11_seed : Cond) ∈ wsG := wG 1431 (by decide +kernel) (by decide +kernel)
theorem wd_1432 : (Cond.code yX11_seed cX11_seed 3 (some .int) : Cond) ∈ wsG := wG 1432 (by decide +kernel) (by decide +kernel)
theorem wd_1433 : (Cond.methodLink RL 95 yX11_storms : Cond) ∈ wsG := wG 1433 (by decide +kernel) (by decide +kernel)
theorem wd_1434 : (Cond.instanceMethod yX11_storms : Cond) ∈ wsG := wG 1434 (by decide +kernel) (by decide +kernel)
theorem wd_1435 : (Cond.selects RX11 yX11_storms yX11_storms : Cond) ∈ wsG := wG 1435 (by decide +kernel) (by decide +kernel)
theorem wd_1436 : (Cond.code yX11_storms cX11_storms 7 (some .int) : Cond) ∈ wsG := wG 1436 (by decide +kernel) (by decide +kernel)
theorem wd_1437 : (Cond.constantLong RX11 216 1000 : Cond) ∈ wsG := wG 1437 (by decide +kernel) (by decide +kernel)
theorem wd_1438 : (Cond.methodLink RX11 218 yX11_draw : Cond) ∈ wsG := wG 1438 (by decide +kernel) (by decide +kernel)
theorem wd_1440 : (Cond.instanceMethod yX11_draw : Cond) ∈ wsG := wG 1440 (by decide +kernel) (by decide +kernel)
theorem wd_1441 : (Cond.code yX11_draw cX11_draw 2 (some .int) : Cond) ∈ wsG := wG 1441 (by decide +kernel) (by decide +kernel)
theorem wd_1442 : (Cond.constant RX11 215 1103515245 : Cond) ∈ wsG := wG 1442 (by decide +kernel) (by decide +kernel)
theorem wd_1443 : (Cond.methodLink RX11 221 yX11_allWeights : Cond) ∈ wsG := wG 1443 (by decide +kernel) (by decide +kernel)
theorem wd_1445 : (Cond.instanceMethod yX11_allWeights : Cond) ∈ wsG := wG 1445 (by decide +kernel) (by decide +kernel)
theorem wd_1446 : (Cond.code yX11_allWeights cX11_allWeights 1 (some .int) : Cond) ∈ wsG := wG 1446 (by decide +kernel) (by decide +kernel)
theorem wd_1447 : (Cond.methodLink RX11 224 yX11_nodeAt : Cond) ∈ wsG := wG 1447 (by decide +kernel) (by decide +kernel)
theorem wd_1449 : (Cond.instanceMethod yX11_nodeAt : Cond) ∈ wsG := wG 1449 (by decide +kernel) (by decide +kernel)
theorem wd_1450 : (Cond.code yX11_nodeAt cX11_nodeAt 4 (some .int) : Cond) ∈ wsG := wG 1450 (by decide +kernel) (by decide +kernel)
theorem wd_1451 : (Cond.methodLink RL 99 yX11_cover : Cond) ∈ wsG := wG 1451 (by decide +kernel) (by decide +kernel)
theorem wd_1452 : (Cond.instanceMethod yX11_cover : Cond) ∈ wsG := wG 1452 (by decide +kernel) (by decide +kernel)
theorem wd_1453 : (Cond.selects RX11 yX11_cover yX11_cover : Cond) ∈ wsG := wG 1453 (by decide +kernel) (by decide +kernel)
theorem wd_1454 : (Cond.code yX11_cover cX11_cover 1 (some .int) : Cond) ∈ wsG := wG 1454 (by decide +kernel) (by decide +kernel)
theorem wd_1455 : (Cond.methodLink RX11 227 yX11_twiceNow : Cond) ∈ wsG := wG 1455 (by decide +kernel) (by decide +kernel)
theorem wd_1457 : (Cond.instanceMethod yX11_twiceNow : Cond) ∈ wsG := wG 1457 (by decide +kernel) (by decide +kernel)
theorem wd_1458 : (Cond.code yX11_twiceNow cX11_twiceNow 3 (some .int) : Cond) ∈ wsG := wG 1458 (by decide +kernel) (by decide +kernel)
theorem wd_1459 : (Cond.methodLink RX11 230 yX11_reachedNow : Cond) ∈ wsG := wG 1459 (by decide +kernel) (by decide +kernel)
theorem wd_1461 : (Cond.instanceMethod yX11_reachedNow : Cond) ∈ wsG := wG 1461 (by decide +kernel) (by decide +kernel)
theorem wd_1462 : (Cond.code yX11_reachedNow cX11_reachedNow 3 (some .int) : Cond) ∈ wsG := wG 1462 (by decide +kernel) (by decide +kernel)
theorem wd_1463 : (Cond.methodLink RL 103 yX11_covers : Cond) ∈ wsG := wG 1463 (by decide +kernel) (by decide +kernel)
theorem wd_1464 : (Cond.instanceMethod yX11_covers : Cond) ∈ wsG := wG 1464 (by decide +kernel) (by decide +kernel)
theorem wd_1465 : (Cond.selects RX11 yX11_covers yX11_covers : Cond) ∈ wsG := wG 1465 (by decide +kernel) (by decide +kernel)
theorem wd_1466 : (Cond.code yX11_covers cX11_covers 2 (some .int) : Cond) ∈ wsG := wG 1466 (by decide +kernel) (by decide +kernel)
theorem wd_1467 : (Cond.methodLink RX11 233 yX11_isSet : Cond) ∈ wsG := wG 1467 (by decide +kernel) (by decide +kernel)
theorem wd_1469 : (Cond.instanceMethod yX11_isSet : Cond) ∈ wsG := wG 1469 (by decide +kernel) (by decide +kernel)
theorem wd_1470 : (Cond.code yX11_isSet cX11_isSet 3 (some .boolean) : Cond) ∈ wsG := wG 1470 (by decide +kernel) (by decide +kernel)
theorem wd_1471 : (Cond.methodLink RX11 236 yX11_reachedBy : Cond) ∈ wsG := wG 1471 (by decide +kernel) (by decide +kernel)
theorem wd_1473 : (Cond.instanceMethod yX11_reachedBy : Cond) ∈ wsG := wG 1473 (by decide +kernel) (by decide +kernel)
theorem wd_1474 : (Cond.code yX11_reachedBy cX11_reachedBy 4 (some .int) : Cond) ∈ wsG := wG 1474 (by decide +kernel) (by decide +kernel)
theorem wd_1475 : (Cond.methodLink RL 107 yX11_share : Cond) ∈ wsG := wG 1475 (by decide +kernel) (by decide +kernel)
theorem wd_1476 : (Cond.instanceMethod yX11_share : Cond) ∈ wsG := wG 1476 (by decide +kernel) (by decide +kernel)
theorem wd_1477 : (Cond.selects RX11 yX11_share yX11_share : Cond) ∈ wsG := wG 1477 (by decide +kernel) (by decide +kernel)
theorem wd_1478 : (Cond.code yX11_share cX11_share 1 (some .int) : Cond) ∈ wsG := wG 1478 (by decide +kernel) (by decide +kernel)
theorem wd_1479 : (Cond.methodLink RX11 239 ⟨"java/lang/Float", "floatToIntBits", "(F)I"⟩ : Cond) ∈ wsG := wG 1479 (by decide +kernel) (by decide +kernel)
theorem wd_1480 : (Cond.static ⟨"java/lang/Float", "floatToIntBits", "(F)I"⟩ : Cond) ∈ wsG := wG 1480 (by decide +kernel) (by decide +kernel)
theorem wd_1481 : (Cond.code ⟨"java/lang/Float", "floatToIntBits", "(F)I"⟩ prog_16_method_24_code 1 (some .int) : Cond) ∈ wsG := wG 1481 (by decide +kernel) (by decide +kernel)
theorem wd_1482 : (Cond.methodLink "java/lang/Float" 59 ⟨"java/lang/Float", "isNaN", "(F)Z"⟩ : Cond) ∈ wsG := wG 1482 (by decide +kernel) (by decide +kernel)
theorem wd_1483 : (Cond.static ⟨"java/lang/Float", "isNaN", "(F)Z"⟩ : Cond) ∈ wsG := wG 1483 (by decide +kernel) (by decide +kernel)
theorem wd_1484 : (Cond.code ⟨"java/lang/Float", "isNaN", "(F)Z"⟩ prog_16_method_6_code 1 (some .boolean) : Cond) ∈ wsG := wG 1484 (by decide +kernel) (by decide +kernel)
theorem wd_1485 : (Cond.methodLink "java/lang/Float" 74 ⟨"java/lang/Float", "floatToRawIntBits", "(F)I"⟩ : Cond) ∈ wsG := wG 1485 (by decide +kernel) (by decide +kernel)
theorem wd_1486 : (Cond.static ⟨"java/lang/Float", "floatToRawIntBits", "(F)I"⟩ : Cond) ∈ wsG := wG 1486 (by decide +kernel) (by decide +kernel)
theorem wd_1487 : (Cond.native ⟨"java/lang/Float", "floatToRawIntBits", "(F)I"⟩ : Cond) ∈ wsG := wG 1487 (by decide +kernel) (by decide +kernel)
theorem wd_1488 : (Cond.constant "java/lang/Float" 77 2143289344 : Cond) ∈ wsG := wG 1488 (by decide +kernel) (by decide +kernel)
theorem wd_1489 : (Cond.methodLink RL 111 yX11_best : Cond) ∈ wsG := wG 1489 (by decide +kernel) (by decide +kernel)
theorem wd_1490 : (Cond.instanceMethod yX11_best : Cond) ∈ wsG := wG 1490 (by decide +kernel) (by decide +kernel)
theorem wd_1491 : (Cond.selects RX11 yX11_best yX11_best : Cond) ∈ wsG := wG 1491 (by decide +kernel) (by decide +kernel)
theorem wd_1492 : (Cond.code yX11_best cX11_best 3 (some .int) : Cond) ∈ wsG := wG 1492 (by decide +kernel) (by decide +kernel)
theorem wd_1493 : (Cond.methodLink RX11 248 yX11_bestSet : Cond) ∈ wsG := wG 1493 (by decide +kernel) (by decide +kernel)
theorem wd_1495 : (Cond.instanceMethod yX11_bestSet : Cond) ∈ wsG := wG 1495 (by decide +kernel) (by decide +kernel)
theorem wd_1496 : (Cond.code yX11_bestSet cX11_bestSet 4 (some .int) : Cond) ∈ wsG := wG 1496 (by decide +kernel) (by decide +kernel)
theorem wd_1497 : (Cond.methodLink RX11 245 yX11_ones : Cond) ∈ wsG := wG 1497 (by decide +kernel) (by decide +kernel)
theorem wd_1498 : (Cond.static yX11_ones : Cond) ∈ wsG := wG 1498 (by decide +kernel) (by decide +kernel)
theorem wd_1499 : (Cond.code yX11_ones cX11_ones 3 (some .int) : Cond) ∈ wsG := wG 1499 (by decide +kernel) (by decide +kernel)
theorem wd_1500 : (Cond.methodLink RX11 251 yX11_twiceBy : Cond) ∈ wsG := wG 1500 (by decide +kernel) (by decide +kernel)
theorem wd_1502 : (Cond.instanceMethod yX11_twiceBy : Cond) ∈ wsG := wG 1502 (by decide +kernel) (by decide +kernel)
theorem wd_1503 : (Cond.code yX11_twiceBy cX11_twiceBy 5 (some .int) : Cond) ∈ wsG := wG 1503 (by decide +kernel) (by decide +kernel)
theorem wd_1504 : (Cond.methodLink RL 135 yX11_twice : Cond) ∈ wsG := wG 1504 (by decide +kernel) (by decide +kernel)
theorem wd_1505 : (Cond.instanceMethod yX11_twice : Cond) ∈ wsG := wG 1505 (by decide +kernel) (by decide +kernel)
theorem wd_1506 : (Cond.selects RX11 yX11_twice yX11_twice : Cond) ∈ wsG := wG 1506 (by decide +kernel) (by decide +kernel)
theorem wd_1507 : (Cond.code yX11_twice cX11_twice 4 (some .int) : Cond) ∈ wsG := wG 1507 (by decide +kernel) (by decide +kernel)
theorem wd_1508 : (Cond.methodLink RL 131 yX11_least : Cond) ∈ wsG := wG 1508 (by decide +kernel) (by decide +kernel)
theorem wd_1509 : (Cond.instanceMethod yX11_least : Cond) ∈ wsG := wG 1509 (by decide +kernel) (by decide +kernel)
theorem wd_1510 : (Cond.selects RX11 yX11_least yX11_least : Cond) ∈ wsG := wG 1510 (by decide +kernel) (by decide +kernel)
theorem wd_1511 : (Cond.code yX11_least cX11_least 6 (some .int) : Cond) ∈ wsG := wG 1511 (by decide +kernel) (by decide +kernel)
theorem wd_1512 : (Cond.methodLink RL 139 yX11_spread : Cond) ∈ wsG := wG 1512 (by decide +kernel) (by decide +kernel)
theorem wd_1513 : (Cond.instanceMethod yX11_spread : Cond) ∈ wsG := wG 1513 (by decide +kernel) (by decide +kernel)
theorem wd_1514 : (Cond.selects RX11 yX11_spread yX11_spread : Cond) ∈ wsG := wG 1514 (by decide +kernel) (by decide +kernel)
theorem wd_1515 : (Cond.code yX11_spread cX11_spread 7 (some .int) : Cond) ∈ wsG := wG 1515 (by decide +kernel) (by decide +kernel)
theorem wd_1516 : (Cond.methodLink RL 115 yX11_nested : Cond) ∈ wsG := wG 1516 (by decide +kernel) (by decide +kernel)
theorem wd_1517 : (Cond.instanceMethod yX11_nested : Cond) ∈ wsG := wG 1517 (by decide +kernel) (by decide +kernel)
theorem wd_1518 : (Cond.selects RX11 yX11_nested yX11_nested : Cond) ∈ wsG := wG 1518 (by decide +kernel) (by decide +kernel)
theorem wd_1519 : (Cond.code yX11_nested cX11_nested 4 (some .int) : Cond) ∈ wsG := wG 1519 (by decide +kernel) (by decide +kernel)
theorem wd_1520 : (Cond.methodLink RL 119 yX11_greedy : Cond) ∈ wsG := wG 1520 (by decide +kernel) (by decide +kernel)
theorem wd_1521 : (Cond.instanceMethod yX11_greedy : Cond) ∈ wsG := wG 1521 (by decide +kernel) (by decide +kernel)
theorem wd_1522 : (Cond.selects RX11 yX11_greedy yX11_greedy : Cond) ∈ wsG := wG 1522 (by decide +kernel) (by decide +kernel)
theorem wd_1523 : (Cond.code yX11_greedy cX11_greedy 6 (some .int) : Cond) ∈ wsG := wG 1523 (by decide +kernel) (by decide +kernel)
theorem wd_1524 : (Cond.methodLink RL 123 yX11_dearest : Cond) ∈ wsG := wG 1524 (by decide +kernel) (by decide +kernel)
theorem wd_1525 : (Cond.instanceMethod yX11_dearest : Cond) ∈ wsG := wG 1525 (by decide +kernel) (by decide +kernel)
theorem wd_1526 : (Cond.selects RX11 yX11_dearest yX11_dearest : Cond) ∈ wsG := wG 1526 (by decide +kernel) (by decide +kernel)
theorem wd_1527 : (Cond.code yX11_dearest cX11_dearest 3 (some .int) : Cond) ∈ wsG := wG 1527 (by decide +kernel) (by decide +kernel)
theorem wd_1528 : (Cond.methodLink RX11 254 yX11_coverBut : Cond) ∈ wsG := wG 1528 (by decide +kernel) (by decide +kernel)
theorem wd_1530 : (Cond.instanceMethod yX11_coverBut : Cond) ∈ wsG := wG 1530 (by decide +kernel) (by decide +kernel)
theorem wd_1531 : (Cond.code yX11_coverBut cX11_coverBut 4 (some .int) : Cond) ∈ wsG := wG 1531 (by decide +kernel) (by decide +kernel)
theorem wd_1532 : (Cond.methodLink RL 127 yX11_dearestRoad : Cond) ∈ wsG := wG 1532 (by decide +kernel) (by decide +kernel)
theorem wd_1533 : (Cond.instanceMethod yX11_dearestRoad : Cond) ∈ wsG := wG 1533 (by decide +kernel) (by decide +kernel)
theorem wd_1534 : (Cond.selects RX11 yX11_dearestRoad yX11_dearestRoad : Cond) ∈ wsG := wG 1534 (by decide +kernel) (by decide +kernel)
theorem wd_1535 : (Cond.code yX11_dearestRoad cX11_dearestRoad 7 (some .int) : Cond) ∈ wsG := wG 1535 (by decide +kernel) (by decide +kernel)
theorem wd_1536 : (Cond.methodLink RL 143 yX11_state : Cond) ∈ wsG := wG 1536 (by decide +kernel) (by decide +kernel)
theorem wd_1537 : (Cond.instanceMethod yX11_state : Cond) ∈ wsG := wG 1537 (by decide +kernel) (by decide +kernel)
theorem wd_1538 : (Cond.selects RX11 yX11_state yX11_state : Cond) ∈ wsG := wG 1538 (by decide +kernel) (by decide +kernel)
theorem wd_1539 : (Cond.code yX11_state cX11_state 3 (some .int) : Cond) ∈ wsG := wG 1539 (by decide +kernel) (by decide +kernel)
theorem wd_1540 : (Cond.methodLink RX11 266 yX11_stateCover : Cond) ∈ wsG := wG 1540 (by decide +kernel) (by decide +kernel)
theorem wd_1542 : (Cond.instanceMethod yX11_stateCover : Cond) ∈ wsG := wG 1542 (by decide +kernel) (by decide +kernel)
theorem wd_1543 : (Cond.code yX11_stateCover cX11_stateCover 2 (some .int) : Cond) ∈ wsG := wG 1543 (by decide +kernel) (by decide +kernel)
theorem wd_1544 : (Cond.methodLink RX11 263 yX11_laysState : Cond) ∈ wsG := wG 1544 (by decide +kernel) (by decide +kernel)
theorem wd_1546 : (Cond.instanceMethod yX11_laysState : Cond) ∈ wsG := wG 1546 (by decide +kernel) (by decide +kernel)
theorem wd_1547 : (Cond.code yX11_laysState cX11_laysState 3 (none : Option Jvm.ClassFile.FieldType) : Cond) ∈ wsG := wG 1547 (by decide +kernel) (by decide +kernel)
theorem wd_1548 : (Cond.methodLink RL 147 yX11_worst : Cond) ∈ wsG := wG 1548 (by decide +kernel) (by decide +kernel)
theorem wd_1549 : (Cond.instanceMethod yX11_worst : Cond) ∈ wsG := wG 1549 (by decide +kernel) (by decide +kernel)
theorem wd_1550 : (Cond.selects RX11 yX11_worst yX11_worst : Cond) ∈ wsG := wG 1550 (by decide +kernel) (by decide +kernel)
theorem wd_1551 : (Cond.code yX11_worst cX11_worst 7 (some .int) : Cond) ∈ wsG := wG 1551 (by decide +kernel) (by decide +kernel)
theorem wd_1552 : (Cond.methodLink RL 151 yX11_states : Cond) ∈ wsG := wG 1552 (by decide +kernel) (by decide +kernel)
theorem wd_1553 : (Cond.instanceMethod yX11_states : Cond) ∈ wsG := wG 1553 (by decide +kernel) (by decide +kernel)
theorem wd_1554 : (Cond.selects RX11 yX11_states yX11_states : Cond) ∈ wsG := wG 1554 (by decide +kernel) (by decide +kernel)
theorem wd_1555 : (Cond.code yX11_states cX11_states 6 (some .int) : Cond) ∈ wsG := wG 1555 (by decide +kernel) (by decide +kernel)
theorem wd_1556 : (Cond.methodLink RL 155 yX11_expects : Cond) ∈ wsG := wG 1556 (by decide +kernel) (by decide +kernel)
theorem wd_1557 : (Cond.instanceMethod yX11_expects : Cond) ∈ wsG := wG 1557 (by decide +kernel) (by decide +kernel)
theorem wd_1558 : (Cond.selects RX11 yX11_expects yX11_expects : Cond) ∈ wsG := wG 1558 (by decide +kernel) (by decide +kernel)
theorem wd_1559 : (Cond.code yX11_expects cX11_expects 2 (some .int) : Cond) ∈ wsG := wG 1559 (by decide +kernel) (by decide +kernel)
theorem wd_1560 : (Cond.methodLink RX11 269 yX11_laysSure : Cond) ∈ wsG := wG 1560 (by decide +kernel) (by decide +kernel)
theorem wd_1562 : (Cond.instanceMethod yX11_laysSure : Cond) ∈ wsG := wG 1562 (by decide +kernel) (by decide +kernel)
theorem wd_1563 : (Cond.code yX11_laysSure cX11_laysSure 3 (none : Option Jvm.ClassFile.FieldType) : Cond) ∈ wsG := wG 1563 (by decide +kernel) (by decide +kernel)
theorem wd_1564 : (Cond.methodLink RX11 272 yX11_expectedNow : Cond) ∈ wsG := wG 1564 (by decide +kernel) (by decide +kernel)
theorem wd_1566 : (Cond.instanceMethod yX11_expectedNow : Cond) ∈ wsG := wG 1566 (by decide +kernel) (by decide +kernel)
theorem wd_1567 : (Cond.code yX11_expectedNow cX11_expectedNow 3 (some .int) : Cond) ∈ wsG := wG 1567 (by decide +kernel) (by decide +kernel)
theorem wd_1568 : (Cond.methodLink RL 159 yX11_bestFor : Cond) ∈ wsG := wG 1568 (by decide +kernel) (by decide +kernel)
theorem wd_1569 : (Cond.instanceMethod yX11_bestFor : Cond) ∈ wsG := wG 1569 (by decide +kernel) (by decide +kernel)
theorem wd_1570 : (Cond.selects RX11 yX11_bestFor yX11_bestFor : Cond) ∈ wsG := wG 1570 (by decide +kernel) (by decide +kernel)
theorem wd_1571 : (Cond.code yX11_bestFor cX11_bestFor 7 (some .int) : Cond) ∈ wsG := wG 1571 (by decide +kernel) (by decide +kernel)
theorem wd_1572 : (Cond.methodLink RX11 275 yX11_readyMany : Cond) ∈ wsG := wG 1572 (by decide +kernel) (by decide +kernel)
theorem wd_1574 : (Cond.instanceMethod yX11_readyMany : Cond) ∈ wsG := wG 1574 (by decide +kernel) (by decide +kernel)
theorem wd_1575 : (Cond.code yX11_readyMany cX11_readyMany 3 (some .int) : Cond) ∈ wsG := wG 1575 (by decide +kernel) (by decide +kernel)
theorem wd_1576 : (Cond.methodLink RX11 278 yX11_expectedTried : Cond) ∈ wsG := wG 1576 (by decide +kernel) (by decide +kernel)
theorem wd_1578 : (Cond.instanceMethod yX11_expectedTried : Cond) ∈ wsG := wG 1578 (by decide +kernel) (by decide +kernel)
theorem wd_1579 : (Cond.code yX11_expectedTried cX11_expectedTried 6 (some .int) : Cond) ∈ wsG := wG 1579 (by decide +kernel) (by decide +kernel)
theorem wd_1580 : (Cond.methodLink RX11 281 yX11_risesOn : Cond) ∈ wsG := wG 1580 (by decide +kernel) (by decide +kernel)
theorem wd_1582 : (Cond.instanceMethod yX11_risesOn : Cond) ∈ wsG := wG 1582 (by decide +kernel) (by decide +kernel)
theorem wd_1583 : (Cond.code yX11_risesOn cX11_risesOn 5 (some .boolean) : Cond) ∈ wsG := wG 1583 (by decide +kernel) (by decide +kernel)
theorem wd_1584 : (Cond.methodLink RL 163 yX11_regret : Cond) ∈ wsG := wG 1584 (by decide +kernel) (by decide +kernel)
theorem wd_1585 : (Cond.instanceMethod yX11_regret : Cond) ∈ wsG := wG 1585 (by decide +kernel) (by decide +kernel)
theorem wd_1586 : (Cond.selects RX11 yX11_regret yX11_regret : Cond) ∈ wsG := wG 1586 (by decide +kernel) (by decide +kernel)
theorem wd_1587 : (Cond.code yX11_regret cX11_regret 3 (some .int) : Cond) ∈ wsG := wG 1587 (by decide +kernel) (by decide +kernel)
theorem wd_1588 : (Cond.methodLink RX11 284 yX11_greatestCover : Cond) ∈ wsG := wG 1588 (by decide +kernel) (by decide +kernel)
theorem wd_1590 : (Cond.instanceMethod yX11_greatestCover : Cond) ∈ wsG := wG 1590 (by decide +kernel) (by decide +kernel)
theorem wd_1591 : (Cond.code yX11_greatestCover cX11_greatestCover 1 (some .int) : Cond) ∈ wsG := wG 1591 (by decide +kernel) (by decide +kernel)
theorem wd_1592 : (Cond.methodLink RL 167 yX11_moves : Cond) ∈ wsG := wG 1592 (by decide +kernel) (by decide +kernel)
theorem wd_1593 : (Cond.instanceMethod yX11_moves : Cond) ∈ wsG := wG 1593 (by decide +kernel) (by decide +kernel)
theorem wd_1594 : (Cond.selects RX11 yX11_moves yX11_moves : Cond) ∈ wsG := wG 1594 (by decide +kernel) (by decide +kernel)
theorem wd_1595 : (Cond.code yX11_moves cX11_moves 3 (some .int) : Cond) ∈ wsG := wG 1595 (by decide +kernel) (by decide +kernel)
theorem wd_1596 : (Cond.constantLong RX11 304 6 : Cond) ∈ wsG := wG 1596 (by decide +kernel) (by decide +kernel)
theorem wd_1597 : (Cond.methodLink RX11 306 yX11_laysMoves : Cond) ∈ wsG := wG 1597 (by decide +kernel) (by decide +kernel)
theorem wd_1599 : (Cond.instanceMethod yX11_laysMoves : Cond) ∈ wsG := wG 1599 (by decide +kernel) (by decide +kernel)
theorem wd_1600 : (Cond.code yX11_laysMoves cX11_laysMoves 2 (none : Option Jvm.ClassFile.FieldType) : Cond) ∈ wsG := wG 1600 (by decide +kernel) (by decide +kernel)
theorem wd_1601 : (Cond.methodLink RX11 300 yX11_tries : Cond) ∈ wsG := wG 1601 (by decide +kernel) (by decide +kernel)
theorem wd_1603 : (Cond.instanceMethod yX11_tries : Cond) ∈ wsG := wG 1603 (by decide +kernel) (by decide +kernel)
theorem wd_1604 : (Cond.code yX11_tries cX11_tries 9 (none : Option Jvm.ClassFile.FieldType) : Cond) ∈ wsG := wG 1604 (by decide +kernel) (by decide +kernel)
theorem wd_1605 : (Cond.methodLink RX11 296 yX11_weighs : Cond) ∈ wsG := wG 1605 (by decide +kernel) (by decide +kernel)
theorem wd_1607 : (Cond.instanceMethod yX11_weighs : Cond) ∈ wsG := wG 1607 (by decide +kernel) (by decide +kernel)
theorem wd_1608 : (Cond.code yX11_weighs cX11_weighs 6 (none : Option Jvm.ClassFile.FieldType) : Cond) ∈ wsG := wG 1608 (by decide +kernel) (by decide +kernel)
theorem wd_1609 : (Cond.methodLink RL 171 yX11_up : Cond) ∈ wsG := wG 1609 (by decide +kernel) (by decide +kernel)
theorem wd_1610 : (Cond.instanceMethod yX11_up : Cond) ∈ wsG := wG 1610 (by decide +kernel) (by decide +kernel)
theorem wd_1611 : (Cond.selects RX11 yX11_up yX11_up : Cond) ∈ wsG := wG 1611 (by decide +kernel) (by decide +kernel)
theorem wd_1612 : (Cond.code yX11_up cX11_up 4 (some .int) : Cond) ∈ wsG := wG 1612 (by decide +kernel) (by decide +kernel)
theorem wd_1613 : (Cond.methodLink RX11 312 yX11_mayMove : Cond) ∈ wsG := wG 1613 (by decide +kernel) (by decide +kernel)
theorem wd_1615 : (Cond.instanceMethod yX11_mayMove : Cond) ∈ wsG := wG 1615 (by decide +kernel) (by decide +kernel)
theorem wd_1616 : (Cond.code yX11_mayMove cX11_mayMove 1 (some .int) : Cond) ∈ wsG := wG 1616 (by decide +kernel) (by decide +kernel)
theorem wd_1617 : (Cond.methodLink RX11 309 yX11_begunSince : Cond) ∈ wsG := wG 1617 (by decide +kernel) (by decide +kernel)
theorem wd_1619 : (Cond.instanceMethod yX11_begunSince : Cond) ∈ wsG := wG 1619 (by decide +kernel) (by decide +kernel)
theorem wd_1620 : (Cond.code yX11_begunSince cX11_begunSince 4 (some .int) : Cond) ∈ wsG := wG 1620 (by decide +kernel) (by decide +kernel)
theorem wd_1621 : (Cond.methodLink RX11 315 yX11_sends : Cond) ∈ wsG := wG 1621 (by decide +kernel) (by decide +kernel)
theorem wd_1623 : (Cond.instanceMethod yX11_sends : Cond) ∈ wsG := wG 1623 (by decide +kernel) (by decide +kernel)
theorem wd_1624 : (Cond.code yX11_sends cX11_sends 4 (none : Option Jvm.ClassFile.FieldType) : Cond) ∈ wsG := wG 1624 (by decide +kernel) (by decide +kernel)
theorem wd_1625 : (Cond.methodLink RL 175 yX11_post : Cond) ∈ wsG := wG 1625 (by decide +kernel) (by decide +kernel)
theorem wd_1626 : (Cond.instanceMethod yX11_post : Cond) ∈ wsG := wG 1626 (by decide +kernel) (by decide +kernel)
theorem wd_1627 : (Cond.selects RX11 yX11_post yX11_post : Cond) ∈ wsG := wG 1627 (by decide +kernel) (by decide +kernel)
theorem wd_1628 : (Cond.code yX11_post cX11_post 4 (some .int) : Cond) ∈ wsG := wG 1628 (by decide +kernel) (by decide +kernel)
theorem wd_1629 : (Cond.methodLink RL 179 yX11_swap : Cond) ∈ wsG := wG 1629 (by decide +kernel) (by decide +kernel)
theorem wd_1630 : (Cond.instanceMethod yX11_swap : Cond) ∈ wsG := wG 1630 (by decide +kernel) (by decide +kernel)
theorem wd_1631 : (Cond.selects RX11 yX11_swap yX11_swap : Cond) ∈ wsG := wG 1631 (by decide +kernel) (by decide +kernel)
theorem wd_1632 : (Cond.code yX11_swap cX11_swap 6 (some .int) : Cond) ∈ wsG := wG 1632 (by decide +kernel) (by decide +kernel)
theorem wd_1633 : (Cond.methodLink RL 183 yX11_left : Cond) ∈ wsG := wG 1633 (by decide +kernel) (by decide +kernel)
theorem wd_1634 : (Cond.instanceMethod yX11_left : Cond) ∈ wsG := wG 1634 (by decide +kernel) (by decide +kernel)
theorem wd_1635 : (Cond.selects RX11 yX11_left yX11_left : Cond) ∈ wsG := wG 1635 (by decide +kernel) (by decide +kernel)
theorem wd_1636 : (Cond.code yX11_left cX11_left 2 (some .int) : Cond) ∈ wsG := wG 1636 (by decide +kernel) (by decide +kernel)
theorem wd_1637 : (Cond.methodLink RL 187 yX11_needs : Cond) ∈ wsG := wG 1637 (by decide +kernel) (by decide +kernel)
theorem wd_1638 : (Cond.instanceMethod yX11_needs : Cond) ∈ wsG := wG 1638 (by decide +kernel) (by decide +kernel)
theorem wd_1639 : (Cond.selects RX11 yX11_needs yX11_needs : Cond) ∈ wsG := wG 1639 (by decide +kernel) (by decide +kernel)
theorem wd_1640 : (Cond.code yX11_needs cX11_needs 2 (some .int) : Cond) ∈ wsG := wG 1640 (by decide +kernel) (by decide +kernel)
theorem wd_1641 : (Cond.methodLink RL 191 yX11_keeps : Cond) ∈ wsG := wG 1641 (by decide +kernel) (by decide +kernel)
theorem wd_1642 : (Cond.instanceMethod yX11_keeps : Cond) ∈ wsG := wG 1642 (by decide +kernel) (by decide +kernel)
theorem wd_1643 : (Cond.selects RX11 yX11_keeps yX11_keeps : Cond) ∈ wsG := wG 1643 (by decide +kernel) (by decide +kernel)
theorem wd_1644 : (Cond.code yX11_keeps cX11_keeps 2 (some .int) : Cond) ∈ wsG := wG 1644 (by decide +kernel) (by decide +kernel)
theorem wd_1645 : (Cond.methodLink RL 195 yX11_back : Cond) ∈ wsG := wG 1645 (by decide +kernel) (by decide +kernel)
theorem wd_1646 : (Cond.instanceMethod yX11_back : Cond) ∈ wsG := wG 1646 (by decide +kernel) (by decide +kernel)
theorem wd_1647 : (Cond.selects RX11 yX11_back yX11_back : Cond) ∈ wsG := wG 1647 (by decide +kernel) (by decide +kernel)
theorem wd_1648 : (Cond.code yX11_back cX11_back 2 (some .int) : Cond) ∈ wsG := wG 1648 (by decide +kernel) (by decide +kernel)
theorem wd_1649 : (Cond.methodLink RL 199 yX11_count : Cond) ∈ wsG := wG 1649 (by decide +kernel) (by decide +kernel)
theorem wd_1650 : (Cond.instanceMethod yX11_count : Cond) ∈ wsG := wG 1650 (by decide +kernel) (by decide +kernel)
theorem wd_1651 : (Cond.selects RX11 yX11_count yX11_count : Cond) ∈ wsG := wG 1651 (by decide +kernel) (by decide +kernel)
theorem wd_1652 : (Cond.code yX11_count cX11_count 2 (some .int) : Cond) ∈ wsG := wG 1652 (by decide +kernel) (by decide +kernel)
theorem wd_1653 : (Cond.methodLink RX11 318 yX11_inState : Cond) ∈ wsG := wG 1653 (by decide +kernel) (by decide +kernel)
theorem wd_1655 : (Cond.instanceMethod yX11_inState : Cond) ∈ wsG := wG 1655 (by decide +kernel) (by decide +kernel)
theorem wd_1656 : (Cond.code yX11_inState cX11_inState 4 (some .int) : Cond) ∈ wsG := wG 1656 (by decide +kernel) (by decide +kernel)
theorem wd_1657 : (Cond.methodLink RL 205 yX11_row : Cond) ∈ wsG := wG 1657 (by decide +kernel) (by decide +kernel)
theorem wd_1658 : (Cond.instanceMethod yX11_row : Cond) ∈ wsG := wG 1658 (by decide +kernel) (by decide +kernel)
theorem wd_1659 : (Cond.selects RX11 yX11_row yX11_row : Cond) ∈ wsG := wG 1659 (by decide +kernel) (by decide +kernel)
theorem wd_1660 : (Cond.code yX11_row cX11_row 2 (some .long) : Cond) ∈ wsG := wG 1660 (by decide +kernel) (by decide +kernel)
theorem wd_1661 : (Cond.methodLink RX11 321 yX11_lost : Cond) ∈ wsG := wG 1661 (by decide +kernel) (by decide +kernel)
theorem wd_1663 : (Cond.instanceMethod yX11_lost : Cond) ∈ wsG := wG 1663 (by decide +kernel) (by decide +kernel)
theorem wd_1664 : (Cond.code yX11_lost cX11_lost 1 (some .int) : Cond) ∈ wsG := wG 1664 (by decide +kernel) (by decide +kernel)
end
section
/-! THE MEMORY: the cells of a world by numbers; ints and longs by cell and place. A layout says what each cell is; refs are part of the layout (they never change but at a making). -/
abbrev Mem : Type := (Nat → Nat → Int32) × (Nat → Nat → Int64)
/-- a cell's ints set, a cell's longs set -/
def sa (M : Mem) (i : Nat) (f : Nat → Int32) : Mem := (fun a => if a = i then f else M.1 a, M.2)
def sb (M : Mem) (i : Nat) (f : Nat → Int64) : Mem := (M.1, fun a => if a = i then f else M.2 a)
/-- one int set, one long set -/
def si (M : Mem) (i k : Nat) (v : Int32) : Mem := sa M i (upd (M.1 i) k v)
def sj (M : Mem) (i k : Nat) (v : Int64) : Mem := sb M i (vp_updL (M.2 i) k v)
theorem sa_s (M : Mem) (i : Nat) (f : Nat → Int32) : (sa M i f).1 i = f := by simp [sa]
theorem sa_n {M : Mem} {i j : Nat} {f : Nat → Int32} (h : j ≠ i) : (sa M i f).1 j = M.1 j := by simp [sa, h]
theorem sa_2 (M : Mem) (i : Nat) (f : Nat → Int32) : (sa M i f).2 = M.2 := rfl
theorem sb_s (M : Mem) (i : Nat) (f : Nat → Int64) : (sb M i f).2 i = f := by simp [sb]
theorem sb_n {M : Mem} {i j : Nat} {f : Nat → Int64} (h : j ≠ i) : (sb M i f).2 j = M.2 j := by simp [sb, h]
theorem sb_1 (M : Mem) (i : Nat) (f : Nat → Int64) : (sb M i f).1 = M.1 := rfl
/-- a field: an int (none), null (some none), the cell j (some (some j)) -/
abbrev FK : Type := Option (Option Nat)
/-- a cell: an array (its kind: 0 int, 1 long, 2 boolean, 3 byte; its length), an object (the number of its class; its fields) -/
abbrev LC : Type := (Nat × Nat) ⊕ (Nat × List FK)
def kT : Nat → FieldType
  | 0 => .int
  | 1 => .long
  | 2 => .boolean
  | _ => .byte
def fv (ad : Nat → Nat) (M : Mem) (i k : Nat) (fk : FK) : Value := match fk with
  | none => .int (M.1 i k)
  | some none => .null
  | some (some j) => .ref (ad j)
def ce (cT : Nat → ClassId) (ad : Nat → Nat) (M : Mem) (i : Nat) (lc : LC) : va_E := match lc with
  | .inl (t, n) => .inl (cT t, n, if t = 1 then .inr (.inl (M.2 i)) else .inl (M.1 i))
  | .inr (ci, fks) => .inr (ci, fks.mapIdx (fun k fk => fv ad M i k fk))
def cw (cT : Nat → ClassId) (ad : Nat → Nat) (lay : List LC) (M : Mem) : va_W := lay.mapIdx (fun i lc => (ad i, ce cT ad M i lc))
theorem cw_at {cT : Nat → ClassId} {ad : Nat → Nat} {lay : List LC} {M : Mem} {i : Nat} {lc : LC} (h : lay[i]? = some lc) : (cw cT ad lay M)[i]? = some (ad i, ce cT ad M i lc) := by
  simp [cw, h]
theorem cw_len {cT : Nat → ClassId} {ad : Nat → Nat} {lay : List LC} {M : Mem} : (cw cT ad lay M).length = lay.length := by simp [cw]
theorem fv_congr {ad : Nat → Nat} {M M' : Mem} {i : Nat} (h : M.1 i = M'.1 i) (k : Nat) (fk : FK) : fv ad M i k fk = fv ad M' i k fk := by
  unfold fv; rw [h]
theorem ce_congr {cT : Nat → ClassId} {ad : Nat → Nat} {M M' : Mem} {i : Nat} (h : M.1 i = M'.1 i) (h2 : M.2 i = M'.2 i) (lc : LC) : ce cT ad M i lc = ce cT ad M' i lc := by
  unfold ce
  rw [h, h2]
  cases lc with
  | inl q => rfl
  | inr q =>
    have e : (fun k fk => fv ad M i k fk) = (fun k fk => fv ad M' i k fk) := by funext k fk; exact fv_congr h k fk
    simp only [e]
theorem cw_set {cT : Nat → ClassId} {ad : Nat → Nat} {lay : List LC} {M M' : Mem} {i : Nat} {lc : LC} (h : lay[i]? = some lc) (h1 : ∀ j, j ≠ i → M'.1 j = M.1 j) (h2 : ∀ j, j ≠ i → M'.2 j = M.2 j) {e : va_E} (he : e = ce cT ad M' i lc) : (cw cT ad lay M).set i (ad i, e) = cw cT ad lay M' := by
  have hl : i < (cw cT ad lay M).length := by rw [cw_len]; exact (List.getElem?_eq_some_iff.mp h).1
  apply List.ext_getElem?
  intro j
  by_cases hj : j = i
  · subst hj
    rw [List.getElem?_set_self hl, cw_at h, he]
  · rw [List.getElem?_set_ne (Ne.symm hj)]
    simp only [cw, List.getElem?_mapIdx]
    cases lay[j]? with
    | none => rfl
    | some q => simp only [Option.map_some]; rw [ce_congr (h1 j hj).symm (h2 j hj).symm]
theorem cw_si {cT : Nat → ClassId} {ad : Nat → Nat} {lay : List LC} {M : Mem} {i ci k : Nat} {v : Int32} {fks : List FK} (h : lay[i]? = some (.inr (ci, fks))) (hk : fks[k]? = some none) : (cw cT ad lay M).set i (ad i, .inr (ci, (fks.mapIdx (fun k fk => fv ad M i k fk)).set k (.int v))) = cw cT ad lay (si M i k v) := by
  refine cw_set h (fun j hj => sa_n hj) (fun j hj => rfl) ?_
  unfold ce
  refine congrArg (fun z => Sum.inr (ci, z)) ?_
  apply List.ext_getElem?
  intro j
  by_cases hj : j = k
  · subst hj
    rw [List.getElem?_set_self (by rw [List.length_mapIdx]; exact (List.getElem?_eq_some_iff.mp hk).1), List.getElem?_mapIdx, hk]
    simp [fv, si, sa_s, upd]
  · rw [List.getElem?_set_ne (Ne.symm hj)]
    simp only [List.getElem?_mapIdx]
    cases fks[j]? with
    | none => rfl
    | some q =>
      cases q with
      | none => simp [fv, si, sa_s, upd, hj]
      | some q => cases q <;> rfl
def AA (ad : Nat → Nat) (lay : List LC) : Nat → Prop := fun q => ∃ i, i < lay.length ∧ q = ad i
def AJ (A : Nat → Prop) (ad : Nat → Nat) (lay : List LC) : Prop := (∀ i j, i < lay.length → j < lay.length → ad i = ad j → i = j) ∧ ∀ i, i < lay.length → A (ad i)
theorem AJ.own {A : Nat → Prop} {ad : Nat → Nat} {lay : List LC} (h : AJ A ad lay) : AJ (AA ad lay) ad lay := ⟨h.1, fun i hi => ⟨i, hi, rfl⟩⟩
theorem AJ.in {A : Nat → Prop} {ad : Nat → Nat} {lay : List LC} (h : AJ A ad lay) : ∀ q, AA ad lay q → A q := fun q ⟨i, hi, e⟩ => e ▸ h.2 i hi
theorem aj_D {A : Nat → Prop} {cT : Nat → ClassId} {ad : Nat → Nat} {lay : List LC} {M : Mem} (h : AJ A ad lay) : va_D A (cw cT ad lay M) := by
  have key : ∀ (k : Nat) (q : Nat × va_E), (cw cT ad lay M)[k]? = some q → k < lay.length ∧ q.1 = ad k := by
    intro k q hk
    have hl : k < lay.length := by rw [← cw_len (cT := cT) (ad := ad) (M := M)]; exact (List.getElem?_eq_some_iff.mp hk).1
    rw [cw_at (List.getElem?_eq_getElem hl)] at hk
    cases hk
    exact ⟨hl, rfl⟩
  refine ⟨fun i j a b hi hj hab => ?_, fun k q hk => ?_⟩
  · obtain ⟨h1, h2⟩ := key i a hi
    obtain ⟨h3, h4⟩ := key j b hj
    exact h.1 i j h1 h3 (by rw [← h2, ← h4, hab])
  · obtain ⟨h1, h2⟩ := key k q hk
    rw [h2]; exact h.2 k h1
def tyL (cT : Nat → ClassId) : List (ClassId × FieldType) := [(cT 0, .int), (cT 1, .long), (cT 2, .boolean), (cT 3, .byte)]
/-- the calls of nest mates: a class, the place in its pool, the method, the host -/
def nestW : List Cond := [.methodLinkNest RX3 65 yX10_isNode RX10, .methodLinkNest RX5 92 yX10_isNode RX10, .methodLinkNest RX5 11 yX8_init RX10, .methodLinkNest RX9 20 yX2_init RX10, .methodLinkNest RX10 9 yX6_init RX10, .methodLinkNest RX10 18 yX5_init RX10, .methodLinkNest RX10 25 yX9_init RX10, .methodLinkNest RX10 35 yX7_init RX10, .methodLinkNest RX10 42 yX1_init RX10, .methodLinkNest RX10 49 yX0_init RX10, .methodLinkNest RX10 394 yX4_init RX10]
def NW (U : State) : Prop := ∀ w ∈ nestW, va_Nw w U
def KX (D : va_G) (cT : Nat → ClassId) (U : State) : Prop := va_K D vwCl (tyL cT) U ∧ NW U
theorem nestW_M {w : Cond} (h : w ∈ nestW) : ∃ a i x b, w = .methodLinkNest a i x b := by
  simp only [nestW, List.mem_cons, List.not_mem_nil, or_false] at h
  rcases h with h | h | h | h | h | h | h | h | h | h | h <;> exact ⟨_, _, _, _, h⟩
theorem KX.warm {D : va_G} {cT : Nat → ClassId} {s U : State} (hW : s.WarmedH U.vm) (h : KX D cT s) : KX D cT U := by
  refine ⟨va_K.moved hW.alike h.1, fun w hw => ?_⟩
  obtain ⟨a, i, x, b, rfl⟩ := nestW_M hw
  exact va_Nw.warmM hW (h.2 _ hw)
theorem KX.same {D : va_G} {cT : Nat → ClassId} {u U : State} (e : u.vm = U.vm) (h : KX D cT u) : KX D cT U := by
  refine ⟨va_K.moved (by rw [e]; exact Vm.Alike.refl _) h.1, fun w hw => ?_⟩
  obtain ⟨a, i, x, b, rfl⟩ := nestW_M hw
  exact va_Nw.same rfl e (h.2 _ hw)
def HM (D : va_G) (cT : Nat → ClassId) (ad : Nat → Nat) (lay : List LC) (M : Mem) (H : Heap) : Prop := va_P D vwCl (cw cT ad lay M) H
def ST (D : va_G) (cT : Nat → ClassId) (ad : Nat → Nat) (lay : List LC) (A : Nat → Prop) (s : State) (M : Mem) (H : Heap) (locs : List Loc) : Prop := HM D cT ad lay M H ∧ va_S A s.heap H locs
def Cx (p : Program) (s : State) (m : MethodId) (args : Array Value) (c : Code) (own : String) (cc : ByteArray) (nL : Nat) (D : va_G) (cT : Nat → ClassId) (ad : Nat → Nat) (lay : List LC) (A : Nat → Prop) : Prop :=
  (p.tables.exec = Jvm.exec ∧ c.code = cc ∧ c.maxLocals = nL ∧ s.vm.findClass own = some m.cls ∧ ∀ w ∈ wsG, w.before args s = true) ∧ KX D cT s ∧ AJ A ad lay
abbrev Rm (fr lo : Nat) : Room := { frames := fr, cells := 0, slots := 0, locals := lo }
theorem ws_good : wsG.all goodWord = true := List.all_eq_true.mpr (fun _ h => (List.mem_filter.mp h).2)
theorem ws_goodIn (ws : List Cond) (h : ∀ w ∈ ws, w ∈ wsG) : GoodIn wsG ws := fun w hw => ⟨h w hw, good_of_word (List.all_eq_true.mp ws_good w (h w hw))⟩
end
section
/-! ROWS OVER THE MEMORY: one row an instruction that touches the heap, one row a call, one row an end -/
/-- a value of the memory's world (a ref is the number of a cell) as the machine has it -/
def cv (ad : Nat → Nat) (v : Value) : Value := match v with
  | .ref i => .ref (ad i)
  | v => v
theorem cv_cat (ad : Nat → Nat) (v : Value) : (cv ad v).category = v.category := by cases v <;> rfl
def QcX (D : va_G) (cT : Nat → ClassId) (ad : Nat → Nat) (lay : List LC) (A : Nat → Prop) (Q : Option Value → Mem → Prop) : Array Value → State → Outcome → State → Prop := fun _ st oc t => (∃ (r : Option Value) (M : Mem), oc = .returned (r.map (cv ad)) ∧ Q r M ∧ HM D cT ad lay M t.heap) ∧ va_F A st t
def Pc0 (D : va_G) (cT : Nat → ClassId) (ad : Nat → Nat) (lay : List LC) (M : Mem) (av : List Value) : Array Value → State → Prop := va_Pc av (fun U => HM D cT ad lay M U.heap ∧ KX D cT U ∧ AJ (AA ad lay) ad lay)
theorem Pc0_blind (D : va_G) (cT : Nat → ClassId) (ad : Nat → Nat) (lay : List LC) (M : Mem) (av : List Value) : FrameBlind (Pc0 D cT ad lay M av) := by
  intro a U g mk q
  obtain ⟨q0, q1, q2, q3⟩ := q
  exact ⟨q0, q1, KX.same (u := U) (U := U.calling g mk a) rfl q2, q3⟩
/-- what holds in a method's body -/
def Bx (p : Program) (s : State) (m : MethodId) (args : Array Value) (meth : Method) (c : Code) (own : String) (cc : ByteArray) (nL : Nat) (ret : Option FieldType) (D : va_G) (cT : Nat → ClassId) (ad : Nat → Nat) (lay : List LC) (A : Nat → Prop) : Prop :=
  Cx p s m args c own cc nL D cT ad lay A ∧ meth.sig.returnType = ret ∧ meth.locks = false
/-- a method that a call through an object finds: its words -/
def VOk (y : MethodName) (bytes : ByteArray) (maxL : Nat) (ret : Option FieldType) (n ci : Nat) : Prop :=
  (∃ T N, vwCl[ci]? = some (y.cls, T, N)) ∧ (Cond.instanceMethod y ∈ wsG ∧ Cond.selects y.cls y y ∈ wsG ∧ Cond.initialized y.cls ∈ wsG ∧ Cond.code y bytes maxL ret ∈ wsG) ∧ (y.cls ≠ "java/lang/invoke/MethodHandle" ∧ y.cls ≠ "java/lang/invoke/VarHandle" ∧ (parseMethodDescriptor y.desc).map (fun d => d.parameters.length) = some n)
def SOk (y : MethodName) (bytes : ByteArray) (maxL : Nat) (ret : Option FieldType) (n : Nat) : Prop :=
  (Cond.static y ∈ wsG ∧ Cond.initialized y.cls ∈ wsG ∧ Cond.code y bytes maxL ret ∈ wsG) ∧ (y.cls ≠ "java/lang/invoke/MethodHandle" ∧ y.cls ≠ "java/lang/invoke/VarHandle" ∧ (parseMethodDescriptor y.desc).map (fun d => d.parameters.length) = some n)
section XR
variable {p : Program} {l : Launch} {e : Env} {R : Room} {s : State} {m : MethodId} {args : Array Value} {below : List Frame} {meth : Method} {c : Code} {H : Heap} {locs : List Loc} {kc ks : Nat} {Q : State → Prop}
variable {own : String} {cc : ByteArray} {nL : Nat} {ret : Option FieldType} {D : va_G} {cT : Nat → ClassId} {ad : Nat → Nat} {lay : List LC} {A : Nat → Prop} {M : Mem} {pc : Nat} {ls : Array Slot} {rest : List Value}
theorem tyL_at (t : Nat) (h : t < 4) : (tyL cT)[t]? = some (cT t, kT t) := by
  match t, h with
  | 0, _ => rfl
  | 1, _ => rfl
  | 2, _ => rfl
  | 3, _ => rfl
theorem xq_get (C : Bx p s m args meth c own cc nL ret D cT ad lay A) (S : ST D cT ad lay A s M H locs) {i ci k index : Nat} {fk : FK} {fks : List FK} {Cn : String} {T : u_T} {N : Nat} (hi : lay[i]? = some (.inr (ci, fks))) (hc : vwCl[ci]? = some (Cn, T, N)) (hin : ∀ w ∈ u_ws Cn T N, w ∈ wsG) (hk : k < N) (hf : fks[k]? = some fk) (hlink : Cond.fieldLink own index (T k).1 (T k).2.1 (T k).2.2.1 ∈ wsG) (hdg : decode cc pc = .ok (.getfield index, 3))
    (kk : W p l e R s m args below meth c H locs kc ks Q (F0 m (pc + 3) ls (fv ad M i k fk :: rest))) : W p l e R s m args below meth c H locs kc ks Q (F0 m pc ls (.ref (ad i) :: rest)) := by
  obtain ⟨⟨⟨hx, hb, hml, hown, hts⟩, hK, hJ⟩, hr, hlk⟩ := C
  exact va_get (ci := ci) hx hb hts hin hown hK.1 S.1 i (cw_at hi) hc k hk (hts _ hlink) (fun _ h => h) (by rw [List.getElem?_mapIdx, hf]; rfl) hdg kk
theorem xq_put (C : Bx p s m args meth c own cc nL ret D cT ad lay A) (S : ST D cT ad lay A s M H locs) {i ci k index : Nat} {fks : List FK} {Cn : String} {T : u_T} {N : Nat} (hi : lay[i]? = some (.inr (ci, fks))) (hc : vwCl[ci]? = some (Cn, T, N)) (hin : ∀ w ∈ u_ws Cn T N, w ∈ wsG) (ty0 : Nat → FieldType) (hty : ∀ k, k < N → parseFieldDescriptor (T k).2.2.1 = some (ty0 k)) (hnm : ∀ a, a < N → ∀ b, b < N → a ≠ b → (T a).2.1 ≠ (T b).2.1) (hk : k < N) (hf : fks[k]? = some none) (hlink : Cond.fieldLink own index (T k).1 (T k).2.1 (T k).2.2.1 ∈ wsG) (hfin : (T k).2.2.2 = false) {v : Int32} (hn : narrow (ty0 k) (.int v) = .int v) (hfit : fits (ty0 k) (.int v) = true) (hdg : decode cc pc = .ok (.putfield index, 3))
    (kk : ∀ (H : Heap) (locs : List Loc), ST D cT ad lay A s (si M i k v) H locs → W p l e R s m args below meth c H locs kc ks Q (F0 m (pc + 3) ls rest)) : W p l e R s m args below meth c H locs kc ks Q (F0 m pc ls (.int v :: .ref (ad i) :: rest)) := by
  obtain ⟨⟨⟨hx, hb, hml, hown, hts⟩, hK, hJ⟩, hr, hlk⟩ := C
  refine va_put (ci := ci) hx hb hts hin ty0 hty hnm hown hK.1 S.1 (aj_D hJ) S.2 i (cw_at hi) hc k hk (hts _ hlink) (fun _ h => h) hfin (hty k hk) hn hfit (by rw [List.length_mapIdx]; exact (List.getElem?_eq_some_iff.mp hf).1) hdg (fun H1 locs1 hP hD hS => ?_)
  have e := cw_si (cT := cT) (ad := ad) (M := M) (v := v) hi hf
  exact kk H1 locs1 ⟨by unfold HM; rw [← e]; exact hP, hS⟩
theorem xq_iald (C : Bx p s m args meth c own cc nL ret D cT ad lay A) (S : ST D cT ad lay A s M H locs) {i n : Nat} {x : Int32} (hi : lay[i]? = some (.inl (0, n))) (hin : vp_in x n) (hdg : decode cc pc = .ok (.iaload, 1))
    (kk : W p l e R s m args below meth c H locs kc ks Q (F0 m (pc + 1) ls (.int (M.1 i x.toNatClampNeg) :: rest))) : W p l e R s m args below meth c H locs kc ks Q (F0 m pc ls (.int x :: .ref (ad i) :: rest)) := by
  obtain ⟨⟨⟨hx, hb, hml, hown, hts⟩, hK, hJ⟩, hr, hlk⟩ := C
  exact va_iald hx hb hK.1 S.1 i 0 (cw_at hi) rfl hin hdg kk
theorem xq_zald (C : Bx p s m args meth c own cc nL ret D cT ad lay A) (S : ST D cT ad lay A s M H locs) {i n : Nat} {x : Int32} (hi : lay[i]? = some (.inl (2, n))) (hin : vp_in x n) (hdg : decode cc pc = .ok (.baload, 1))
    (kk : W p l e R s m args below meth c H locs kc ks Q (F0 m (pc + 1) ls (.int (M.1 i x.toNatClampNeg) :: rest))) : W p l e R s m args below meth c H locs kc ks Q (F0 m pc ls (.int x :: .ref (ad i) :: rest)) := by
  obtain ⟨⟨⟨hx, hb, hml, hown, hts⟩, hK, hJ⟩, hr, hlk⟩ := C
  exact va_zald hx hb hK.1 S.1 i 2 (cw_at hi) rfl hin hdg kk
theorem xq_bald (C : Bx p s m args meth c own cc nL ret D cT ad lay A) (S : ST D cT ad lay A s M H locs) {i n : Nat} {x : Int32} (hi : lay[i]? = some (.inl (3, n))) (hin : vp_in x n) (hdg : decode cc pc = .ok (.baload, 1))
    (kk : W p l e R s m args below meth c H locs kc ks Q (F0 m (pc + 1) ls (.int (M.1 i x.toNatClampNeg) :: rest))) : W p l e R s m args below meth c H locs kc ks Q (F0 m pc ls (.int x :: .ref (ad i) :: rest)) := by
  obtain ⟨⟨⟨hx, hb, hml, hown, hts⟩, hK, hJ⟩, hr, hlk⟩ := C
  exact va_bald hx hb hK.1 S.1 i 3 (cw_at hi) rfl hin hdg kk
theorem xq_lald (C : Bx p s m args meth c own cc nL ret D cT ad lay A) (S : ST D cT ad lay A s M H locs) {i n : Nat} {x : Int32} (hi : lay[i]? = some (.inl (1, n))) (hin : vp_in x n) (hdg : decode cc pc = .ok (.laload, 1))
    (kk : W p l e R s m args below meth c H locs kc ks Q (F0 m (pc + 1) ls (.long (M.2 i x.toNatClampNeg) :: rest))) : W p l e R s m args below meth c H locs kc ks Q (F0 m pc ls (.int x :: .ref (ad i) :: rest)) := by
  obtain ⟨⟨⟨hx, hb, hml, hown, hts⟩, hK, hJ⟩, hr, hlk⟩ := C
  exact va_lald hx hb hK.1 S.1 i 1 (cw_at hi) rfl hin hdg kk
theorem xq_iast (C : Bx p s m args meth c own cc nL ret D cT ad lay A) (S : ST D cT ad lay A s M H locs) {i n : Nat} {x v : Int32} (hi : lay[i]? = some (.inl (0, n))) (hin : vp_in x n) (hdg : decode cc pc = .ok (.iastore, 1))
    (kk : ∀ (H : Heap) (locs : List Loc), ST D cT ad lay A s (si M i x.toNatClampNeg v) H locs → W p l e R s m args below meth c H locs kc ks Q (F0 m (pc + 1) ls rest)) : W p l e R s m args below meth c H locs kc ks Q (F0 m pc ls (.int v :: .int x :: .ref (ad i) :: rest)) := by
  obtain ⟨⟨⟨hx, hb, hml, hown, hts⟩, hK, hJ⟩, hr, hlk⟩ := C
  refine va_iast hx hb hK.1 S.1 (aj_D hJ) S.2 i 0 (cw_at hi) rfl hin hdg (fun H1 locs1 hP hD hS => ?_)
  have e := cw_set (cT := cT) (ad := ad) (M := M) (M' := si M i x.toNatClampNeg v) hi (fun j hj => sa_n hj) (fun j hj => rfl) (e := .inl (cT 0, n, .inl (upd (M.1 i) x.toNatClampNeg v))) (by simp [ce, si, sa_s])
  exact kk H1 locs1 ⟨by unfold HM; rw [← e]; exact hP, hS⟩
theorem xq_zast (C : Bx p s m args meth c own cc nL ret D cT ad lay A) (S : ST D cT ad lay A s M H locs) {i n : Nat} {x v : Int32} (hi : lay[i]? = some (.inl (2, n))) (hin : vp_in x n) (hdg : decode cc pc = .ok (.bastore, 1))
    (kk : ∀ (H : Heap) (locs : List Loc), ST D cT ad lay A s (si M i x.toNatClampNeg (vp_nar .boolean v)) H locs → W p l e R s m args below meth c H locs kc ks Q (F0 m (pc + 1) ls rest)) : W p l e R s m args below meth c H locs kc ks Q (F0 m pc ls (.int v :: .int x :: .ref (ad i) :: rest)) := by
  obtain ⟨⟨⟨hx, hb, hml, hown, hts⟩, hK, hJ⟩, hr, hlk⟩ := C
  refine va_zast hx hb hK.1 S.1 (aj_D hJ) S.2 i 2 (cw_at hi) rfl hin hdg (fun H1 locs1 hP hD hS => ?_)
  have e := cw_set (cT := cT) (ad := ad) (M := M) (M' := si M i x.toNatClampNeg (vp_nar .boolean v)) hi (fun j hj => sa_n hj) (fun j hj => rfl) (e := .inl (cT 2, n, .inl (upd (M.1 i) x.toNatClampNeg (vp_nar .boolean v)))) (by simp [ce, si, sa_s])
  exact kk H1 locs1 ⟨by unfold HM; rw [← e]; exact hP, hS⟩
theorem xq_bast (C : Bx p s m args meth c own cc nL ret D cT ad lay A) (S : ST D cT ad lay A s M H locs) {i n : Nat} {x v : Int32} (hi : lay[i]? = some (.inl (3, n))) (hin : vp_in x n) (hdg : decode cc pc = .ok (.bastore, 1))
    (kk : ∀ (H : Heap) (locs : List Loc), ST D cT ad lay A s (si M i x.toNatClampNeg (vp_nar .byte v)) H locs → W p l e R s m args below meth c H locs kc ks Q (F0 m (pc + 1) ls rest)) : W p l e R s m args below meth c H locs kc ks Q (F0 m pc ls (.int v :: .int x :: .ref (ad i) :: rest)) := by
  obtain ⟨⟨⟨hx, hb, hml, hown, hts⟩, hK, hJ⟩, hr, hlk⟩ := C
  refine va_bast hx hb hK.1 S.1 (aj_D hJ) S.2 i 3 (cw_at hi) rfl hin hdg (fun H1 locs1 hP hD hS => ?_)
  have e := cw_set (cT := cT) (ad := ad) (M := M) (M' := si M i x.toNatClampNeg (vp_nar .byte v)) hi (fun j hj => sa_n hj) (fun j hj => rfl) (e := .inl (cT 3, n, .inl (upd (M.1 i) x.toNatClampNeg (vp_nar .byte v)))) (by simp [ce, si, sa_s])
  exact kk H1 locs1 ⟨by unfold HM; rw [← e]; exact hP, hS⟩
theorem xq_last (C : Bx p s m args meth c own cc nL ret D cT ad lay A) (S : ST D cT ad lay A s M H locs) {i n : Nat} {x : Int32} {v : Int64} (hi : lay[i]? = some (.inl (1, n))) (hin : vp_in x n) (hdg : decode cc pc = .ok (.lastore, 1))
    (kk : ∀ (H : Heap) (locs : List Loc), ST D cT ad lay A s (sj M i x.toNatClampNeg v) H locs → W p l e R s m args below meth c H locs kc ks Q (F0 m (pc + 1) ls rest)) : W p l e R s m args below meth c H locs kc ks Q (F0 m pc ls (.long v :: .int x :: .ref (ad i) :: rest)) := by
  obtain ⟨⟨⟨hx, hb, hml, hown, hts⟩, hK, hJ⟩, hr, hlk⟩ := C
  refine va_last hx hb hK.1 S.1 (aj_D hJ) S.2 i 1 (cw_at hi) rfl hin hdg (fun H1 locs1 hP hD hS => ?_)
  have e := cw_set (cT := cT) (ad := ad) (M := M) (M' := sj M i x.toNatClampNeg v) hi (fun j hj => rfl) (fun j hj => sb_n hj) (e := .inl (cT 1, n, .inr (.inl (vp_updL (M.2 i) x.toNatClampNeg v)))) (by simp [ce, sj, sb_s])
  exact kk H1 locs1 ⟨by unfold HM; rw [← e]; exact hP, hS⟩
theorem xq_alen (C : Bx p s m args meth c own cc nL ret D cT ad lay A) (S : ST D cT ad lay A s M H locs) {i t n : Nat} (hi : lay[i]? = some (.inl (t, n))) (ht : t < 4) {v : Int32} (hv : Int32.ofNat n = v) (hdg : decode cc pc = .ok (.arraylength, 1))
    (kk : W p l e R s m args below meth c H locs kc ks Q (F0 m (pc + 1) ls (.int v :: rest))) : W p l e R s m args below meth c H locs kc ks Q (F0 m pc ls (.ref (ad i) :: rest)) := by
  obtain ⟨⟨⟨hx, hb, hml, hown, hts⟩, hK, hJ⟩, hr, hlk⟩ := C
  exact va_alen hx hb hK.1 S.1 i t (cw_at hi) (tyL_at t ht) hv hdg kk
theorem xq_copy (C : Bx p s m args meth c own cc nL ret D cT ad lay A) (S : ST D cT ad lay A s M H locs) (hml : ls.size = nL) {i j n0 n1 index : Nat} (hi : lay[i]? = some (.inl (0, n0))) (hj : lay[j]? = some (.inl (0, n1))) (hlink : Cond.methodLink own index arraycopyName ∈ wsG) (hnat : Cond.native arraycopyName ∈ wsG) (hstat : Cond.static arraycopyName ∈ wsG) (hini : Cond.initialized "java/lang/System" ∈ wsG)
    {sp dp n : Int32} (h1 : ¬ sp < 0) (h2 : ¬ dp < 0) (h3 : ¬ n < 0) (h4 : sp.toNatClampNeg + n.toNatClampNeg ≤ n0) (h5 : dp.toNatClampNeg + n.toNatClampNeg ≤ n1) (hframes : 1 ≤ R.frames) (hlocals : (rest.map fun v => v.category).sum + (nativeFrameWords "java/lang/System" "arraycopy" 5 + 11) ≤ R.locals) (hdg : decode cc pc = .ok (.invokestatic index, 3))
    (kk : ∀ (H : Heap) (locs : List Loc), ST D cT ad lay A s (sa M j (va_cpy (M.1 i) (M.1 j) sp.toNatClampNeg dp.toNatClampNeg n.toNatClampNeg)) H locs → W p l e R s m args below meth c H locs kc ks Q (F0 m (pc + 3) ls rest)) : W p l e R s m args below meth c H locs kc ks Q (F0 m pc ls (.int n :: .int dp :: .ref (ad j) :: .int sp :: .ref (ad i) :: rest)) := by
  obtain ⟨⟨⟨hx, hb, hml0, hown, hts⟩, hK, hJ⟩, hr, hlk⟩ := C
  refine va_copyi (ty := .int) hx hb (by rw [hml0, hml]) hown (hts _ hlink) (hts _ hnat) (hts _ hstat) (hts _ hini) hK.1 S.1 (aj_D hJ) S.2 i j 0 0 (cw_at hi) (cw_at hj) rfl rfl rfl h1 h2 h3 h4 h5 (fun i _ => rfl) hframes hlocals hdg (fun H1 locs1 hP hD hS => ?_)
  have e := cw_set (cT := cT) (ad := ad) (M := M) (M' := sa M j (va_cpy (M.1 i) (M.1 j) sp.toNatClampNeg dp.toNatClampNeg n.toNatClampNeg)) hj (fun j hj => sa_n hj) (fun j hj => rfl) (e := .inl (cT 0, n1, .inl (va_cpy (M.1 i) (M.1 j) sp.toNatClampNeg dp.toNatClampNeg n.toNatClampNeg))) (by simp [ce, sa_s])
  exact kk H1 locs1 ⟨by unfold HM; rw [← e]; exact hP, hS⟩
variable {Qc : Array Value → State → Outcome → State → Prop}
theorem xq_iret (C : Bx p s m args meth c own cc nL (some .int) D cT ad lay A) (S : ST D cT ad lay A s M H locs) {v : Int32} (h : ∀ t : State, t.heap = H → va_F A s t → Qc args s (.returned (some (.int v))) t) (hdg : decode cc pc = .ok (.ireturn, 1)) :
    W p l e R s m args below meth c H locs kc ks (MQ below Qc args s kc ks A) (F0 m pc ls [.int v]) := by
  obtain ⟨⟨⟨hx, hb, hml, hown, hts⟩, hK, hJ⟩, hr, hlocks⟩ := C
  exact W.iret hx hb hr (fun t ht hW => h t ht (S.2.F ht)) S.2.2.2 hdg
theorem xq_zret (C : Bx p s m args meth c own cc nL (some .boolean) D cT ad lay A) (S : ST D cT ad lay A s M H locs) {v : Int32} (hn : narrow .boolean (.int v) = .int v) (h : ∀ t : State, t.heap = H → va_F A s t → Qc args s (.returned (some (.int v))) t) (hdg : decode cc pc = .ok (.ireturn, 1)) :
    W p l e R s m args below meth c H locs kc ks (MQ below Qc args s kc ks A) (F0 m pc ls [.int v]) := by
  obtain ⟨⟨⟨hx, hb, hml, hown, hts⟩, hK, hJ⟩, hr, hlocks⟩ := C
  exact W.zret hx hb hr hn (fun t ht hW => h t ht (S.2.F ht)) S.2.2.2 hdg
theorem xq_lret (C : Bx p s m args meth c own cc nL (some .long) D cT ad lay A) (S : ST D cT ad lay A s M H locs) {v : Int64} (h : ∀ t : State, t.heap = H → va_F A s t → Qc args s (.returned (some (.long v))) t) (hdg : decode cc pc = .ok (.lreturn, 1)) :
    W p l e R s m args below meth c H locs kc ks (MQ below Qc args s kc ks A) (F0 m pc ls [.long v]) := by
  obtain ⟨⟨⟨hx, hb, hml, hown, hts⟩, hK, hJ⟩, hr, hlocks⟩ := C
  exact W.lret hx hb hr (fun t ht hW => h t ht (S.2.F ht)) S.2.2.2 hdg
theorem xq_aret (C : Bx p s m args meth c own cc nL ret D cT ad lay A) (S : ST D cT ad lay A s M H locs) {n : String} (hn : ret = some (.object n)) {v : Nat} (h : ∀ t : State, t.heap = H → va_F A s t → Qc args s (.returned (some (.ref v))) t) (hdg : decode cc pc = .ok (.areturn, 1)) :
    W p l e R s m args below meth c H locs kc ks (MQ below Qc args s kc ks A) (F0 m pc ls [.ref v]) := by
  obtain ⟨⟨⟨hx, hb, hml, hown, hts⟩, hK, hJ⟩, hr, hlocks⟩ := C
  exact W.aret hx hb (hr.trans hn) (Or.inl ⟨n, rfl⟩) (Or.inr ⟨v, rfl⟩) (fun t ht hW => h t ht (S.2.F ht)) S.2.2.2 hdg
theorem xq_vret (C : Bx p s m args meth c own cc nL none D cT ad lay A) (S : ST D cT ad lay A s M H locs) (h : ∀ t : State, t.heap = H → va_F A s t → Qc args s (.returned none) t) (hdg : decode cc pc = .ok (.return_, 1)) :
    W p l e R s m args below meth c H locs kc ks (MQ below Qc args s kc ks A) (F0 m pc ls []) := by
  obtain ⟨⟨⟨hx, hb, hml, hown, hts⟩, hK, hJ⟩, hr, hlocks⟩ := C
  exact W.vret hx hb hr (fun t ht hW => h t ht (S.2.F ht)) S.2.2.2 hdg
end XR
end
section
/-! CALLS AND BODIES -/
theorem Mt_pre {D : va_G} {cT : Nat → ClassId} {ad : Nat → Nat} {lay : List LC} {M : Mem} {s : State} {H : Heap} {av : List Value} (hP : HM D cT ad lay M H) (hK : KX D cT s) (hJ : AJ (AA ad lay) ad lay) : ∀ U : State, U.heap = H → s.WarmedH U.vm → Pc0 D cT ad lay M av av.toArray U :=
  fun U hU hW => ⟨rfl, by rw [hU]; exact hP, hK.warm hW, hJ⟩
section XC
variable {p : Program} {l : Launch} {e : Env} {R : Room} {s : State} {m : MethodId} {args : Array Value} {below : List Frame} {meth : Method} {c : Code} {H : Heap} {locs : List Loc} {kc ks : Nat} {Q : State → Prop}
variable {own : String} {cc : ByteArray} {nL : Nat} {ret : Option FieldType} {D : va_G} {cT : Nat → ClassId} {ad : Nat → Nat} {lay : List LC} {A : Nat → Prop} {M : Mem} {pc : Nat} {ls : Array Slot} {rest st0 As : List Value}
variable {y : MethodName} {bytes : ByteArray} {maxL fr lo n index i ci : Nat} {ret' : Option FieldType} {fks : List FK}
theorem ok_V (C : Bx p s m args meth c own cc nL ret D cT ad lay A) (ok : VOk y bytes maxL ret' n ci) (hlk : Cond.methodLink own index y ∈ wsG) (hR : fr + 1 ≤ R.frames ∧ 8 + (maxL + 11) + lo ≤ R.locals) : CallW R s args own y.cls index y bytes maxL ret' (.code y bytes maxL ret' :: wsG) (Rm fr lo) 0 0 n := by
  obtain ⟨⟨⟨hx, hb, hml, hown, hts⟩, hK, hJ⟩, hr, hlocks⟩ := C
  refine cwV n hts (ws_goodIn _ ?_) rfl rfl rfl ⟨rfl, ok.2.2⟩ hR
  intro w hw
  simp only [wsV, List.mem_append, List.mem_cons, List.not_mem_nil, or_false] at hw
  obtain ⟨o1, o2, o3, o4⟩ := ok.2.1
  rcases hw with (rfl | rfl | rfl | rfl) | rfl | hw
  · exact hlk
  · exact o1
  · exact o2
  · exact o3
  · exact o4
  · exact hw
theorem ok_S (C : Bx p s m args meth c own cc nL ret D cT ad lay A) (ok : SOk y bytes maxL ret' n) (hlk : Cond.methodLink own index y ∈ wsG) (hR : fr + 1 ≤ R.frames ∧ 8 + (maxL + 11) + lo ≤ R.locals) : CallB R s args own index y bytes maxL ret' (.code y bytes maxL ret' :: wsG) (Rm fr lo) 0 0 n ∧ (Cond.static y).before args s = true := by
  obtain ⟨⟨⟨hx, hb, hml, hown, hts⟩, hK, hJ⟩, hr, hlocks⟩ := C
  refine va_cwS n hts (ws_goodIn _ ?_) rfl rfl rfl ok.2 hR
  intro w hw
  simp only [va_wsS, List.mem_append, List.mem_cons, List.not_mem_nil, or_false] at hw
  obtain ⟨o1, o2, o3⟩ := ok.1
  rcases hw with (rfl | rfl | rfl) | rfl | hw
  · exact hlk
  · exact o1
  · exact o2
  · exact o3
  · exact hw
theorem ok_N (C : Bx p s m args meth c own cc nL ret D cT ad lay A) (ok : SOk y bytes maxL ret' n) {host : String} (hlk : Cond.methodLinkNest own index y host ∈ nestW) (hR : fr + 1 ≤ R.frames ∧ 8 + (maxL + 11) + lo ≤ R.locals) : va_CN R s args own index y host bytes maxL ret' (.code y bytes maxL ret' :: wsG) (Rm fr lo) 0 0 n ∧ (Cond.static y).before args s = true ∧ True := by
  obtain ⟨⟨⟨hx, hb, hml, hown, hts⟩, hK, hJ⟩, hr, hlocks⟩ := C
  refine ⟨va_cnB n hts (ws_goodIn _ ?_) rfl rfl rfl (hK.2 _ hlk) (hts _ ok.1.2.1) ok.2 hR, hts _ ok.1.1, trivial⟩
  intro w hw
  rcases List.mem_cons.mp hw with rfl | hw
  · exact ok.1.2.2
  · exact hw
theorem run_V (C : Bx p s m args meth c own cc nL ret D cT ad lay A) (S : ST D cT ad lay A s M H locs) {Qc : Array Value → State → Outcome → State → Prop} (hM : Met l y (.code y bytes maxL ret' :: wsG) (Rm fr lo) (Pc0 D cT ad lay M (.ref (ad i) :: As)) Qc 0 0 (AA ad lay)) (hi : lay[i]? = some (.inr (ci, fks))) (ok : VOk y bytes maxL ret' n ci) (hlk : Cond.methodLink own index y ∈ wsG) (hR : fr + 1 ≤ R.frames ∧ 8 + (maxL + 11) + lo ≤ R.locals) (hcs : kc ≤ R.cells ∧ ks ≤ R.slots) (hl : ls.size = nL) (hn : As.length = n) (hst : st0 = As.reverse ++ .ref (ad i) :: rest) (hrm : (rest.map fun v => v.category).sum ≤ 8) (hdg : decode cc pc = .ok (.invokevirtual index, 3)) :
    va_Run p l e R s m args below meth c H locs kc ks 0 0 (F0 m pc ls st0) rest (Qc (Value.ref (ad i) :: As).toArray) (AA ad lay) := by
  obtain ⟨T, N, hc⟩ := ok.1
  exact va_runV C.1.1 hM (ok_V C ok hlk hR) ⟨Pc0_blind _ _ _ _ _ _, va_recv C.1.2.1.1 S.1 hc (cw_at hi), Mt_pre S.1 C.1.2.1 C.1.2.2.own⟩ rfl hn hl hst (lv_room hrm) hdg hcs
theorem run_S (C : Bx p s m args meth c own cc nL ret D cT ad lay A) (S : ST D cT ad lay A s M H locs) {Qc : Array Value → State → Outcome → State → Prop} (hM : Met l y (.code y bytes maxL ret' :: wsG) (Rm fr lo) (Pc0 D cT ad lay M As) Qc 0 0 (AA ad lay)) (ok : SOk y bytes maxL ret' n) (hlk : Cond.methodLink own index y ∈ wsG) (hR : fr + 1 ≤ R.frames ∧ 8 + (maxL + 11) + lo ≤ R.locals) (hcs : kc ≤ R.cells ∧ ks ≤ R.slots) (hl : ls.size = nL) (hn : As.length = n) (hst : st0 = As.reverse ++ rest) (hrm : (rest.map fun v => v.category).sum ≤ 8) (hdg : decode cc pc = .ok (.invokestatic index, 3)) :
    va_Run p l e R s m args below meth c H locs kc ks 0 0 (F0 m pc ls st0) rest (Qc As.toArray) (AA ad lay) :=
  va_runS C.1.1 hM (ok_S C ok hlk hR) ⟨Pc0_blind _ _ _ _ _ _, Mt_pre S.1 C.1.2.1 C.1.2.2.own⟩ rfl hn hl hst (lv_room hrm) hdg hcs
theorem run_N (C : Bx p s m args meth c own cc nL ret D cT ad lay A) (S : ST D cT ad lay A s M H locs) {Qc : Array Value → State → Outcome → State → Prop} (hM : Met l y (.code y bytes maxL ret' :: wsG) (Rm fr lo) (Pc0 D cT ad lay M As) Qc 0 0 (AA ad lay)) (ok : SOk y bytes maxL ret' n) {host : String} (hlk : Cond.methodLinkNest own index y host ∈ nestW) (hR : fr + 1 ≤ R.frames ∧ 8 + (maxL + 11) + lo ≤ R.locals) (hcs : kc ≤ R.cells ∧ ks ≤ R.slots) (hl : ls.size = nL) (hn : As.length = n) (hst : st0 = As.reverse ++ rest) (hrm : (rest.map fun v => v.category).sum ≤ 8) (hdg : decode cc pc = .ok (.invokestatic index, 3)) :
    va_Run p l e R s m args below meth c H locs kc ks 0 0 (F0 m pc ls st0) rest (Qc As.toArray) (AA ad lay) :=
  va_runSN C.1.1 hM (ok_N C ok hlk hR) ⟨Pc0_blind _ _ _ _ _ _, Mt_pre S.1 C.1.2.1 C.1.2.2.own⟩ rfl hn hl hst (lv_room hrm) hdg hcs
/-- behind a call -/
theorem go_X (C : Bx p s m args meth c own cc nL ret D cT ad lay A) (S : ST D cT ad lay A s M H locs) {Qm : Option Value → Mem → Prop} {a : Array Value} (hr : va_Run p l e R s m args below meth c H locs kc ks 0 0 (F0 m pc ls st0) rest (QcX D cT ad lay (AA ad lay) Qm a) (AA ad lay))
    (kk : ∀ (r : Option Value) (M : Mem) (H : Heap) (locs : List Loc), Qm r M → ST D cT ad lay A s M H locs → W p l e R s m args below meth c H locs kc ks Q (F0 m (pc + 3) ls ((r.map (cv ad)).toList ++ rest))) : W p l e R s m args below meth c H locs kc ks Q (F0 m pc ls st0) := by
  intro T hT X
  obtain ⟨v, st₀, t, T', L, h0, X', hL, e1, e2, ⟨⟨r, u, hv, hp, hb⟩, hz, hk⟩, st⟩ := hr T hT X
  cases hv
  rw [h0] at hz hk
  have hA := C.1.2.2.in
  have hS := S.2
  obtain ⟨t2, a1, b1⟩ := kk r u T'.heap (locs ++ L) hp ⟨by rw [e1]; exact hb, Nat.le_trans hS.1 (by rw [e1]; exact hz), fun q h1 h2 => by rw [e1, hk q (Nat.lt_of_lt_of_le h1 hS.1) (fun z => h2 (hA q z))]; exact hS.2.1 q h1 h2, fun q hq => by
      rcases List.mem_append.mp hq with h | h
      · exact hS.2.2 q h
      · exact hA _ (hL q h)⟩ T' rfl X'
  exact ⟨t2, st t2 a1, b1⟩
end XC
theorem body_of {l : Launch} {y : MethodName} {bytes : ByteArray} {maxL : Nat} {ret : Option FieldType} {fr lo : Nat} {av : List Value} {D : va_G} {cT : Nat → ClassId} {ad : Nat → Nat} {lay : List LC} {M : Mem} {Qc : Array Value → State → Outcome → State → Prop} (hy : plainName y.cls = true) (hsz : (lg_sl av).length ≤ maxL)
    (body : ∀ (p : Program) (e : Env) (s : State) (m : MethodId) (args : Array Value) (below : List Frame) (meth : Method) (c : Code) (ls : Array Slot), Bx p s m args meth c y.cls bytes maxL ret D cT ad lay (AA ad lay) → lv_has ls maxL (lv_args 0 av) → ST D cT ad lay (AA ad lay) s M s.heap [] → W p l e (Rm fr lo) s m args below meth c s.heap [] 0 0 (MQ below Qc args s 0 0 (AA ad lay)) (F0 m 0 ls [])) :
    Met l y (.code y bytes maxL ret :: wsG) (Rm fr lo) (Pc0 D cT ad lay M av) Qc 0 0 (AA ad lay) := by
  refine Met.ofW (cc := bytes) (maxL := maxL) (ret := ret) hy rfl ?_
  intro p e s m args below meth c s₁ B hml hv
  obtain ⟨rfl, hP, hK, hJ⟩ := hv
  have hts := atoms_spec (ws := .code y bytes maxL ret :: wsG) B.pre
  have hown : s.vm.findClass y.cls = some m.cls := findClass_of_methodNamed B.named
  have hl := lv_entry av (n := maxL) hsz
  rw [lg_entry_eq]
  generalize (lg_sl av ++ List.replicate (maxL - (lg_sl av).length) Slot.unset).toArray = ls at hl ⊢
  exact body p e s m av.toArray below meth c ls ⟨⟨⟨B.exec, B.bytes, hml, hown, fun w h => hts w (List.mem_cons_of_mem _ h)⟩, hK, hJ⟩, B.returns, B.notSynchronized⟩ hl ⟨hP, va_S.rf⟩
end
section
/-! A MACHINE OVER THE MEMORY: what an instruction does to (place, locals, stack, memory), as data; what a run comes to (fw), what a call comes to (ex); refs are numbers of cells -/
/-- an instruction of a method: its place, the next place, it, three numbers (its target; class and field; method, kind, arguments) -/
abbrev pEn : Type := Nat × Nat × Instr × Nat × Nat × Nat
/-- a method: name, bytes, locals, answer, instructions -/
abbrev pCd : Type := MethodName × ByteArray × Nat × Option FieldType × List pEn
abbrev pFr : Type := Nat × List (Option Value) × List Value × Mem
def p_fe : List pEn → Nat → Option (Nat × Instr × Nat × Nat × Nat)
  | [], _ => none
  | e :: c, pc => match Nat.beq e.1 pc with
    | true => some e.2
    | false => p_fe c pc
def p_lg : List (Option Value) → Nat → Option Value
  | [], _ => none
  | v :: _, 0 => v
  | _ :: l, n + 1 => p_lg l n
/-- a word's place that a long before it takes no more -/
def p_kl (v : Option Value) : Option Value := match v with
  | some (.long _) => none
  | some (.double _) => none
  | v => v
def p_s1 : List (Option Value) → Nat → Value → List (Option Value)
  | [], _, _ => []
  | _ :: l, 0, v => some v :: l
  | x :: l, 1, v => p_kl x :: p_s1 l 0 v
  | x :: l, n + 2, v => x :: p_s1 l (n + 1) v
def p_no : List (Option Value) → List (Option Value)
  | [] => []
  | _ :: l => none :: l
def p_s2 : List (Option Value) → Nat → Value → List (Option Value)
  | [], _, _ => []
  | _ :: l, 0, v => some v :: p_no l
  | x :: l, 1, v => p_kl x :: p_s2 l 0 v
  | x :: l, n + 2, v => x :: p_s2 l (n + 1) v
/-- what a step comes to: on a condition, on each of some conditions a frame; a call, with what its answer makes; an end -/
abbrev pSd : Type := (Prop × List (Prop × pFr)) ⊕ (Prop × Nat × List Value × Mem × (Option Value → Mem → pFr)) ⊕ (Prop × Option Value × Mem)
def p_go (f : pFr) : Option pSd := some (.inl (True, [(True, f)]))
def p_if (c : Prop) (f g : pFr) : Option pSd := some (.inl (True, [(c, f), (¬ c, g)]))
def p_on (c : Prop) (f : pFr) : Option pSd := some (.inl (c, [(True, f)]))
def p_cc (q : Jvm.ClassFile.Cond) (x y : Int32) : Prop := match q with
  | .eq => x = y
  | .ne => ¬ x = y
  | .lt => x < y
  | .ge => y ≤ x
  | .gt => y < x
  | .le => x ≤ y
def p_bits (v : Int32) : Prop := v = 0 ∨ v = 1
def p_sum (l : List Value) : Nat := (l.map fun v => v.category).sum
def p_step (cd : pCd) (lay : List LC) (nx : Nat) (i : Instr) (a b c : Nat) (pc : Nat) (ls : List (Option Value)) (st : List Value) (M : Mem) : Option pSd := match i with
  | .aload_n n => match p_lg ls n with
    | some (.ref q) => p_go (nx, ls, .ref q :: st, M)
    | _ => none
  | .aload n => match p_lg ls n with
    | some (.ref q) => p_go (nx, ls, .ref q :: st, M)
    | _ => none
  | .iload_n n => match p_lg ls n with
    | some (.int q) => p_go (nx, ls, .int q :: st, M)
    | _ => none
  | .iload n => match p_lg ls n with
    | some (.int q) => p_go (nx, ls, .int q :: st, M)
    | _ => none
  | .lload_n n => match p_lg ls n with
    | some (.long q) => p_go (nx, ls, .long q :: st, M)
    | _ => none
  | .lload n => match p_lg ls n with
    | some (.long q) => p_go (nx, ls, .long q :: st, M)
    | _ => none
  | .iconst n => p_go (nx, ls, .int (Int32.ofInt n) :: st, M)
  | .bipush n => p_go (nx, ls, .int (Int8.ofInt n).toInt32 :: st, M)
  | .sipush n => p_go (nx, ls, .int (Int16.ofInt n).toInt32 :: st, M)
  | .lconst n => p_go (nx, ls, .long (Int64.ofNat (n : Nat)) :: st, M)
  | .ldc _ => p_go (nx, ls, .int (nI a) :: st, M)
  | .ldc_w _ => p_go (nx, ls, .int (nI a) :: st, M)
  | .ldc2_w _ => p_go (nx, ls, .long (lN a) :: st, M)
  | .istore_n n => match st with
    | .int x :: st => p_go (nx, p_s1 ls n (.int x), st, M)
    | _ => none
  | .istore n => match st with
    | .int x :: st => p_go (nx, p_s1 ls n (.int x), st, M)
    | _ => none
  | .astore_n n => match st with
    | .ref x :: st => p_go (nx, p_s1 ls n (.ref x), st, M)
    | _ => none
  | .astore n => match st with
    | .ref x :: st => p_go (nx, p_s1 ls n (.ref x), st, M)
    | _ => none
  | .lstore_n n => match st with
    | .long x :: st => p_go (nx, p_s2 ls n (.long x), st, M)
    | _ => none
  | .lstore n => match st with
    | .long x :: st => p_go (nx, p_s2 ls n (.long x), st, M)
    | _ => none
  | .iinc n k => match p_lg ls n with
    | some (.int q) => p_go (nx, p_s1 ls n (.int (q + Int32.ofInt k)), st, M)
    | _ => none
  | .iadd => match st with
    | .int y :: .int x :: st => p_go (nx, ls, .int (x + y) :: st, M)
    | _ => none
  | .isub => match st with
    | .int y :: .int x :: st => p_go (nx, ls, .int (x - y) :: st, M)
    | _ => none
  | .imul => match st with
    | .int y :: .int x :: st => p_go (nx, ls, .int (x * y) :: st, M)
    | _ => none
  | .idiv => match st with
    | .int y :: .int x :: st => p_on (¬ y = 0) (nx, ls, .int (x / y) :: st, M)
    | _ => none
  | .irem => match st with
    | .int y :: .int x :: st => p_on (¬ y = 0) (nx, ls, .int (x - x / y * y) :: st, M)
    | _ => none
  | .iand => match st with
    | .int y :: .int x :: st => p_go (nx, ls, .int (x &&& y) :: st, M)
    | _ => none
  | .ior => match st with
    | .int y :: .int x :: st => p_go (nx, ls, .int (x ||| y) :: st, M)
    | _ => none
  | .ixor => match st with
    | .int y :: .int x :: st => p_go (nx, ls, .int (x ^^^ y) :: st, M)
    | _ => none
  | .ishl => match st with
    | .int y :: .int x :: st => p_go (nx, ls, .int (x <<< (y &&& 31)) :: st, M)
    | _ => none
  | .ishr => match st with
    | .int y :: .int x :: st => p_go (nx, ls, .int (x >>> (y &&& 31)) :: st, M)
    | _ => none
  | .iushr => match st with
    | .int y :: .int x :: st => p_go (nx, ls, .int (x.toUInt32 >>> (y.toUInt32 &&& Int32.toUInt32 31)).toInt32 :: st, M)
    | _ => none
  | .ladd => match st with
    | .long y :: .long x :: st => p_go (nx, ls, .long (x + y) :: st, M)
    | _ => none
  | .lsub => match st with
    | .long y :: .long x :: st => p_go (nx, ls, .long (x - y) :: st, M)
    | _ => none
  | .lmul => match st with
    | .long y :: .long x :: st => p_go (nx, ls, .long (x * y) :: st, M)
    | _ => none
  | .ldiv => match st with
    | .long y :: .long x :: st => p_on (¬ y = 0) (nx, ls, .long (x / y) :: st, M)
    | _ => none
  | .lrem => match st with
    | .long y :: .long x :: st => p_on (¬ y = 0) (nx, ls, .long (x - x / y * y) :: st, M)
    | _ => none
  | .land => match st with
    | .long y :: .long x :: st => p_go (nx, ls, .long (x &&& y) :: st, M)
    | _ => none
  | .lor => match st with
    | .long y :: .long x :: st => p_go (nx, ls, .long (x ||| y) :: st, M)
    | _ => none
  | .lshl => match st with
    | .int y :: .long x :: st => p_go (nx, ls, .long (x <<< (y.toInt64 &&& 63)) :: st, M)
    | _ => none
  | .lshr => match st with
    | .int y :: .long x :: st => p_go (nx, ls, .long (x >>> (y.toInt64 &&& 63)) :: st, M)
    | _ => none
  | .i2l => match st with
    | .int x :: st => p_go (nx, ls, .long x.toInt64 :: st, M)
    | _ => none
  | .l2i => match st with
    | .long x :: st => p_go (nx, ls, .int x.toInt32 :: st, M)
    | _ => none
  | .i2b => match st with
    | .int x :: st => p_go (nx, ls, .int x.toInt8.toInt32 :: st, M)
    | _ => none
  | .lcmp => match st with
    | .long y :: .long x :: st => p_go (nx, ls, .int (lg_cmp x y) :: st, M)
    | _ => none
  | .dup => match st with
    | v :: st => p_on (v.category = 1) (nx, ls, v :: v :: st, M)
    | _ => none
  | .dup_x1 => match st with
    | v :: w :: st => p_on (v.category = 1 ∧ w.category = 1) (nx, ls, v :: w :: v :: st, M)
    | _ => none
  | .dup2 => match st with
    | v :: w :: st => p_on (v.category = 1 ∧ w.category = 1) (nx, ls, v :: w :: v :: w :: st, M)
    | _ => none
  | .pop => match st with
    | v :: st => p_on (v.category = 1) (nx, ls, st, M)
    | _ => none
  | .ifCond q _ => match st with
    | .int x :: st => p_if (p_cc q x 0) (a, ls, st, M) (nx, ls, st, M)
    | _ => none
  | .if_icmp q _ => match st with
    | .int y :: .int x :: st => p_if (p_cc q x y) (a, ls, st, M) (nx, ls, st, M)
    | _ => none
  | .goto _ => p_go (a, ls, st, M)
  | .ifnonnull _ => match st with
    | .ref _ :: st => p_go (a, ls, st, M)
    | .null :: st => p_go (nx, ls, st, M)
    | _ => none
  | .tableswitch df lo hi offs => match st with
    | .int x :: st => some (.inl (True, ((x.toInt < lo ∨ hi < x.toInt), ((pc : Int) + df).toNat, ls, st, M) :: offs.toList.mapIdx (fun k off => (x.toInt = lo + k, ((pc : Int) + off).toNat, ls, st, M))))
    | _ => none
  | .lookupswitch df ps => match st with
    | .int x :: st => some (.inl (True, ((∀ q ∈ ps.toList, ¬ x.toInt = q.1), ((pc : Int) + df).toNat, ls, st, M) :: ps.toList.map (fun q => (x.toInt = q.1, ((pc : Int) + q.2).toNat, ls, st, M))))
    | _ => none
  | .getfield _ => match st with
    | .ref q :: st => match lay[q]? with
      | some (.inr (ci, fks)) => match fks[b]? with
        | some fk => p_on (ci = a) (nx, ls, fv id M q b fk :: st, M)
        | none => none
      | _ => none
    | _ => none
  | .putfield _ => match st with
    | .int v :: .ref q :: st => match lay[q]? with
      | some (.inr (ci, fks)) => match fks[b]? with
        | some none => p_on (ci = a ∧ (c = 0 ∨ p_bits v)) (nx, ls, st, si M q b v)
        | _ => none
      | _ => none
    | _ => none
  | .iaload => match st with
    | .int x :: .ref q :: st => match lay[q]? with
      | some (.inl (0, n)) => p_on (vp_in x n) (nx, ls, .int (M.1 q x.toNatClampNeg) :: st, M)
      | _ => none
    | _ => none
  | .baload => match st with
    | .int x :: .ref q :: st => match lay[q]? with
      | some (.inl (2, n)) => p_on (vp_in x n) (nx, ls, .int (M.1 q x.toNatClampNeg) :: st, M)
      | some (.inl (3, n)) => p_on (vp_in x n) (nx, ls, .int (M.1 q x.toNatClampNeg) :: st, M)
      | _ => none
    | _ => none
  | .laload => match st with
    | .int x :: .ref q :: st => match lay[q]? with
      | some (.inl (1, n)) => p_on (vp_in x n) (nx, ls, .long (M.2 q x.toNatClampNeg) :: st, M)
      | _ => none
    | _ => none
  | .iastore => match st with
    | .int v :: .int x :: .ref q :: st => match lay[q]? with
      | some (.inl (0, n)) => p_on (vp_in x n) (nx, ls, st, si M q x.toNatClampNeg v)
      | _ => none
    | _ => none
  | .bastore => match st with
    | .int v :: .int x :: .ref q :: st => match lay[q]? with
      | some (.inl (2, n)) => p_on (vp_in x n) (nx, ls, st, si M q x.toNatClampNeg (vp_nar .boolean v))
      | some (.inl (3, n)) => p_on (vp_in x n) (nx, ls, st, si M q x.toNatClampNeg (vp_nar .byte v))
      | _ => none
    | _ => none
  | .lastore => match st with
    | .long v :: .int x :: .ref q :: st => match lay[q]? with
      | some (.inl (1, n)) => p_on (vp_in x n) (nx, ls, st, sj M q x.toNatClampNeg v)
      | _ => none
    | _ => none
  | .arraylength => match st with
    | .ref q :: st => match lay[q]? with
      | some (.inl (t, n)) => p_on (t < 4) (nx, ls, .int (Int32.ofNat n) :: st, M)
      | _ => none
    | _ => none
  | .invokevirtual _ => match st.drop c with
    | .ref q :: rest => match lay[q]? with
      | some (.inr (ci, _)) => some (.inr (.inl (ci = b ∧ p_sum rest ≤ 8, a, .ref q :: (st.take c).reverse, M, fun r M => (nx, ls, r.toList ++ rest, M))))
      | _ => none
    | _ => none
  | .invokestatic _ => match b with
    | 3 => match st with
      | .int n :: .int dp :: .ref q :: .int sp :: .ref r :: rest => match lay[r]?, lay[q]? with
        | some (.inl (0, n0)), some (.inl (0, n1)) => p_on ((¬ sp < 0 ∧ ¬ dp < 0 ∧ ¬ n < 0) ∧ (sp.toNatClampNeg + n.toNatClampNeg ≤ n0 ∧ dp.toNatClampNeg + n.toNatClampNeg ≤ n1) ∧ p_sum rest ≤ 8) (nx, ls, rest, sa M q (va_cpy (M.1 r) (M.1 q) sp.toNatClampNeg dp.toNatClampNeg n.toNatClampNeg))
        | _, _ => none
      | _ => none
    | _ => some (.inr (.inl (c ≤ st.length ∧ p_sum (st.drop c) ≤ 8, a, (st.take c).reverse, M, fun r M => (nx, ls, r.toList ++ st.drop c, M))))
  | .ireturn => match st with
    | [.int v] => match cd.2.2.2.1 with
      | some .int => some (.inr (.inr (True, some (.int v), M)))
      | some .boolean => some (.inr (.inr (p_bits v, some (.int v), M)))
      | _ => none
    | _ => none
  | .lreturn => match st with
    | [.long v] => match cd.2.2.2.1 with
      | some .long => some (.inr (.inr (True, some (.long v), M)))
      | _ => none
    | _ => none
  | .areturn => match st with
    | [.ref v] => match cd.2.2.2.1 with
      | some (.object _) => some (.inr (.inr (True, some (.ref v), M)))
      | _ => none
    | _ => none
  | .return_ => match st with
    | [] => match cd.2.2.2.1 with
      | none => some (.inr (.inr (True, none, M)))
      | _ => none
    | _ => none
  | _ => none
abbrev pQ : Type := Option Value → Mem → Prop
abbrev pCall : Type := Nat → List Value → Mem → pQ → Prop
def p_sem (call : pCall) (Q : pQ) (X : pFr → Prop) (d : Option pSd) : Prop := match d with
  | none => False
  | some (.inl (C, bs)) => C ∧ ∀ q ∈ bs, q.1 → X q.2
  | some (.inr (.inl (C, y, av, M, k))) => C ∧ call y av M (fun r M => X (k r M))
  | some (.inr (.inr (C, r, M))) => C ∧ Q r M
def p_stp (call : pCall) (cd : pCd) (lay : List LC) (Q : pQ) (X : pFr → Prop) (f : pFr) : Prop := match p_fe cd.2.2.2.2 f.1 with
  | none => False
  | some (nx, i, a, b, c) => p_sem call Q X (p_step cd lay nx i a b c f.1 f.2.1 f.2.2.1 f.2.2.2)
/-- a run from a frame comes to an end with Q -/
def fw (call : pCall) (cd : pCd) (lay : List LC) (Q : pQ) (f : pFr) : Prop :=
  ∀ X : pFr → Prop, (∀ g, p_stp call cd lay Q X g → X g) → (∀ pc ls ls' st M, (∀ i v, p_lg ls' i = some v → p_lg ls i = some v) → X (pc, ls', st, M) → X (pc, ls, st, M)) → X f
def p_ea : List Value → List (Option Value)
  | [] => []
  | v :: vs => if v.category = 2 then some v :: none :: p_ea vs else some v :: p_ea vs
def p_en (n : Nat) (av : List Value) : List (Option Value) := p_ea av ++ List.replicate (n - (p_ea av).length) none
def ex (mt : List pCd) (lay : List LC) : Nat → pCall
  | 0, _, _, _, _ => False
  | d + 1, y, av, M, Q => ∃ cd, mt[y]? = some cd ∧ (p_ea av).length ≤ cd.2.2.1 ∧ fw (ex mt lay d) cd lay Q (0, p_en cd.2.2.1 av, [], M)
def p_mono (call : pCall) : Prop := ∀ y av M (Q Q' : pQ), (∀ r M, Q r M → Q' r M) → call y av M Q → call y av M Q'
theorem p_sem_mono {call : pCall} (hc : p_mono call) {Q Q' : pQ} {X X' : pFr → Prop} (hQ : ∀ r M, Q r M → Q' r M) (hX : ∀ f, X f → X' f) {d : Option pSd} (h : p_sem call Q X d) : p_sem call Q' X' d := by
  match d, h with
  | some (.inl (C, bs)), h => exact ⟨h.1, fun q hq hc => hX _ (h.2 q hq hc)⟩
  | some (.inr (.inl (C, y, av, M, k))), h => exact ⟨h.1, hc _ _ _ _ _ (fun r M hh => hX _ hh) h.2⟩
  | some (.inr (.inr (C, r, M))), h => exact ⟨h.1, hQ _ _ h.2⟩
theorem p_stp_mono {call : pCall} (hc : p_mono call) {cd : pCd} {lay : List LC} {Q Q' : pQ} {X X' : pFr → Prop} (hQ : ∀ r M, Q r M → Q' r M) (hX : ∀ f, X f → X' f) {f : pFr} (h : p_stp call cd lay Q X f) : p_stp call cd lay Q' X' f := by
  unfold p_stp at h ⊢
  split at h
  · exact h.elim
  · exact p_sem_mono hc hQ hX h
theorem fw_mono {call : pCall} (hc : p_mono call) {cd : pCd} {lay : List LC} {Q Q' : pQ} (hQ : ∀ r M, Q r M → Q' r M) {f : pFr} (h : fw call cd lay Q f) : fw call cd lay Q' f :=
  fun X h1 h2 => h X (fun g hg => h1 g (p_stp_mono hc hQ (fun _ h => h) hg)) h2
theorem ex_mono (mt : List pCd) (lay : List LC) : ∀ d, p_mono (ex mt lay d)
  | 0 => fun _ _ _ _ _ _ h => h.elim
  | d + 1 => fun _ _ _ _ _ hQ ⟨cd, h1, h2, h3⟩ => ⟨cd, h1, h2, fw_mono (ex_mono mt lay d) hQ h3⟩
theorem fw_stp {mt : List pCd} {d : Nat} {cd : pCd} {lay : List LC} {Q : pQ} {f : pFr} (h : p_stp (ex mt lay d) cd lay Q (fw (ex mt lay d) cd lay Q) f) : fw (ex mt lay d) cd lay Q f :=
  fun X h1 h2 => h1 f (p_stp_mono (ex_mono mt lay d) (fun _ _ h => h) (fun g hg => hg X h1 h2) h)
theorem fw_sub {call : pCall} {cd : pCd} {lay : List LC} {Q : pQ} {pc : Nat} {ls ls' : List (Option Value)} {st : List Value} {M : Mem} (hs : ∀ i v, p_lg ls' i = some v → p_lg ls i = some v) (h : fw call cd lay Q (pc, ls', st, M)) : fw call cd lay Q (pc, ls, st, M) :=
  fun X h1 h2 => h2 _ _ _ _ _ hs (h X h1 h2)
/-- fewer calls within calls are fewer still with more room -/
theorem fw_call {call call' : pCall} (hc : p_mono call) (hcc : ∀ y av M Q, call y av M Q → call' y av M Q) {cd : pCd} {lay : List LC} {Q : pQ} {f : pFr} (h : fw call cd lay Q f) : fw call' cd lay Q f := by
  intro X h1 h2
  refine h X (fun g hg => h1 g ?_) h2
  unfold p_stp at hg ⊢
  split at hg
  · exact hg.elim
  · next nx i a b c he =>
    revert hg
    generalize p_step cd lay nx i a b c g.1 g.2.1 g.2.2.1 g.2.2.2 = d
    intro hg
    match d, hg with
    | some (.inl (C, bs)), h => exact h
    | some (.inr (.inl (C, y, av, M, k))), h => exact ⟨h.1, hcc _ _ _ _ h.2⟩
    | some (.inr (.inr (C, r, M))), h => exact h
theorem ex_succ (mt : List pCd) (lay : List LC) : ∀ d y av M Q, ex mt lay d y av M Q → ex mt lay (d + 1) y av M Q
  | 0, _, _, _, _, h => h.elim
  | d + 1, _, _, _, _, ⟨cd, h1, h2, h3⟩ => ⟨cd, h1, h2, fw_call (ex_mono mt lay d) (ex_succ mt lay d) h3⟩
theorem ex_le {mt : List pCd} {lay : List LC} {d d' : Nat} (h : d ≤ d') {y : Nat} {av : List Value} {M : Mem} {Q : pQ} (hx : ex mt lay d y av M Q) : ex mt lay d' y av M Q := by
  induction h with
  | refl => exact hx
  | step _ ih => exact ex_succ mt lay _ y av M Q ih
end
section
/-! THE MACHINE DOES WHAT THE STEPS SAY -/
def p_ll (ad : Nat → Nat) (als : List (Option Value)) : List (Nat × Value) := (List.range als.length).filterMap (fun i => (p_lg als i).map (fun v => (i, cv ad v)))
theorem p_lg_lt : ∀ {als : List (Option Value)} {i : Nat} {v : Value}, p_lg als i = some v → i < als.length
  | [], _, _, h => by cases h
  | _ :: _, 0, _, _ => Nat.succ_pos _
  | _ :: l, n + 1, _, h => Nat.succ_lt_succ (p_lg_lt (als := l) h)
theorem p_ll_mem {ad : Nat → Nat} {als : List (Option Value)} {i : Nat} {w : Value} : (i, w) ∈ p_ll ad als ↔ ∃ v, p_lg als i = some v ∧ w = cv ad v := by
  unfold p_ll
  rw [List.mem_filterMap]
  constructor
  · rintro ⟨j, hj, h⟩
    cases hg : p_lg als j with
    | none => rw [hg] at h; cases h
    | some v =>
      rw [hg] at h
      cases h
      exact ⟨v, hg, rfl⟩
  · rintro ⟨v, hv, rfl⟩
    exact ⟨i, List.mem_range.mpr (p_lg_lt hv), by rw [hv]; rfl⟩
theorem p_s1_get : ∀ (als : List (Option Value)) (i : Nat) (v : Value) (j : Nat) (w : Value), p_lg (p_s1 als i v) j = some w → (j = i ∧ w = v) ∨ (j ≠ i ∧ p_lg als j = some w ∧ ¬ (j + 1 = i ∧ w.category = 2))
  | [], i, v, j, w, h => by
    have h0 : p_s1 [] i v = [] := by cases i <;> rfl
    rw [h0] at h; cases h
  | x :: l, 0, v, 0, w, h => by cases h; exact Or.inl ⟨rfl, rfl⟩
  | x :: l, 0, v, j + 1, w, h => Or.inr ⟨by omega, h, fun q => by omega⟩
  | x :: l, 1, v, 0, w, h => by
    refine Or.inr ⟨by omega, ?_⟩
    have h : p_kl x = some w := h
    cases x with
    | none => cases h
    | some x => cases x <;> first | (cases h; done) | (cases h; exact ⟨rfl, fun q => by have := q.2; simp [Value.category] at this⟩)
  | x :: l, 1, v, j + 1, w, h => by
    rcases p_s1_get l 0 v j w h with ⟨a, b⟩ | ⟨a, b, c⟩
    · exact Or.inl ⟨by omega, b⟩
    · exact Or.inr ⟨by omega, b, fun q => by omega⟩
  | x :: l, n + 2, v, 0, w, h => Or.inr ⟨by omega, h, fun q => by omega⟩
  | x :: l, n + 2, v, j + 1, w, h => by
    rcases p_s1_get l (n + 1) v j w h with ⟨a, b⟩ | ⟨a, b, c⟩
    · exact Or.inl ⟨by omega, b⟩
    · exact Or.inr ⟨by omega, b, fun q => c ⟨by omega, q.2⟩⟩
theorem p_s2_get : ∀ (als : List (Option Value)) (i : Nat) (v : Value) (j : Nat) (w : Value), p_lg (p_s2 als i v) j = some w → (j = i ∧ w = v) ∨ (j ≠ i ∧ j ≠ i + 1 ∧ p_lg als j = some w ∧ ¬ (j + 1 = i ∧ w.category = 2))
  | [], i, v, j, w, h => by
    have h0 : p_s2 [] i v = [] := by cases i <;> rfl
    rw [h0] at h; cases h
  | x :: l, 0, v, 0, w, h => by cases h; exact Or.inl ⟨rfl, rfl⟩
  | x :: l, 0, v, 1, w, h => by cases l <;> cases h
  | x :: l, 0, v, j + 2, w, h => by
    refine Or.inr ⟨by omega, by omega, ?_, fun q => by omega⟩
    cases l with
    | nil => cases h
    | cons y l => exact h
  | x :: l, 1, v, 0, w, h => by
    refine Or.inr ⟨by omega, by omega, ?_⟩
    have h : p_kl x = some w := h
    cases x with
    | none => cases h
    | some x => cases x <;> first | (cases h; done) | (cases h; exact ⟨rfl, fun q => by have := q.2; simp [Value.category] at this⟩)
  | x :: l, 1, v, j + 1, w, h => by
    rcases p_s2_get l 0 v j w h with ⟨a, b⟩ | ⟨a, a2, b, c⟩
    · exact Or.inl ⟨by omega, b⟩
    · exact Or.inr ⟨by omega, by omega, b, fun q => by omega⟩
  | x :: l, n + 2, v, 0, w, h => Or.inr ⟨by omega, by omega, h, fun q => by omega⟩
  | x :: l, n + 2, v, j + 1, w, h => by
    rcases p_s2_get l (n + 1) v j w h with ⟨a, b⟩ | ⟨a, a2, b, c⟩
    · exact Or.inl ⟨by omega, b⟩
    · exact Or.inr ⟨by omega, by omega, b, fun q => c ⟨by omega, q.2⟩⟩
def LvOk (ls : Array Slot) (nL : Nat) (ad : Nat → Nat) (als : List (Option Value)) : Prop := lv_has ls nL (p_ll ad als)
theorem LvOk.at {ls : Array Slot} {nL : Nat} {ad : Nat → Nat} {als : List (Option Value)} (h : LvOk ls nL ad als) {i : Nat} {v : Value} (hg : p_lg als i = some v) : ls[i]? = some (.val (cv ad v)) := h.2.2 (i, cv ad v) (p_ll_mem.mpr ⟨v, hg, rfl⟩)
theorem LvOk.sub {ls : Array Slot} {nL : Nat} {ad : Nat → Nat} {als als' : List (Option Value)} (h : LvOk ls nL ad als) (hs : ∀ i v, p_lg als' i = some v → p_lg als i = some v) : LvOk ls nL ad als' := by
  refine ⟨h.1, h.2.1, fun q hq => ?_⟩
  obtain ⟨v, hv, e⟩ := p_ll_mem.mp (show (q.1, q.2) ∈ _ from hq)
  rw [e]; exact h.at (hs _ _ hv)
theorem LvOk.s1 {ls : Array Slot} {nL : Nat} {ad : Nat → Nat} {als : List (Option Value)} {i : Nat} {v : Value} (h : lv_has ls nL ((i, cv ad v) :: (p_ll ad als).filter (fun q => !(q.1 == i) && !(q.1 + 1 == i && q.2.category == 2)))) : LvOk ls nL ad (p_s1 als i v) := by
  refine ⟨h.1, h.2.1, fun q hq => ?_⟩
  obtain ⟨w, hw, e⟩ := p_ll_mem.mp (show (q.1, q.2) ∈ _ from hq)
  refine h.2.2 q ?_
  rcases p_s1_get als i v q.1 w hw with ⟨a, b⟩ | ⟨a, b, c⟩
  · refine List.mem_cons.mpr (Or.inl ?_)
    rw [← a, ← b, ← e]
  · refine List.mem_cons.mpr (Or.inr (List.mem_filter.mpr ⟨hq' b e, ?_⟩))
    have hc : ¬ (q.1 + 1 = i ∧ q.2.category = 2) := by rw [e, cv_cat]; exact c
    by_cases h1 : q.1 + 1 = i
    · have h2 : ¬ q.2.category = 2 := fun z => hc ⟨h1, z⟩
      simp [a, h2]
    · simp [a, h1]
where
  hq' {q : Nat × Value} {w : Value} (b : p_lg als q.1 = some w) (e : q.2 = cv ad w) : q ∈ p_ll ad als := by
    have : (q.1, q.2) ∈ p_ll ad als := p_ll_mem.mpr ⟨w, b, e⟩
    exact this
theorem LvOk.s2 {ls : Array Slot} {nL : Nat} {ad : Nat → Nat} {als : List (Option Value)} {i : Nat} {v : Value} (h : lv_has ls nL ((i, cv ad v) :: (p_ll ad als).filter (fun q => !(q.1 == i) && (!(q.1 == i + 1) && !(q.1 + 1 == i && q.2.category == 2))))) : LvOk ls nL ad (p_s2 als i v) := by
  refine ⟨h.1, h.2.1, fun q hq => ?_⟩
  obtain ⟨w, hw, e⟩ := p_ll_mem.mp (show (q.1, q.2) ∈ _ from hq)
  refine h.2.2 q ?_
  rcases p_s2_get als i v q.1 w hw with ⟨a, b⟩ | ⟨a, a2, b, c⟩
  · refine List.mem_cons.mpr (Or.inl ?_)
    rw [← a, ← b, ← e]
  · have hm : (q.1, q.2) ∈ p_ll ad als := p_ll_mem.mpr ⟨w, b, e⟩
    refine List.mem_cons.mpr (Or.inr (List.mem_filter.mpr ⟨hm, ?_⟩))
    have hc : ¬ (q.1 + 1 = i ∧ q.2.category = 2) := by rw [e, cv_cat]; exact c
    by_cases h1 : q.1 + 1 = i
    · have h2 : ¬ q.2.category = 2 := fun z => hc ⟨h1, z⟩
      simp [a, a2, h2]
    · simp [a, a2, h1]
/-- how long an instruction is (0: a switch) -/
def p_il (i : Instr) : Nat := match i with
  | .aload _ => 2
  | .iload _ => 2
  | .lload _ => 2
  | .istore _ => 2
  | .lstore _ => 2
  | .astore _ => 2
  | .bipush _ => 2
  | .ldc _ => 2
  | .sipush _ => 3
  | .ldc_w _ => 3
  | .ldc2_w _ => 3
  | .iinc _ _ => 3
  | .ifCond _ _ => 3
  | .if_icmp _ _ => 3
  | .goto _ => 3
  | .ifnonnull _ => 3
  | .getfield _ => 3
  | .putfield _ => 3
  | .invokevirtual _ => 3
  | .invokestatic _ => 3
  | .tableswitch _ _ _ _ => 0
  | .lookupswitch _ _ => 0
  | _ => 1
/-- what the kernel counts of an instruction: it is read so, its length, its locals, its targets -/
def p_eb (cc : ByteArray) (nL : Nat) (e : pEn) : Bool := decide (decode cc e.1 = .ok (e.2.2.1, e.2.1 - e.1)) && decide (e.1 ≤ e.2.1) && (p_il e.2.2.1 == 0 || p_il e.2.2.1 == e.2.1 - e.1) && (match e.2.2.1 with
  | .istore n => decide (n < nL)
  | .istore_n n => decide ((n : Nat) < nL)
  | .astore n => decide (n < nL)
  | .astore_n n => decide ((n : Nat) < nL)
  | .lstore n => decide (n + 1 < nL)
  | .lstore_n n => decide ((n : Nat) + 1 < nL)
  | .iinc n _ => decide (n < nL)
  | .ifCond _ off => decide ((e.1 : Int) + off = (e.2.2.2.1 : Int))
  | .if_icmp _ off => decide ((e.1 : Int) + off = (e.2.2.2.1 : Int))
  | .goto off => decide ((e.1 : Int) + off = (e.2.2.2.1 : Int))
  | .ifnonnull off => decide ((e.1 : Int) + off = (e.2.2.2.1 : Int))
  | .tableswitch df lo hi offs => decide (0 ≤ (e.1 : Int) + df) && decide ((offs.size : Int) = hi - lo + 1) && offs.toList.all (fun o => decide (0 ≤ (e.1 : Int) + o))
  | .lookupswitch df ps => decide (0 ≤ (e.1 : Int) + df) && ps.toList.all (fun o => decide (0 ≤ (e.1 : Int) + o.2)) && (ps.toList.zip (ps.toList.drop 1)).all (fun (a, next) => a.1 < next.1)
  | _ => true)
/-- a field that may be read -/
def p_fr (own : String) (idx a b : Nat) : Prop := ∃ (Cn : String) (T : u_T) (N : Nat), vwCl[a]? = some (Cn, T, N) ∧ (∀ w ∈ u_ws Cn T N, w ∈ wsG) ∧ b < N ∧ Cond.fieldLink own idx (T b).1 (T b).2.1 (T b).2.2.1 ∈ wsG
/-- a field that may be written (c: 0 an int, 1 a boolean) -/
def p_fs (own : String) (idx a b c : Nat) : Prop := ∃ (Cn : String) (T : u_T) (N : Nat) (ty0 : Nat → FieldType), vwCl[a]? = some (Cn, T, N) ∧ (∀ w ∈ u_ws Cn T N, w ∈ wsG) ∧ b < N ∧ Cond.fieldLink own idx (T b).1 (T b).2.1 (T b).2.2.1 ∈ wsG ∧ (∀ k, k < N → parseFieldDescriptor (T k).2.2.1 = some (ty0 k)) ∧ (∀ a, a < N → ∀ b, b < N → a ≠ b → (T a).2.1 ≠ (T b).2.1) ∧ (T b).2.2.2 = false ∧ ty0 b = (if c = 0 then .int else .boolean)
def p_cv (mt : List pCd) (own : String) (idx a b c : Nat) : Prop := ∃ cd, mt[a]? = some cd ∧ VOk cd.1 cd.2.1 cd.2.2.1 cd.2.2.2.1 c b ∧ Cond.methodLink own idx cd.1 ∈ wsG ∧ cd.2.2.1 ≤ 45
def p_cs (mt : List pCd) (own : String) (idx a b c : Nat) : Prop := match b with
  | 3 => Cond.methodLink own idx arraycopyName ∈ wsG ∧ Cond.native arraycopyName ∈ wsG ∧ Cond.static arraycopyName ∈ wsG ∧ Cond.initialized "java/lang/System" ∈ wsG
  | b => ∃ cd, mt[a]? = some cd ∧ SOk cd.1 cd.2.1 cd.2.2.1 cd.2.2.2.1 c ∧ (if b = 2 then Cond.methodLinkNest own idx cd.1 RX10 ∈ nestW else Cond.methodLink own idx cd.1 ∈ wsG) ∧ cd.2.2.1 ≤ 45
def p_ew (mt : List pCd) (own : String) (e : pEn) : Prop := match e.2.2.1 with
  | .getfield idx => p_fr own idx e.2.2.2.1 e.2.2.2.2.1
  | .putfield idx => p_fs own idx e.2.2.2.1 e.2.2.2.2.1 e.2.2.2.2.2
  | .ldc idx => Cond.constant own idx (nI e.2.2.2.1) ∈ wsG
  | .ldc_w idx => Cond.constant own idx (nI e.2.2.2.1) ∈ wsG
  | .ldc2_w idx => Cond.constantLong own idx (lN e.2.2.2.1) ∈ wsG
  | .invokevirtual idx => p_cv mt own idx e.2.2.2.1 e.2.2.2.2.1 e.2.2.2.2.2
  | .invokestatic idx => p_cs mt own idx e.2.2.2.1 e.2.2.2.2.1 e.2.2.2.2.2
  | _ => True
def p_mok (mt : List pCd) (cd : pCd) : Prop := plainName cd.1.cls = true ∧ ∀ e ∈ cd.2.2.2.2, p_eb cd.2.1 cd.2.2.1 e = true ∧ p_ew mt cd.1.cls e
theorem p_fe_mem : ∀ {l : List pEn} {pc : Nat} {r : Nat × Instr × Nat × Nat × Nat}, p_fe l pc = some r → (pc, r) ∈ l
  | [], _, _, h => by cases h
  | e :: l, pc, r, h => by
    unfold p_fe at h
    split at h
    · next hb =>
      have he : e.1 = pc := Nat.eq_of_beq_eq_true hb
      cases h
      rw [← he]
      exact List.mem_cons_self
    · exact List.mem_cons_of_mem _ (p_fe_mem h)
theorem p_go_sem {call : pCall} {Q : pQ} {X : pFr → Prop} {f : pFr} (h : p_sem call Q X (p_go f)) : X f := h.2 _ (List.mem_singleton.mpr rfl) trivial
theorem p_on_sem {call : pCall} {Q : pQ} {X : pFr → Prop} {f : pFr} {c : Prop} (h : p_sem call Q X (p_on c f)) : c ∧ X f := ⟨h.1, h.2 _ (List.mem_singleton.mpr rfl) trivial⟩
theorem p_if_sem {call : pCall} {Q : pQ} {X : pFr → Prop} {f g : pFr} {c : Prop} (h : p_sem call Q X (p_if c f g)) : (c → X f) ∧ (¬ c → X g) := ⟨fun hc => h.2 (c, f) (List.mem_cons_self) hc, fun hc => h.2 (¬ c, g) (List.mem_cons_of_mem _ List.mem_cons_self) hc⟩
theorem p_bits_n {v : Int32} (h : p_bits v) : narrow .boolean (.int v) = .int v ∧ fits .boolean (.int v) = true := by
  rcases h with rfl | rfl <;> exact ⟨by decide, by decide⟩
section PS
variable {p : Program} {l : Launch} {e : Env} {R : Room} {s : State} {m : MethodId} {args : Array Value} {below : List Frame} {meth : Method} {c : Code} {kc ks : Nat} {QW : State → Prop}
variable {D : va_G} {cT : Nat → ClassId} {ad : Nat → Nat} {lay : List LC} {A : Nat → Prop}
/-- the machine, at a frame of the memory's world -/
def WX (p : Program) (l : Launch) (e : Env) (R : Room) (s : State) (m : MethodId) (args : Array Value) (below : List Frame) (meth : Method) (c : Code) (kc ks : Nat) (D : va_G) (cT : Nat → ClassId) (ad : Nat → Nat) (lay : List LC) (A : Nat → Prop) (nL : Nat) (QW : State → Prop) (f : pFr) : Prop :=
  ∀ (la : Array Slot) (H : Heap) (locs : List Loc), LvOk la nL ad f.2.1 → ST D cT ad lay A s f.2.2.2 H locs → W p l e R s m args below meth c H locs kc ks QW (F0 m f.1 la (f.2.2.1.map (cv ad)))
/-- what a method's callees come to -/
def p_ih (l : Launch) (mt : List pCd) (lay : List LC) (D : va_G) (cT : Nat → ClassId) (ad : Nat → Nat) (d : Nat) : Prop :=
  ∀ y av M Q cd, mt[y]? = some cd → ex mt lay d y av M Q → Met l cd.1 (.code cd.1 cd.2.1 cd.2.2.1 cd.2.2.2.1 :: wsG) (Rm d (64 * d)) (Pc0 D cT ad lay M (av.map (cv ad))) (QcX D cT ad lay (AA ad lay) Q) 0 0 (AA ad lay)

theorem p_cvR (rest : List Value) (c : Nat) (st : List Value) (v : Value) (h : st.drop c = v :: rest) : st = (st.take c) ++ v :: rest ∧ (st.take c).length = c := by
  refine ⟨by rw [← h, List.take_append_drop], ?_⟩
  have : c < st.length := by
    apply Classical.byContradiction
    intro hn
    rw [List.drop_eq_nil_of_le (by omega)] at h
    cases h
  rw [List.length_take]; omega
theorem p_sum_cv (l : List Value) : ((l.map (cv ad)).map fun v => v.category).sum = p_sum l := by
  unfold p_sum
  rw [List.map_map]
  refine congrArg List.sum (List.map_congr_left (fun v _ => cv_cat ad v))
theorem p_toList (r : Option Value) (rest : List Value) : (r.map (cv ad)).toList ++ rest.map (cv ad) = (r.toList ++ rest).map (cv ad) := by cases r <;> simp

section
variable {mt : List pCd} {cd : pCd} {d : Nat} {Q : pQ} {nx a b k pc : Nat} {ls : List (Option Value)} {st : List Value} {M : Mem} {Qc : Array Value → State → Outcome → State → Prop}
theorem sd_aload_n (C : Bx p s m args meth c cd.1.cls cd.2.1 cd.2.2.1 cd.2.2.2.1 D cT ad lay A) (hR : d + 1 ≤ R.frames ∧ 64 * (d + 1) ≤ R.locals) (hcs : kc ≤ R.cells ∧ ks ≤ R.slots) (ih : p_ih l mt lay D cT ad d) (hq : ∀ (r : Option Value) (M : Mem) (t : State), Q r M → HM D cT ad lay M t.heap → va_F A s t → Qc args s (.returned (r.map (cv ad))) t) {n : Fin 4} (ok : p_eb cd.2.1 cd.2.2.1 (pc, nx, .aload_n n, a, b, k) = true ∧ p_ew mt cd.1.cls (pc, nx, .aload_n n, a, b, k)) (h : p_sem (ex mt lay d) Q (WX p l e R s m args below meth c kc ks D cT ad lay A cd.2.2.1 (MQ below Qc args s kc ks A)) (p_step cd lay nx (.aload_n n) a b k pc ls st M)) : WX p l e R s m args below meth c kc ks D cT ad lay A cd.2.2.1 (MQ below Qc args s kc ks A) (pc, ls, st, M) := by
  obtain ⟨ok, ow⟩ := ok
  simp only [p_eb, p_il, Bool.and_eq_true, Bool.or_eq_true, decide_eq_true_eq, beq_iff_eq] at ok
  obtain ⟨⟨⟨hd, hle⟩, hln⟩, hz⟩ := ok
  intro la H locs hl S
  have C' := C
  obtain ⟨⟨⟨hx, hb, hml, hown, hts⟩, hK, hJ⟩, hr, hlk⟩ := C
  simp only [p_step] at h
  have hnx : nx = pc + 1 := by rcases hln with hln | hln <;> omega
  subst hnx
  have hd : decode cd.2.1 pc = .ok (.aload_n n, 1) := by rw [hd]; congr 2; omega
  split at h
  · next q hg => exact lv_aload_n hx hb hd rfl (hl.at hg) (p_go_sem h la H locs hl S)
  · exact h.elim
end
section
variable {mt : List pCd} {cd : pCd} {d : Nat} {Q : pQ} {nx a b k pc : Nat} {ls : List (Option Value)} {st : List Value} {M : Mem} {Qc : Array Value → State → Outcome → State → Prop}
theorem sd_aload (C : Bx p s m args meth c cd.1.cls cd.2.1 cd.2.2.1 cd.2.2.2.1 D cT ad lay A) (hR : d + 1 ≤ R.frames ∧ 64 * (d + 1) ≤ R.locals) (hcs : kc ≤ R.cells ∧ ks ≤ R.slots) (ih : p_ih l mt lay D cT ad d) (hq : ∀ (r : Option Value) (M : Mem) (t : State), Q r M → HM D cT ad lay M t.heap → va_F A s t → Qc args s (.returned (r.map (cv ad))) t) {n : Nat} (ok : p_eb cd.2.1 cd.2.2.1 (pc, nx, .aload n, a, b, k) = true ∧ p_ew mt cd.1.cls (pc, nx, .aload n, a, b, k)) (h : p_sem (ex mt lay d) Q (WX p l e R s m args below meth c kc ks D cT ad lay A cd.2.2.1 (MQ below Qc args s kc ks A)) (p_step cd lay nx (.aload n) a b k pc ls st M)) : WX p l e R s m args below meth c kc ks D cT ad lay A cd.2.2.1 (MQ below Qc args s kc ks A) (pc, ls, st, M) := by
  obtain ⟨ok, ow⟩ := ok
  simp only [p_eb, p_il, Bool.and_eq_true, Bool.or_eq_true, decide_eq_true_eq, beq_iff_eq] at ok
  obtain ⟨⟨⟨hd, hle⟩, hln⟩, hz⟩ := ok
  intro la H locs hl S
  have C' := C
  obtain ⟨⟨⟨hx, hb, hml, hown, hts⟩, hK, hJ⟩, hr, hlk⟩ := C
  simp only [p_step] at h
  have hnx : nx = pc + 2 := by rcases hln with hln | hln <;> omega
  subst hnx
  have hd : decode cd.2.1 pc = .ok (.aload n, 2) := by rw [hd]; congr 2; omega
  split at h
  · next q hg => exact lv_aload hx hb hd (hl.at hg) (p_go_sem h la H locs hl S)
  · exact h.elim
end
section
variable {mt : List pCd} {cd : pCd} {d : Nat} {Q : pQ} {nx a b k pc : Nat} {ls : List (Option Value)} {st : List Value} {M : Mem} {Qc : Array Value → State → Outcome → State → Prop}
theorem sd_iload_n (C : Bx p s m args meth c cd.1.cls cd.2.1 cd.2.2.1 cd.2.2.2.1 D cT ad lay A) (hR : d + 1 ≤ R.frames ∧ 64 * (d + 1) ≤ R.locals) (hcs : kc ≤ R.cells ∧ ks ≤ R.slots) (ih : p_ih l mt lay D cT ad d) (hq : ∀ (r : Option Value) (M : Mem) (t : State), Q r M → HM D cT ad lay M t.heap → va_F A s t → Qc args s (.returned (r.map (cv ad))) t) {n : Fin 4} (ok : p_eb cd.2.1 cd.2.2.1 (pc, nx, .iload_n n, a, b, k) = true ∧ p_ew mt cd.1.cls (pc, nx, .iload_n n, a, b, k)) (h : p_sem (ex mt lay d) Q (WX p l e R s m args below meth c kc ks D cT ad lay A cd.2.2.1 (MQ below Qc args s kc ks A)) (p_step cd lay nx (.iload_n n) a b k pc ls st M)) : WX p l e R s m args below meth c kc ks D cT ad lay A cd.2.2.1 (MQ below Qc args s kc ks A) (pc, ls, st, M) := by
  obtain ⟨ok, ow⟩ := ok
  simp only [p_eb, p_il, Bool.and_eq_true, Bool.or_eq_true, decide_eq_true_eq, beq_iff_eq] at ok
  obtain ⟨⟨⟨hd, hle⟩, hln⟩, hz⟩ := ok
  intro la H locs hl S
  have C' := C
  obtain ⟨⟨⟨hx, hb, hml, hown, hts⟩, hK, hJ⟩, hr, hlk⟩ := C
  simp only [p_step] at h
  have hnx : nx = pc + 1 := by rcases hln with hln | hln <;> omega
  subst hnx
  have hd : decode cd.2.1 pc = .ok (.iload_n n, 1) := by rw [hd]; congr 2; omega
  split at h
  · next q hg => exact lv_iload_n hx hb hd rfl (hl.at hg) (p_go_sem h la H locs hl S)
  · exact h.elim
end
section
variable {mt : List pCd} {cd : pCd} {d : Nat} {Q : pQ} {nx a b k pc : Nat} {ls : List (Option Value)} {st : List Value} {M : Mem} {Qc : Array Value → State → Outcome → State → Prop}
theorem sd_iload (C : Bx p s m args meth c cd.1.cls cd.2.1 cd.2.2.1 cd.2.2.2.1 D cT ad lay A) (hR : d + 1 ≤ R.frames ∧ 64 * (d + 1) ≤ R.locals) (hcs : kc ≤ R.cells ∧ ks ≤ R.slots) (ih : p_ih l mt lay D cT ad d) (hq : ∀ (r : Option Value) (M : Mem) (t : State), Q r M → HM D cT ad lay M t.heap → va_F A s t → Qc args s (.returned (r.map (cv ad))) t) {n : Nat} (ok : p_eb cd.2.1 cd.2.2.1 (pc, nx, .iload n, a, b, k) = true ∧ p_ew mt cd.1.cls (pc, nx, .iload n, a, b, k)) (h : p_sem (ex mt lay d) Q (WX p l e R s m args below meth c kc ks D cT ad lay A cd.2.2.1 (MQ below Qc args s kc ks A)) (p_step cd lay nx (.iload n) a b k pc ls st M)) : WX p l e R s m args below meth c kc ks D cT ad lay A cd.2.2.1 (MQ below Qc args s kc ks A) (pc, ls, st, M) := by
  obtain ⟨ok, ow⟩ := ok
  simp only [p_eb, p_il, Bool.and_eq_true, Bool.or_eq_true, decide_eq_true_eq, beq_iff_eq] at ok
  obtain ⟨⟨⟨hd, hle⟩, hln⟩, hz⟩ := ok
  intro la H locs hl S
  have C' := C
  obtain ⟨⟨⟨hx, hb, hml, hown, hts⟩, hK, hJ⟩, hr, hlk⟩ := C
  simp only [p_step] at h
  have hnx : nx = pc + 2 := by rcases hln with hln | hln <;> omega
  subst hnx
  have hd : decode cd.2.1 pc = .ok (.iload n, 2) := by rw [hd]; congr 2; omega
  split at h
  · next q hg => exact lv_iload hx hb hd (hl.at hg) (p_go_sem h la H locs hl S)
  · exact h.elim
end
section
variable {mt : List pCd} {cd : pCd} {d : Nat} {Q : pQ} {nx a b k pc : Nat} {ls : List (Option Value)} {st : List Value} {M : Mem} {Qc : Array Value → State → Outcome → State → Prop}
theorem sd_lload_n (C : Bx p s m args meth c cd.1.cls cd.2.1 cd.2.2.1 cd.2.2.2.1 D cT ad lay A) (hR : d + 1 ≤ R.frames ∧ 64 * (d + 1) ≤ R.locals) (hcs : kc ≤ R.cells ∧ ks ≤ R.slots) (ih : p_ih l mt lay D cT ad d) (hq : ∀ (r : Option Value) (M : Mem) (t : State), Q r M → HM D cT ad lay M t.heap → va_F A s t → Qc args s (.returned (r.map (cv ad))) t) {n : Fin 4} (ok : p_eb cd.2.1 cd.2.2.1 (pc, nx, .lload_n n, a, b, k) = true ∧ p_ew mt cd.1.cls (pc, nx, .lload_n n, a, b, k)) (h : p_sem (ex mt lay d) Q (WX p l e R s m args below meth c kc ks D cT ad lay A cd.2.2.1 (MQ below Qc args s kc ks A)) (p_step cd lay nx (.lload_n n) a b k pc ls st M)) : WX p l e R s m args below meth c kc ks D cT ad lay A cd.2.2.1 (MQ below Qc args s kc ks A) (pc, ls, st, M) := by
  obtain ⟨ok, ow⟩ := ok
  simp only [p_eb, p_il, Bool.and_eq_true, Bool.or_eq_true, decide_eq_true_eq, beq_iff_eq] at ok
  obtain ⟨⟨⟨hd, hle⟩, hln⟩, hz⟩ := ok
  intro la H locs hl S
  have C' := C
  obtain ⟨⟨⟨hx, hb, hml, hown, hts⟩, hK, hJ⟩, hr, hlk⟩ := C
  simp only [p_step] at h
  have hnx : nx = pc + 1 := by rcases hln with hln | hln <;> omega
  subst hnx
  have hd : decode cd.2.1 pc = .ok (.lload_n n, 1) := by rw [hd]; congr 2; omega
  split at h
  · next q hg => exact lv_lload_n hx hb hd rfl (hl.at hg) (p_go_sem h la H locs hl S)
  · exact h.elim
end
section
variable {mt : List pCd} {cd : pCd} {d : Nat} {Q : pQ} {nx a b k pc : Nat} {ls : List (Option Value)} {st : List Value} {M : Mem} {Qc : Array Value → State → Outcome → State → Prop}
theorem sd_lload (C : Bx p s m args meth c cd.1.cls cd.2.1 cd.2.2.1 cd.2.2.2.1 D cT ad lay A) (hR : d + 1 ≤ R.frames ∧ 64 * (d + 1) ≤ R.locals) (hcs : kc ≤ R.cells ∧ ks ≤ R.slots) (ih : p_ih l mt lay D cT ad d) (hq : ∀ (r : Option Value) (M : Mem) (t : State), Q r M → HM D cT ad lay M t.heap → va_F A s t → Qc args s (.returned (r.map (cv ad))) t) {n : Nat} (ok : p_eb cd.2.1 cd.2.2.1 (pc, nx, .lload n, a, b, k) = true ∧ p_ew mt cd.1.cls (pc, nx, .lload n, a, b, k)) (h : p_sem (ex mt lay d) Q (WX p l e R s m args below meth c kc ks D cT ad lay A cd.2.2.1 (MQ below Qc args s kc ks A)) (p_step cd lay nx (.lload n) a b k pc ls st M)) : WX p l e R s m args below meth c kc ks D cT ad lay A cd.2.2.1 (MQ below Qc args s kc ks A) (pc, ls, st, M) := by
  obtain ⟨ok, ow⟩ := ok
  simp only [p_eb, p_il, Bool.and_eq_true, Bool.or_eq_true, decide_eq_true_eq, beq_iff_eq] at ok
  obtain ⟨⟨⟨hd, hle⟩, hln⟩, hz⟩ := ok
  intro la H locs hl S
  have C' := C
  obtain ⟨⟨⟨hx, hb, hml, hown, hts⟩, hK, hJ⟩, hr, hlk⟩ := C
  simp only [p_step] at h
  have hnx : nx = pc + 2 := by rcases hln with hln | hln <;> omega
  subst hnx
  have hd : decode cd.2.1 pc = .ok (.lload n, 2) := by rw [hd]; congr 2; omega
  split at h
  · next q hg => exact lv_lload hx hb hd (hl.at hg) (p_go_sem h la H locs hl S)
  · exact h.elim
end
section
variable {mt : List pCd} {cd : pCd} {d : Nat} {Q : pQ} {nx a b k pc : Nat} {ls : List (Option Value)} {st : List Value} {M : Mem} {Qc : Array Value → State → Outcome → State → Prop}
theorem sd_iconst (C : Bx p s m args meth c cd.1.cls cd.2.1 cd.2.2.1 cd.2.2.2.1 D cT ad lay A) (hR : d + 1 ≤ R.frames ∧ 64 * (d + 1) ≤ R.locals) (hcs : kc ≤ R.cells ∧ ks ≤ R.slots) (ih : p_ih l mt lay D cT ad d) (hq : ∀ (r : Option Value) (M : Mem) (t : State), Q r M → HM D cT ad lay M t.heap → va_F A s t → Qc args s (.returned (r.map (cv ad))) t) {n : Int} (ok : p_eb cd.2.1 cd.2.2.1 (pc, nx, .iconst n, a, b, k) = true ∧ p_ew mt cd.1.cls (pc, nx, .iconst n, a, b, k)) (h : p_sem (ex mt lay d) Q (WX p l e R s m args below meth c kc ks D cT ad lay A cd.2.2.1 (MQ below Qc args s kc ks A)) (p_step cd lay nx (.iconst n) a b k pc ls st M)) : WX p l e R s m args below meth c kc ks D cT ad lay A cd.2.2.1 (MQ below Qc args s kc ks A) (pc, ls, st, M) := by
  obtain ⟨ok, ow⟩ := ok
  simp only [p_eb, p_il, Bool.and_eq_true, Bool.or_eq_true, decide_eq_true_eq, beq_iff_eq] at ok
  obtain ⟨⟨⟨hd, hle⟩, hln⟩, hz⟩ := ok
  intro la H locs hl S
  have C' := C
  obtain ⟨⟨⟨hx, hb, hml, hown, hts⟩, hK, hJ⟩, hr, hlk⟩ := C
  simp only [p_step] at h
  have hnx : nx = pc + 1 := by rcases hln with hln | hln <;> omega
  subst hnx
  have hd : decode cd.2.1 pc = .ok (.iconst n, 1) := by rw [hd]; congr 2; omega
  exact lv_iconst hx hb hd rfl (p_go_sem h la H locs hl S)
end
section
variable {mt : List pCd} {cd : pCd} {d : Nat} {Q : pQ} {nx a b k pc : Nat} {ls : List (Option Value)} {st : List Value} {M : Mem} {Qc : Array Value → State → Outcome → State → Prop}
theorem sd_bipush (C : Bx p s m args meth c cd.1.cls cd.2.1 cd.2.2.1 cd.2.2.2.1 D cT ad lay A) (hR : d + 1 ≤ R.frames ∧ 64 * (d + 1) ≤ R.locals) (hcs : kc ≤ R.cells ∧ ks ≤ R.slots) (ih : p_ih l mt lay D cT ad d) (hq : ∀ (r : Option Value) (M : Mem) (t : State), Q r M → HM D cT ad lay M t.heap → va_F A s t → Qc args s (.returned (r.map (cv ad))) t) {n : Int} (ok : p_eb cd.2.1 cd.2.2.1 (pc, nx, .bipush n, a, b, k) = true ∧ p_ew mt cd.1.cls (pc, nx, .bipush n, a, b, k)) (h : p_sem (ex mt lay d) Q (WX p l e R s m args below meth c kc ks D cT ad lay A cd.2.2.1 (MQ below Qc args s kc ks A)) (p_step cd lay nx (.bipush n) a b k pc ls st M)) : WX p l e R s m args below meth c kc ks D cT ad lay A cd.2.2.1 (MQ below Qc args s kc ks A) (pc, ls, st, M) := by
  obtain ⟨ok, ow⟩ := ok
  simp only [p_eb, p_il, Bool.and_eq_true, Bool.or_eq_true, decide_eq_true_eq, beq_iff_eq] at ok
  obtain ⟨⟨⟨hd, hle⟩, hln⟩, hz⟩ := ok
  intro la H locs hl S
  have C' := C
  obtain ⟨⟨⟨hx, hb, hml, hown, hts⟩, hK, hJ⟩, hr, hlk⟩ := C
  simp only [p_step] at h
  have hnx : nx = pc + 2 := by rcases hln with hln | hln <;> omega
  subst hnx
  have hd : decode cd.2.1 pc = .ok (.bipush n, 2) := by rw [hd]; congr 2; omega
  exact lv_bipush hx hb hd rfl (p_go_sem h la H locs hl S)
end
section
variable {mt : List pCd} {cd : pCd} {d : Nat} {Q : pQ} {nx a b k pc : Nat} {ls : List (Option Value)} {st : List Value} {M : Mem} {Qc : Array Value → State → Outcome → State → Prop}
theorem sd_sipush (C : Bx p s m args meth c cd.1.cls cd.2.1 cd.2.2.1 cd.2.2.2.1 D cT ad lay A) (hR : d + 1 ≤ R.frames ∧ 64 * (d + 1) ≤ R.locals) (hcs : kc ≤ R.cells ∧ ks ≤ R.slots) (ih : p_ih l mt lay D cT ad d) (hq : ∀ (r : Option Value) (M : Mem) (t : State), Q r M → HM D cT ad lay M t.heap → va_F A s t → Qc args s (.returned (r.map (cv ad))) t) {n : Int} (ok : p_eb cd.2.1 cd.2.2.1 (pc, nx, .sipush n, a, b, k) = true ∧ p_ew mt cd.1.cls (pc, nx, .sipush n, a, b, k)) (h : p_sem (ex mt lay d) Q (WX p l e R s m args below meth c kc ks D cT ad lay A cd.2.2.1 (MQ below Qc args s kc ks A)) (p_step cd lay nx (.sipush n) a b k pc ls st M)) : WX p l e R s m args below meth c kc ks D cT ad lay A cd.2.2.1 (MQ below Qc args s kc ks A) (pc, ls, st, M) := by
  obtain ⟨ok, ow⟩ := ok
  simp only [p_eb, p_il, Bool.and_eq_true, Bool.or_eq_true, decide_eq_true_eq, beq_iff_eq] at ok
  obtain ⟨⟨⟨hd, hle⟩, hln⟩, hz⟩ := ok
  intro la H locs hl S
  have C' := C
  obtain ⟨⟨⟨hx, hb, hml, hown, hts⟩, hK, hJ⟩, hr, hlk⟩ := C
  simp only [p_step] at h
  have hnx : nx = pc + 3 := by rcases hln with hln | hln <;> omega
  subst hnx
  have hd : decode cd.2.1 pc = .ok (.sipush n, 3) := by rw [hd]; congr 2; omega
  exact lv_sipush hx hb hd rfl (p_go_sem h la H locs hl S)
end
section
variable {mt : List pCd} {cd : pCd} {d : Nat} {Q : pQ} {nx a b k pc : Nat} {ls : List (Option Value)} {st : List Value} {M : Mem} {Qc : Array Value → State → Outcome → State → Prop}
theorem sd_lconst (C : Bx p s m args meth c cd.1.cls cd.2.1 cd.2.2.1 cd.2.2.2.1 D cT ad lay A) (hR : d + 1 ≤ R.frames ∧ 64 * (d + 1) ≤ R.locals) (hcs : kc ≤ R.cells ∧ ks ≤ R.slots) (ih : p_ih l mt lay D cT ad d) (hq : ∀ (r : Option Value) (M : Mem) (t : State), Q r M → HM D cT ad lay M t.heap → va_F A s t → Qc args s (.returned (r.map (cv ad))) t) {n : Fin 2} (ok : p_eb cd.2.1 cd.2.2.1 (pc, nx, .lconst n, a, b, k) = true ∧ p_ew mt cd.1.cls (pc, nx, .lconst n, a, b, k)) (h : p_sem (ex mt lay d) Q (WX p l e R s m args below meth c kc ks D cT ad lay A cd.2.2.1 (MQ below Qc args s kc ks A)) (p_step cd lay nx (.lconst n) a b k pc ls st M)) : WX p l e R s m args below meth c kc ks D cT ad lay A cd.2.2.1 (MQ below Qc args s kc ks A) (pc, ls, st, M) := by
  obtain ⟨ok, ow⟩ := ok
  simp only [p_eb, p_il, Bool.and_eq_true, Bool.or_eq_true, decide_eq_true_eq, beq_iff_eq] at ok
  obtain ⟨⟨⟨hd, hle⟩, hln⟩, hz⟩ := ok
  intro la H locs hl S
  have C' := C
  obtain ⟨⟨⟨hx, hb, hml, hown, hts⟩, hK, hJ⟩, hr, hlk⟩ := C
  simp only [p_step] at h
  have hnx : nx = pc + 1 := by rcases hln with hln | hln <;> omega
  subst hnx
  have hd : decode cd.2.1 pc = .ok (.lconst n, 1) := by rw [hd]; congr 2; omega
  exact lv_lconst hx hb hd rfl (p_go_sem h la H locs hl S)
end
section
variable {mt : List pCd} {cd : pCd} {d : Nat} {Q : pQ} {nx a b k pc : Nat} {ls : List (Option Value)} {st : List Value} {M : Mem} {Qc : Array Value → State → Outcome → State → Prop}
theorem sd_ldc (C : Bx p s m args meth c cd.1.cls cd.2.1 cd.2.2.1 cd.2.2.2.1 D cT ad lay A) (hR : d + 1 ≤ R.frames ∧ 64 * (d + 1) ≤ R.locals) (hcs : kc ≤ R.cells ∧ ks ≤ R.slots) (ih : p_ih l mt lay D cT ad d) (hq : ∀ (r : Option Value) (M : Mem) (t : State), Q r M → HM D cT ad lay M t.heap → va_F A s t → Qc args s (.returned (r.map (cv ad))) t) {n : Nat} (ok : p_eb cd.2.1 cd.2.2.1 (pc, nx, .ldc n, a, b, k) = true ∧ p_ew mt cd.1.cls (pc, nx, .ldc n, a, b, k)) (h : p_sem (ex mt lay d) Q (WX p l e R s m args below meth c kc ks D cT ad lay A cd.2.2.1 (MQ below Qc args s kc ks A)) (p_step cd lay nx (.ldc n) a b k pc ls st M)) : WX p l e R s m args below meth c kc ks D cT ad lay A cd.2.2.1 (MQ below Qc args s kc ks A) (pc, ls, st, M) := by
  obtain ⟨ok, ow⟩ := ok
  simp only [p_eb, p_il, Bool.and_eq_true, Bool.or_eq_true, decide_eq_true_eq, beq_iff_eq] at ok
  obtain ⟨⟨⟨hd, hle⟩, hln⟩, hz⟩ := ok
  intro la H locs hl S
  have C' := C
  obtain ⟨⟨⟨hx, hb, hml, hown, hts⟩, hK, hJ⟩, hr, hlk⟩ := C
  simp only [p_step] at h
  have hnx : nx = pc + 2 := by rcases hln with hln | hln <;> omega
  subst hnx
  have hd : decode cd.2.1 pc = .ok (.ldc n, 2) := by rw [hd]; congr 2; omega
  exact lv_ldc hx hb hown (hts _ ow) hd (p_go_sem h la H locs hl S)
end
section
variable {mt : List pCd} {cd : pCd} {d : Nat} {Q : pQ} {nx a b k pc : Nat} {ls : List (Option Value)} {st : List Value} {M : Mem} {Qc : Array Value → State → Outcome → State → Prop}
theorem sd_ldc_w (C : Bx p s m args meth c cd.1.cls cd.2.1 cd.2.2.1 cd.2.2.2.1 D cT ad lay A) (hR : d + 1 ≤ R.frames ∧ 64 * (d + 1) ≤ R.locals) (hcs : kc ≤ R.cells ∧ ks ≤ R.slots) (ih : p_ih l mt lay D cT ad d) (hq : ∀ (r : Option Value) (M : Mem) (t : State), Q r M → HM D cT ad lay M t.heap → va_F A s t → Qc args s (.returned (r.map (cv ad))) t) {n : Nat} (ok : p_eb cd.2.1 cd.2.2.1 (pc, nx, .ldc_w n, a, b, k) = true ∧ p_ew mt cd.1.cls (pc, nx, .ldc_w n, a, b, k)) (h : p_sem (ex mt lay d) Q (WX p l e R s m args below meth c kc ks D cT ad lay A cd.2.2.1 (MQ below Qc args s kc ks A)) (p_step cd lay nx (.ldc_w n) a b k pc ls st M)) : WX p l e R s m args below meth c kc ks D cT ad lay A cd.2.2.1 (MQ below Qc args s kc ks A) (pc, ls, st, M) := by
  obtain ⟨ok, ow⟩ := ok
  simp only [p_eb, p_il, Bool.and_eq_true, Bool.or_eq_true, decide_eq_true_eq, beq_iff_eq] at ok
  obtain ⟨⟨⟨hd, hle⟩, hln⟩, hz⟩ := ok
  intro la H locs hl S
  have C' := C
  obtain ⟨⟨⟨hx, hb, hml, hown, hts⟩, hK, hJ⟩, hr, hlk⟩ := C
  simp only [p_step] at h
  have hnx : nx = pc + 3 := by rcases hln with hln | hln <;> omega
  subst hnx
  have hd : decode cd.2.1 pc = .ok (.ldc_w n, 3) := by rw [hd]; congr 2; omega
  exact lv_ldcw hx hb hown (hts _ ow) hd (p_go_sem h la H locs hl S)
end
section
variable {mt : List pCd} {cd : pCd} {d : Nat} {Q : pQ} {nx a b k pc : Nat} {ls : List (Option Value)} {st : List Value} {M : Mem} {Qc : Array Value → State → Outcome → State → Prop}
theorem sd_ldc2_w (C : Bx p s m args meth c cd.1.cls cd.2.1 cd.2.2.1 cd.2.2.2.1 D cT ad lay A) (hR : d + 1 ≤ R.frames ∧ 64 * (d + 1) ≤ R.locals) (hcs : kc ≤ R.cells ∧ ks ≤ R.slots) (ih : p_ih l mt lay D cT ad d) (hq : ∀ (r : Option Value) (M : Mem) (t : State), Q r M → HM D cT ad lay M t.heap → va_F A s t → Qc args s (.returned (r.map (cv ad))) t) {n : Nat} (ok : p_eb cd.2.1 cd.2.2.1 (pc, nx, .ldc2_w n, a, b, k) = true ∧ p_ew mt cd.1.cls (pc, nx, .ldc2_w n, a, b, k)) (h : p_sem (ex mt lay d) Q (WX p l e R s m args below meth c kc ks D cT ad lay A cd.2.2.1 (MQ below Qc args s kc ks A)) (p_step cd lay nx (.ldc2_w n) a b k pc ls st M)) : WX p l e R s m args below meth c kc ks D cT ad lay A cd.2.2.1 (MQ below Qc args s kc ks A) (pc, ls, st, M) := by
  obtain ⟨ok, ow⟩ := ok
  simp only [p_eb, p_il, Bool.and_eq_true, Bool.or_eq_true, decide_eq_true_eq, beq_iff_eq] at ok
  obtain ⟨⟨⟨hd, hle⟩, hln⟩, hz⟩ := ok
  intro la H locs hl S
  have C' := C
  obtain ⟨⟨⟨hx, hb, hml, hown, hts⟩, hK, hJ⟩, hr, hlk⟩ := C
  simp only [p_step] at h
  have hnx : nx = pc + 3 := by rcases hln with hln | hln <;> omega
  subst hnx
  have hd : decode cd.2.1 pc = .ok (.ldc2_w n, 3) := by rw [hd]; congr 2; omega
  exact lv_ldc2 hx hb hown (hts _ ow) hd (p_go_sem h la H locs hl S)
end
section
variable {mt : List pCd} {cd : pCd} {d : Nat} {Q : pQ} {nx a b k pc : Nat} {ls : List (Option Value)} {st : List Value} {M : Mem} {Qc : Array Value → State → Outcome → State → Prop}
theorem sd_istore_n (C : Bx p s m args meth c cd.1.cls cd.2.1 cd.2.2.1 cd.2.2.2.1 D cT ad lay A) (hR : d + 1 ≤ R.frames ∧ 64 * (d + 1) ≤ R.locals) (hcs : kc ≤ R.cells ∧ ks ≤ R.slots) (ih : p_ih l mt lay D cT ad d) (hq : ∀ (r : Option Value) (M : Mem) (t : State), Q r M → HM D cT ad lay M t.heap → va_F A s t → Qc args s (.returned (r.map (cv ad))) t) {n : Fin 4} (ok : p_eb cd.2.1 cd.2.2.1 (pc, nx, .istore_n n, a, b, k) = true ∧ p_ew mt cd.1.cls (pc, nx, .istore_n n, a, b, k)) (h : p_sem (ex mt lay d) Q (WX p l e R s m args below meth c kc ks D cT ad lay A cd.2.2.1 (MQ below Qc args s kc ks A)) (p_step cd lay nx (.istore_n n) a b k pc ls st M)) : WX p l e R s m args below meth c kc ks D cT ad lay A cd.2.2.1 (MQ below Qc args s kc ks A) (pc, ls, st, M) := by
  obtain ⟨ok, ow⟩ := ok
  simp only [p_eb, p_il, Bool.and_eq_true, Bool.or_eq_true, decide_eq_true_eq, beq_iff_eq] at ok
  obtain ⟨⟨⟨hd, hle⟩, hln⟩, hz⟩ := ok
  intro la H locs hl S
  have C' := C
  obtain ⟨⟨⟨hx, hb, hml, hown, hts⟩, hK, hJ⟩, hr, hlk⟩ := C
  simp only [p_step] at h
  have hnx : nx = pc + 1 := by rcases hln with hln | hln <;> omega
  subst hnx
  have hd : decode cd.2.1 pc = .ok (.istore_n n, 1) := by rw [hd]; congr 2; omega
  split at h
  · next x st => exact lv_istore_n hx hb hd rfl hl (by simpa using hz) rfl (fun la' hl' => p_go_sem h la' H locs (LvOk.s1 (v := .int x) hl') S)
  · exact h.elim
end
section
variable {mt : List pCd} {cd : pCd} {d : Nat} {Q : pQ} {nx a b k pc : Nat} {ls : List (Option Value)} {st : List Value} {M : Mem} {Qc : Array Value → State → Outcome → State → Prop}
theorem sd_istore (C : Bx p s m args meth c cd.1.cls cd.2.1 cd.2.2.1 cd.2.2.2.1 D cT ad lay A) (hR : d + 1 ≤ R.frames ∧ 64 * (d + 1) ≤ R.locals) (hcs : kc ≤ R.cells ∧ ks ≤ R.slots) (ih : p_ih l mt lay D cT ad d) (hq : ∀ (r : Option Value) (M : Mem) (t : State), Q r M → HM D cT ad lay M t.heap → va_F A s t → Qc args s (.returned (r.map (cv ad))) t) {n : Nat} (ok : p_eb cd.2.1 cd.2.2.1 (pc, nx, .istore n, a, b, k) = true ∧ p_ew mt cd.1.cls (pc, nx, .istore n, a, b, k)) (h : p_sem (ex mt lay d) Q (WX p l e R s m args below meth c kc ks D cT ad lay A cd.2.2.1 (MQ below Qc args s kc ks A)) (p_step cd lay nx (.istore n) a b k pc ls st M)) : WX p l e R s m args below meth c kc ks D cT ad lay A cd.2.2.1 (MQ below Qc args s kc ks A) (pc, ls, st, M) := by
  obtain ⟨ok, ow⟩ := ok
  simp only [p_eb, p_il, Bool.and_eq_true, Bool.or_eq_true, decide_eq_true_eq, beq_iff_eq] at ok
  obtain ⟨⟨⟨hd, hle⟩, hln⟩, hz⟩ := ok
  intro la H locs hl S
  have C' := C
  obtain ⟨⟨⟨hx, hb, hml, hown, hts⟩, hK, hJ⟩, hr, hlk⟩ := C
  simp only [p_step] at h
  have hnx : nx = pc + 2 := by rcases hln with hln | hln <;> omega
  subst hnx
  have hd : decode cd.2.1 pc = .ok (.istore n, 2) := by rw [hd]; congr 2; omega
  split at h
  · next x st => exact lv_istore hx hb hd hl (by simpa using hz) rfl (fun la' hl' => p_go_sem h la' H locs (LvOk.s1 (v := .int x) hl') S)
  · exact h.elim
end
section
variable {mt : List pCd} {cd : pCd} {d : Nat} {Q : pQ} {nx a b k pc : Nat} {ls : List (Option Value)} {st : List Value} {M : Mem} {Qc : Array Value → State → Outcome → State → Prop}
theorem sd_astore_n (C : Bx p s m args meth c cd.1.cls cd.2.1 cd.2.2.1 cd.2.2.2.1 D cT ad lay A) (hR : d + 1 ≤ R.frames ∧ 64 * (d + 1) ≤ R.locals) (hcs : kc ≤ R.cells ∧ ks ≤ R.slots) (ih : p_ih l mt lay D cT ad d) (hq : ∀ (r : Option Value) (M : Mem) (t : State), Q r M → HM D cT ad lay M t.heap → va_F A s t → Qc args s (.returned (r.map (cv ad))) t) {n : Fin 4} (ok : p_eb cd.2.1 cd.2.2.1 (pc, nx, .astore_n n, a, b, k) = true ∧ p_ew mt cd.1.cls (pc, nx, .astore_n n, a, b, k)) (h : p_sem (ex mt lay d) Q (WX p l e R s m args below meth c kc ks D cT ad lay A cd.2.2.1 (MQ below Qc args s kc ks A)) (p_step cd lay nx (.astore_n n) a b k pc ls st M)) : WX p l e R s m args below meth c kc ks D cT ad lay A cd.2.2.1 (MQ below Qc args s kc ks A) (pc, ls, st, M) := by
  obtain ⟨ok, ow⟩ := ok
  simp only [p_eb, p_il, Bool.and_eq_true, Bool.or_eq_true, decide_eq_true_eq, beq_iff_eq] at ok
  obtain ⟨⟨⟨hd, hle⟩, hln⟩, hz⟩ := ok
  intro la H locs hl S
  have C' := C
  obtain ⟨⟨⟨hx, hb, hml, hown, hts⟩, hK, hJ⟩, hr, hlk⟩ := C
  simp only [p_step] at h
  have hnx : nx = pc + 1 := by rcases hln with hln | hln <;> omega
  subst hnx
  have hd : decode cd.2.1 pc = .ok (.astore_n n, 1) := by rw [hd]; congr 2; omega
  split at h
  · next x st => exact lv_astore_n hx hb hd rfl hl (by simpa using hz) rfl (fun la' hl' => p_go_sem h la' H locs (LvOk.s1 (v := .ref x) hl') S)
  · exact h.elim
end
section
variable {mt : List pCd} {cd : pCd} {d : Nat} {Q : pQ} {nx a b k pc : Nat} {ls : List (Option Value)} {st : List Value} {M : Mem} {Qc : Array Value → State → Outcome → State → Prop}
theorem sd_astore (C : Bx p s m args meth c cd.1.cls cd.2.1 cd.2.2.1 cd.2.2.2.1 D cT ad lay A) (hR : d + 1 ≤ R.frames ∧ 64 * (d + 1) ≤ R.locals) (hcs : kc ≤ R.cells ∧ ks ≤ R.slots) (ih : p_ih l mt lay D cT ad d) (hq : ∀ (r : Option Value) (M : Mem) (t : State), Q r M → HM D cT ad lay M t.heap → va_F A s t → Qc args s (.returned (r.map (cv ad))) t) {n : Nat} (ok : p_eb cd.2.1 cd.2.2.1 (pc, nx, .astore n, a, b, k) = true ∧ p_ew mt cd.1.cls (pc, nx, .astore n, a, b, k)) (h : p_sem (ex mt lay d) Q (WX p l e R s m args below meth c kc ks D cT ad lay A cd.2.2.1 (MQ below Qc args s kc ks A)) (p_step cd lay nx (.astore n) a b k pc ls st M)) : WX p l e R s m args below meth c kc ks D cT ad lay A cd.2.2.1 (MQ below Qc args s kc ks A) (pc, ls, st, M) := by
  obtain ⟨ok, ow⟩ := ok
  simp only [p_eb, p_il, Bool.and_eq_true, Bool.or_eq_true, decide_eq_true_eq, beq_iff_eq] at ok
  obtain ⟨⟨⟨hd, hle⟩, hln⟩, hz⟩ := ok
  intro la H locs hl S
  have C' := C
  obtain ⟨⟨⟨hx, hb, hml, hown, hts⟩, hK, hJ⟩, hr, hlk⟩ := C
  simp only [p_step] at h
  have hnx : nx = pc + 2 := by rcases hln with hln | hln <;> omega
  subst hnx
  have hd : decode cd.2.1 pc = .ok (.astore n, 2) := by rw [hd]; congr 2; omega
  split at h
  · next x st => exact lv_astore hx hb hd hl (by simpa using hz) rfl (fun la' hl' => p_go_sem h la' H locs (LvOk.s1 (v := .ref x) hl') S)
  · exact h.elim
end
section
variable {mt : List pCd} {cd : pCd} {d : Nat} {Q : pQ} {nx a b k pc : Nat} {ls : List (Option Value)} {st : List Value} {M : Mem} {Qc : Array Value → State → Outcome → State → Prop}
theorem sd_lstore_n (C : Bx p s m args meth c cd.1.cls cd.2.1 cd.2.2.1 cd.2.2.2.1 D cT ad lay A) (hR : d + 1 ≤ R.frames ∧ 64 * (d + 1) ≤ R.locals) (hcs : kc ≤ R.cells ∧ ks ≤ R.slots) (ih : p_ih l mt lay D cT ad d) (hq : ∀ (r : Option Value) (M : Mem) (t : State), Q r M → HM D cT ad lay M t.heap → va_F A s t → Qc args s (.returned (r.map (cv ad))) t) {n : Fin 4} (ok : p_eb cd.2.1 cd.2.2.1 (pc, nx, .lstore_n n, a, b, k) = true ∧ p_ew mt cd.1.cls (pc, nx, .lstore_n n, a, b, k)) (h : p_sem (ex mt lay d) Q (WX p l e R s m args below meth c kc ks D cT ad lay A cd.2.2.1 (MQ below Qc args s kc ks A)) (p_step cd lay nx (.lstore_n n) a b k pc ls st M)) : WX p l e R s m args below meth c kc ks D cT ad lay A cd.2.2.1 (MQ below Qc args s kc ks A) (pc, ls, st, M) := by
  obtain ⟨ok, ow⟩ := ok
  simp only [p_eb, p_il, Bool.and_eq_true, Bool.or_eq_true, decide_eq_true_eq, beq_iff_eq] at ok
  obtain ⟨⟨⟨hd, hle⟩, hln⟩, hz⟩ := ok
  intro la H locs hl S
  have C' := C
  obtain ⟨⟨⟨hx, hb, hml, hown, hts⟩, hK, hJ⟩, hr, hlk⟩ := C
  simp only [p_step] at h
  have hnx : nx = pc + 1 := by rcases hln with hln | hln <;> omega
  subst hnx
  have hd : decode cd.2.1 pc = .ok (.lstore_n n, 1) := by rw [hd]; congr 2; omega
  split at h
  · next x st => exact lv_lstore_n hx hb hd rfl hl (by simpa using hz) rfl (fun la' hl' => p_go_sem h la' H locs (LvOk.s2 (v := .long x) hl') S)
  · exact h.elim
end
section
variable {mt : List pCd} {cd : pCd} {d : Nat} {Q : pQ} {nx a b k pc : Nat} {ls : List (Option Value)} {st : List Value} {M : Mem} {Qc : Array Value → State → Outcome → State → Prop}
theorem sd_lstore (C : Bx p s m args meth c cd.1.cls cd.2.1 cd.2.2.1 cd.2.2.2.1 D cT ad lay A) (hR : d + 1 ≤ R.frames ∧ 64 * (d + 1) ≤ R.locals) (hcs : kc ≤ R.cells ∧ ks ≤ R.slots) (ih : p_ih l mt lay D cT ad d) (hq : ∀ (r : Option Value) (M : Mem) (t : State), Q r M → HM D cT ad lay M t.heap → va_F A s t → Qc args s (.returned (r.map (cv ad))) t) {n : Nat} (ok : p_eb cd.2.1 cd.2.2.1 (pc, nx, .lstore n, a, b, k) = true ∧ p_ew mt cd.1.cls (pc, nx, .lstore n, a, b, k)) (h : p_sem (ex mt lay d) Q (WX p l e R s m args below meth c kc ks D cT ad lay A cd.2.2.1 (MQ below Qc args s kc ks A)) (p_step cd lay nx (.lstore n) a b k pc ls st M)) : WX p l e R s m args below meth c kc ks D cT ad lay A cd.2.2.1 (MQ below Qc args s kc ks A) (pc, ls, st, M) := by
  obtain ⟨ok, ow⟩ := ok
  simp only [p_eb, p_il, Bool.and_eq_true, Bool.or_eq_true, decide_eq_true_eq, beq_iff_eq] at ok
  obtain ⟨⟨⟨hd, hle⟩, hln⟩, hz⟩ := ok
  intro la H locs hl S
  have C' := C
  obtain ⟨⟨⟨hx, hb, hml, hown, hts⟩, hK, hJ⟩, hr, hlk⟩ := C
  simp only [p_step] at h
  have hnx : nx = pc + 2 := by rcases hln with hln | hln <;> omega
  subst hnx
  have hd : decode cd.2.1 pc = .ok (.lstore n, 2) := by rw [hd]; congr 2; omega
  split at h
  · next x st => exact lv_lstore hx hb hd hl (by simpa using hz) rfl (fun la' hl' => p_go_sem h la' H locs (LvOk.s2 (v := .long x) hl') S)
  · exact h.elim
end
section
variable {mt : List pCd} {cd : pCd} {d : Nat} {Q : pQ} {nx a b k pc : Nat} {ls : List (Option Value)} {st : List Value} {M : Mem} {Qc : Array Value → State → Outcome → State → Prop}
theorem sd_iinc (C : Bx p s m args meth c cd.1.cls cd.2.1 cd.2.2.1 cd.2.2.2.1 D cT ad lay A) (hR : d + 1 ≤ R.frames ∧ 64 * (d + 1) ≤ R.locals) (hcs : kc ≤ R.cells ∧ ks ≤ R.slots) (ih : p_ih l mt lay D cT ad d) (hq : ∀ (r : Option Value) (M : Mem) (t : State), Q r M → HM D cT ad lay M t.heap → va_F A s t → Qc args s (.returned (r.map (cv ad))) t) {n : Nat} {i : Int} (ok : p_eb cd.2.1 cd.2.2.1 (pc, nx, .iinc n i, a, b, k) = true ∧ p_ew mt cd.1.cls (pc, nx, .iinc n i, a, b, k)) (h : p_sem (ex mt lay d) Q (WX p l e R s m args below meth c kc ks D cT ad lay A cd.2.2.1 (MQ below Qc args s kc ks A)) (p_step cd lay nx (.iinc n i) a b k pc ls st M)) : WX p l e R s m args below meth c kc ks D cT ad lay A cd.2.2.1 (MQ below Qc args s kc ks A) (pc, ls, st, M) := by
  obtain ⟨ok, ow⟩ := ok
  simp only [p_eb, p_il, Bool.and_eq_true, Bool.or_eq_true, decide_eq_true_eq, beq_iff_eq] at ok
  obtain ⟨⟨⟨hd, hle⟩, hln⟩, hz⟩ := ok
  intro la H locs hl S
  have C' := C
  obtain ⟨⟨⟨hx, hb, hml, hown, hts⟩, hK, hJ⟩, hr, hlk⟩ := C
  simp only [p_step] at h
  have hnx : nx = pc + 3 := by rcases hln with hln | hln <;> omega
  subst hnx
  have hd : decode cd.2.1 pc = .ok (.iinc n i, 3) := by rw [hd]; congr 2; omega
  split at h
  · next q hg =>
    obtain ⟨k0, hk0⟩ := List.mem_iff_getElem?.mp (p_ll_mem.mpr ⟨_, hg, rfl⟩ : (n, cv ad (.int q)) ∈ p_ll ad ls)
    exact lv_iinc hx hb hd hl hk0 rfl (by simpa using hz) rfl (fun la' hl' => p_go_sem h la' H locs (LvOk.s1 (v := .int (q + Int32.ofInt i)) hl') S)
  · exact h.elim
end
section
variable {mt : List pCd} {cd : pCd} {d : Nat} {Q : pQ} {nx a b k pc : Nat} {ls : List (Option Value)} {st : List Value} {M : Mem} {Qc : Array Value → State → Outcome → State → Prop}
theorem sd_iadd (C : Bx p s m args meth c cd.1.cls cd.2.1 cd.2.2.1 cd.2.2.2.1 D cT ad lay A) (hR : d + 1 ≤ R.frames ∧ 64 * (d + 1) ≤ R.locals) (hcs : kc ≤ R.cells ∧ ks ≤ R.slots) (ih : p_ih l mt lay D cT ad d) (hq : ∀ (r : Option Value) (M : Mem) (t : State), Q r M → HM D cT ad lay M t.heap → va_F A s t → Qc args s (.returned (r.map (cv ad))) t) (ok : p_eb cd.2.1 cd.2.2.1 (pc, nx, .iadd, a, b, k) = true ∧ p_ew mt cd.1.cls (pc, nx, .iadd, a, b, k)) (h : p_sem (ex mt lay d) Q (WX p l e R s m args below meth c kc ks D cT ad lay A cd.2.2.1 (MQ below Qc args s kc ks A)) (p_step cd lay nx (.iadd) a b k pc ls st M)) : WX p l e R s m args below meth c kc ks D cT ad lay A cd.2.2.1 (MQ below Qc args s kc ks A) (pc, ls, st, M) := by
  obtain ⟨ok, ow⟩ := ok
  simp only [p_eb, p_il, Bool.and_eq_true, Bool.or_eq_true, decide_eq_true_eq, beq_iff_eq] at ok
  obtain ⟨⟨⟨hd, hle⟩, hln⟩, hz⟩ := ok
  intro la H locs hl S
  have C' := C
  obtain ⟨⟨⟨hx, hb, hml, hown, hts⟩, hK, hJ⟩, hr, hlk⟩ := C
  simp only [p_step] at h
  have hnx : nx = pc + 1 := by rcases hln with hln | hln <;> omega
  subst hnx
  have hd : decode cd.2.1 pc = .ok (.iadd, 1) := by rw [hd]; congr 2; omega
  split at h
  · exact lv_iadd hx hb hd (p_go_sem h la H locs hl S)
  · exact h.elim
end
section
variable {mt : List pCd} {cd : pCd} {d : Nat} {Q : pQ} {nx a b k pc : Nat} {ls : List (Option Value)} {st : List Value} {M : Mem} {Qc : Array Value → State → Outcome → State → Prop}
theorem sd_isub (C : Bx p s m args meth c cd.1.cls cd.2.1 cd.2.2.1 cd.2.2.2.1 D cT ad lay A) (hR : d + 1 ≤ R.frames ∧ 64 * (d + 1) ≤ R.locals) (hcs : kc ≤ R.cells ∧ ks ≤ R.slots) (ih : p_ih l mt lay D cT ad d) (hq : ∀ (r : Option Value) (M : Mem) (t : State), Q r M → HM D cT ad lay M t.heap → va_F A s t → Qc args s (.returned (r.map (cv ad))) t) (ok : p_eb cd.2.1 cd.2.2.1 (pc, nx, .isub, a, b, k) = true ∧ p_ew mt cd.1.cls (pc, nx, .isub, a, b, k)) (h : p_sem (ex mt lay d) Q (WX p l e R s m args below meth c kc ks D cT ad lay A cd.2.2.1 (MQ below Qc args s kc ks A)) (p_step cd lay nx (.isub) a b k pc ls st M)) : WX p l e R s m args below meth c kc ks D cT ad lay A cd.2.2.1 (MQ below Qc args s kc ks A) (pc, ls, st, M) := by
  obtain ⟨ok, ow⟩ := ok
  simp only [p_eb, p_il, Bool.and_eq_true, Bool.or_eq_true, decide_eq_true_eq, beq_iff_eq] at ok
  obtain ⟨⟨⟨hd, hle⟩, hln⟩, hz⟩ := ok
  intro la H locs hl S
  have C' := C
  obtain ⟨⟨⟨hx, hb, hml, hown, hts⟩, hK, hJ⟩, hr, hlk⟩ := C
  simp only [p_step] at h
  have hnx : nx = pc + 1 := by rcases hln with hln | hln <;> omega
  subst hnx
  have hd : decode cd.2.1 pc = .ok (.isub, 1) := by rw [hd]; congr 2; omega
  split at h
  · exact lv_isub hx hb hd (p_go_sem h la H locs hl S)
  · exact h.elim
end
section
variable {mt : List pCd} {cd : pCd} {d : Nat} {Q : pQ} {nx a b k pc : Nat} {ls : List (Option Value)} {st : List Value} {M : Mem} {Qc : Array Value → State → Outcome → State → Prop}
theorem sd_imul (C : Bx p s m args meth c cd.1.cls cd.2.1 cd.2.2.1 cd.2.2.2.1 D cT ad lay A) (hR : d + 1 ≤ R.frames ∧ 64 * (d + 1) ≤ R.locals) (hcs : kc ≤ R.cells ∧ ks ≤ R.slots) (ih : p_ih l mt lay D cT ad d) (hq : ∀ (r : Option Value) (M : Mem) (t : State), Q r M → HM D cT ad lay M t.heap → va_F A s t → Qc args s (.returned (r.map (cv ad))) t) (ok : p_eb cd.2.1 cd.2.2.1 (pc, nx, .imul, a, b, k) = true ∧ p_ew mt cd.1.cls (pc, nx, .imul, a, b, k)) (h : p_sem (ex mt lay d) Q (WX p l e R s m args below meth c kc ks D cT ad lay A cd.2.2.1 (MQ below Qc args s kc ks A)) (p_step cd lay nx (.imul) a b k pc ls st M)) : WX p l e R s m args below meth c kc ks D cT ad lay A cd.2.2.1 (MQ below Qc args s kc ks A) (pc, ls, st, M) := by
  obtain ⟨ok, ow⟩ := ok
  simp only [p_eb, p_il, Bool.and_eq_true, Bool.or_eq_true, decide_eq_true_eq, beq_iff_eq] at ok
  obtain ⟨⟨⟨hd, hle⟩, hln⟩, hz⟩ := ok
  intro la H locs hl S
  have C' := C
  obtain ⟨⟨⟨hx, hb, hml, hown, hts⟩, hK, hJ⟩, hr, hlk⟩ := C
  simp only [p_step] at h
  have hnx : nx = pc + 1 := by rcases hln with hln | hln <;> omega
  subst hnx
  have hd : decode cd.2.1 pc = .ok (.imul, 1) := by rw [hd]; congr 2; omega
  split at h
  · exact lv_imul hx hb hd (p_go_sem h la H locs hl S)
  · exact h.elim
end
section
variable {mt : List pCd} {cd : pCd} {d : Nat} {Q : pQ} {nx a b k pc : Nat} {ls : List (Option Value)} {st : List Value} {M : Mem} {Qc : Array Value → State → Outcome → State → Prop}
theorem sd_iand (C : Bx p s m args meth c cd.1.cls cd.2.1 cd.2.2.1 cd.2.2.2.1 D cT ad lay A) (hR : d + 1 ≤ R.frames ∧ 64 * (d + 1) ≤ R.locals) (hcs : kc ≤ R.cells ∧ ks ≤ R.slots) (ih : p_ih l mt lay D cT ad d) (hq : ∀ (r : Option Value) (M : Mem) (t : State), Q r M → HM D cT ad lay M t.heap → va_F A s t → Qc args s (.returned (r.map (cv ad))) t) (ok : p_eb cd.2.1 cd.2.2.1 (pc, nx, .iand, a, b, k) = true ∧ p_ew mt cd.1.cls (pc, nx, .iand, a, b, k)) (h : p_sem (ex mt lay d) Q (WX p l e R s m args below meth c kc ks D cT ad lay A cd.2.2.1 (MQ below Qc args s kc ks A)) (p_step cd lay nx (.iand) a b k pc ls st M)) : WX p l e R s m args below meth c kc ks D cT ad lay A cd.2.2.1 (MQ below Qc args s kc ks A) (pc, ls, st, M) := by
  obtain ⟨ok, ow⟩ := ok
  simp only [p_eb, p_il, Bool.and_eq_true, Bool.or_eq_true, decide_eq_true_eq, beq_iff_eq] at ok
  obtain ⟨⟨⟨hd, hle⟩, hln⟩, hz⟩ := ok
  intro la H locs hl S
  have C' := C
  obtain ⟨⟨⟨hx, hb, hml, hown, hts⟩, hK, hJ⟩, hr, hlk⟩ := C
  simp only [p_step] at h
  have hnx : nx = pc + 1 := by rcases hln with hln | hln <;> omega
  subst hnx
  have hd : decode cd.2.1 pc = .ok (.iand, 1) := by rw [hd]; congr 2; omega
  split at h
  · exact lv_iand hx hb hd (p_go_sem h la H locs hl S)
  · exact h.elim
end
section
variable {mt : List pCd} {cd : pCd} {d : Nat} {Q : pQ} {nx a b k pc : Nat} {ls : List (Option Value)} {st : List Value} {M : Mem} {Qc : Array Value → State → Outcome → State → Prop}
theorem sd_ior (C : Bx p s m args meth c cd.1.cls cd.2.1 cd.2.2.1 cd.2.2.2.1 D cT ad lay A) (hR : d + 1 ≤ R.frames ∧ 64 * (d + 1) ≤ R.locals) (hcs : kc ≤ R.cells ∧ ks ≤ R.slots) (ih : p_ih l mt lay D cT ad d) (hq : ∀ (r : Option Value) (M : Mem) (t : State), Q r M → HM D cT ad lay M t.heap → va_F A s t → Qc args s (.returned (r.map (cv ad))) t) (ok : p_eb cd.2.1 cd.2.2.1 (pc, nx, .ior, a, b, k) = true ∧ p_ew mt cd.1.cls (pc, nx, .ior, a, b, k)) (h : p_sem (ex mt lay d) Q (WX p l e R s m args below meth c kc ks D cT ad lay A cd.2.2.1 (MQ below Qc args s kc ks A)) (p_step cd lay nx (.ior) a b k pc ls st M)) : WX p l e R s m args below meth c kc ks D cT ad lay A cd.2.2.1 (MQ below Qc args s kc ks A) (pc, ls, st, M) := by
  obtain ⟨ok, ow⟩ := ok
  simp only [p_eb, p_il, Bool.and_eq_true, Bool.or_eq_true, decide_eq_true_eq, beq_iff_eq] at ok
  obtain ⟨⟨⟨hd, hle⟩, hln⟩, hz⟩ := ok
  intro la H locs hl S
  have C' := C
  obtain ⟨⟨⟨hx, hb, hml, hown, hts⟩, hK, hJ⟩, hr, hlk⟩ := C
  simp only [p_step] at h
  have hnx : nx = pc + 1 := by rcases hln with hln | hln <;> omega
  subst hnx
  have hd : decode cd.2.1 pc = .ok (.ior, 1) := by rw [hd]; congr 2; omega
  split at h
  · exact lv_ior hx hb hd (p_go_sem h la H locs hl S)
  · exact h.elim
end
section
variable {mt : List pCd} {cd : pCd} {d : Nat} {Q : pQ} {nx a b k pc : Nat} {ls : List (Option Value)} {st : List Value} {M : Mem} {Qc : Array Value → State → Outcome → State → Prop}
theorem sd_ixor (C : Bx p s m args meth c cd.1.cls cd.2.1 cd.2.2.1 cd.2.2.2.1 D cT ad lay A) (hR : d + 1 ≤ R.frames ∧ 64 * (d + 1) ≤ R.locals) (hcs : kc ≤ R.cells ∧ ks ≤ R.slots) (ih : p_ih l mt lay D cT ad d) (hq : ∀ (r : Option Value) (M : Mem) (t : State), Q r M → HM D cT ad lay M t.heap → va_F A s t → Qc args s (.returned (r.map (cv ad))) t) (ok : p_eb cd.2.1 cd.2.2.1 (pc, nx, .ixor, a, b, k) = true ∧ p_ew mt cd.1.cls (pc, nx, .ixor, a, b, k)) (h : p_sem (ex mt lay d) Q (WX p l e R s m args below meth c kc ks D cT ad lay A cd.2.2.1 (MQ below Qc args s kc ks A)) (p_step cd lay nx (.ixor) a b k pc ls st M)) : WX p l e R s m args below meth c kc ks D cT ad lay A cd.2.2.1 (MQ below Qc args s kc ks A) (pc, ls, st, M) := by
  obtain ⟨ok, ow⟩ := ok
  simp only [p_eb, p_il, Bool.and_eq_true, Bool.or_eq_true, decide_eq_true_eq, beq_iff_eq] at ok
  obtain ⟨⟨⟨hd, hle⟩, hln⟩, hz⟩ := ok
  intro la H locs hl S
  have C' := C
  obtain ⟨⟨⟨hx, hb, hml, hown, hts⟩, hK, hJ⟩, hr, hlk⟩ := C
  simp only [p_step] at h
  have hnx : nx = pc + 1 := by rcases hln with hln | hln <;> omega
  subst hnx
  have hd : decode cd.2.1 pc = .ok (.ixor, 1) := by rw [hd]; congr 2; omega
  split at h
  · exact lv_ixor hx hb hd (p_go_sem h la H locs hl S)
  · exact h.elim
end
section
variable {mt : List pCd} {cd : pCd} {d : Nat} {Q : pQ} {nx a b k pc : Nat} {ls : List (Option Value)} {st : List Value} {M : Mem} {Qc : Array Value → State → Outcome → State → Prop}
theorem sd_ishl (C : Bx p s m args meth c cd.1.cls cd.2.1 cd.2.2.1 cd.2.2.2.1 D cT ad lay A) (hR : d + 1 ≤ R.frames ∧ 64 * (d + 1) ≤ R.locals) (hcs : kc ≤ R.cells ∧ ks ≤ R.slots) (ih : p_ih l mt lay D cT ad d) (hq : ∀ (r : Option Value) (M : Mem) (t : State), Q r M → HM D cT ad lay M t.heap → va_F A s t → Qc args s (.returned (r.map (cv ad))) t) (ok : p_eb cd.2.1 cd.2.2.1 (pc, nx, .ishl, a, b, k) = true ∧ p_ew mt cd.1.cls (pc, nx, .ishl, a, b, k)) (h : p_sem (ex mt lay d) Q (WX p l e R s m args below meth c kc ks D cT ad lay A cd.2.2.1 (MQ below Qc args s kc ks A)) (p_step cd lay nx (.ishl) a b k pc ls st M)) : WX p l e R s m args below meth c kc ks D cT ad lay A cd.2.2.1 (MQ below Qc args s kc ks A) (pc, ls, st, M) := by
  obtain ⟨ok, ow⟩ := ok
  simp only [p_eb, p_il, Bool.and_eq_true, Bool.or_eq_true, decide_eq_true_eq, beq_iff_eq] at ok
  obtain ⟨⟨⟨hd, hle⟩, hln⟩, hz⟩ := ok
  intro la H locs hl S
  have C' := C
  obtain ⟨⟨⟨hx, hb, hml, hown, hts⟩, hK, hJ⟩, hr, hlk⟩ := C
  simp only [p_step] at h
  have hnx : nx = pc + 1 := by rcases hln with hln | hln <;> omega
  subst hnx
  have hd : decode cd.2.1 pc = .ok (.ishl, 1) := by rw [hd]; congr 2; omega
  split at h
  · exact lv_ishl hx hb hd (p_go_sem h la H locs hl S)
  · exact h.elim
end
section
variable {mt : List pCd} {cd : pCd} {d : Nat} {Q : pQ} {nx a b k pc : Nat} {ls : List (Option Value)} {st : List Value} {M : Mem} {Qc : Array Value → State → Outcome → State → Prop}
theorem sd_ishr (C : Bx p s m args meth c cd.1.cls cd.2.1 cd.2.2.1 cd.2.2.2.1 D cT ad lay A) (hR : d + 1 ≤ R.frames ∧ 64 * (d + 1) ≤ R.locals) (hcs : kc ≤ R.cells ∧ ks ≤ R.slots) (ih : p_ih l mt lay D cT ad d) (hq : ∀ (r : Option Value) (M : Mem) (t : State), Q r M → HM D cT ad lay M t.heap → va_F A s t → Qc args s (.returned (r.map (cv ad))) t) (ok : p_eb cd.2.1 cd.2.2.1 (pc, nx, .ishr, a, b, k) = true ∧ p_ew mt cd.1.cls (pc, nx, .ishr, a, b, k)) (h : p_sem (ex mt lay d) Q (WX p l e R s m args below meth c kc ks D cT ad lay A cd.2.2.1 (MQ below Qc args s kc ks A)) (p_step cd lay nx (.ishr) a b k pc ls st M)) : WX p l e R s m args below meth c kc ks D cT ad lay A cd.2.2.1 (MQ below Qc args s kc ks A) (pc, ls, st, M) := by
  obtain ⟨ok, ow⟩ := ok
  simp only [p_eb, p_il, Bool.and_eq_true, Bool.or_eq_true, decide_eq_true_eq, beq_iff_eq] at ok
  obtain ⟨⟨⟨hd, hle⟩, hln⟩, hz⟩ := ok
  intro la H locs hl S
  have C' := C
  obtain ⟨⟨⟨hx, hb, hml, hown, hts⟩, hK, hJ⟩, hr, hlk⟩ := C
  simp only [p_step] at h
  have hnx : nx = pc + 1 := by rcases hln with hln | hln <;> omega
  subst hnx
  have hd : decode cd.2.1 pc = .ok (.ishr, 1) := by rw [hd]; congr 2; omega
  split at h
  · exact lv_ishr hx hb hd (p_go_sem h la H locs hl S)
  · exact h.elim
end
section
variable {mt : List pCd} {cd : pCd} {d : Nat} {Q : pQ} {nx a b k pc : Nat} {ls : List (Option Value)} {st : List Value} {M : Mem} {Qc : Array Value → State → Outcome → State → Prop}
theorem sd_ladd (C : Bx p s m args meth c cd.1.cls cd.2.1 cd.2.2.1 cd.2.2.2.1 D cT ad lay A) (hR : d + 1 ≤ R.frames ∧ 64 * (d + 1) ≤ R.locals) (hcs : kc ≤ R.cells ∧ ks ≤ R.slots) (ih : p_ih l mt lay D cT ad d) (hq : ∀ (r : Option Value) (M : Mem) (t : State), Q r M → HM D cT ad lay M t.heap → va_F A s t → Qc args s (.returned (r.map (cv ad))) t) (ok : p_eb cd.2.1 cd.2.2.1 (pc, nx, .ladd, a, b, k) = true ∧ p_ew mt cd.1.cls (pc, nx, .ladd, a, b, k)) (h : p_sem (ex mt lay d) Q (WX p l e R s m args below meth c kc ks D cT ad lay A cd.2.2.1 (MQ below Qc args s kc ks A)) (p_step cd lay nx (.ladd) a b k pc ls st M)) : WX p l e R s m args below meth c kc ks D cT ad lay A cd.2.2.1 (MQ below Qc args s kc ks A) (pc, ls, st, M) := by
  obtain ⟨ok, ow⟩ := ok
  simp only [p_eb, p_il, Bool.and_eq_true, Bool.or_eq_true, decide_eq_true_eq, beq_iff_eq] at ok
  obtain ⟨⟨⟨hd, hle⟩, hln⟩, hz⟩ := ok
  intro la H locs hl S
  have C' := C
  obtain ⟨⟨⟨hx, hb, hml, hown, hts⟩, hK, hJ⟩, hr, hlk⟩ := C
  simp only [p_step] at h
  have hnx : nx = pc + 1 := by rcases hln with hln | hln <;> omega
  subst hnx
  have hd : decode cd.2.1 pc = .ok (.ladd, 1) := by rw [hd]; congr 2; omega
  split at h
  · exact lv_ladd hx hb hd (p_go_sem h la H locs hl S)
  · exact h.elim
end
section
variable {mt : List pCd} {cd : pCd} {d : Nat} {Q : pQ} {nx a b k pc : Nat} {ls : List (Option Value)} {st : List Value} {M : Mem} {Qc : Array Value → State → Outcome → State → Prop}
theorem sd_lsub (C : Bx p s m args meth c cd.1.cls cd.2.1 cd.2.2.1 cd.2.2.2.1 D cT ad lay A) (hR : d + 1 ≤ R.frames ∧ 64 * (d + 1) ≤ R.locals) (hcs : kc ≤ R.cells ∧ ks ≤ R.slots) (ih : p_ih l mt lay D cT ad d) (hq : ∀ (r : Option Value) (M : Mem) (t : State), Q r M → HM D cT ad lay M t.heap → va_F A s t → Qc args s (.returned (r.map (cv ad))) t) (ok : p_eb cd.2.1 cd.2.2.1 (pc, nx, .lsub, a, b, k) = true ∧ p_ew mt cd.1.cls (pc, nx, .lsub, a, b, k)) (h : p_sem (ex mt lay d) Q (WX p l e R s m args below meth c kc ks D cT ad lay A cd.2.2.1 (MQ below Qc args s kc ks A)) (p_step cd lay nx (.lsub) a b k pc ls st M)) : WX p l e R s m args below meth c kc ks D cT ad lay A cd.2.2.1 (MQ below Qc args s kc ks A) (pc, ls, st, M) := by
  obtain ⟨ok, ow⟩ := ok
  simp only [p_eb, p_il, Bool.and_eq_true, Bool.or_eq_true, decide_eq_true_eq, beq_iff_eq] at ok
  obtain ⟨⟨⟨hd, hle⟩, hln⟩, hz⟩ := ok
  intro la H locs hl S
  have C' := C
  obtain ⟨⟨⟨hx, hb, hml, hown, hts⟩, hK, hJ⟩, hr, hlk⟩ := C
  simp only [p_step] at h
  have hnx : nx = pc + 1 := by rcases hln with hln | hln <;> omega
  subst hnx
  have hd : decode cd.2.1 pc = .ok (.lsub, 1) := by rw [hd]; congr 2; omega
  split at h
  · exact lv_lsub hx hb hd (p_go_sem h la H locs hl S)
  · exact h.elim
end
section
variable {mt : List pCd} {cd : pCd} {d : Nat} {Q : pQ} {nx a b k pc : Nat} {ls : List (Option Value)} {st : List Value} {M : Mem} {Qc : Array Value → State → Outcome → State → Prop}
theorem sd_lmul (C : Bx p s m args meth c cd.1.cls cd.2.1 cd.2.2.1 cd.2.2.2.1 D cT ad lay A) (hR : d + 1 ≤ R.frames ∧ 64 * (d + 1) ≤ R.locals) (hcs : kc ≤ R.cells ∧ ks ≤ R.slots) (ih : p_ih l mt lay D cT ad d) (hq : ∀ (r : Option Value) (M : Mem) (t : State), Q r M → HM D cT ad lay M t.heap → va_F A s t → Qc args s (.returned (r.map (cv ad))) t) (ok : p_eb cd.2.1 cd.2.2.1 (pc, nx, .lmul, a, b, k) = true ∧ p_ew mt cd.1.cls (pc, nx, .lmul, a, b, k)) (h : p_sem (ex mt lay d) Q (WX p l e R s m args below meth c kc ks D cT ad lay A cd.2.2.1 (MQ below Qc args s kc ks A)) (p_step cd lay nx (.lmul) a b k pc ls st M)) : WX p l e R s m args below meth c kc ks D cT ad lay A cd.2.2.1 (MQ below Qc args s kc ks A) (pc, ls, st, M) := by
  obtain ⟨ok, ow⟩ := ok
  simp only [p_eb, p_il, Bool.and_eq_true, Bool.or_eq_true, decide_eq_true_eq, beq_iff_eq] at ok
  obtain ⟨⟨⟨hd, hle⟩, hln⟩, hz⟩ := ok
  intro la H locs hl S
  have C' := C
  obtain ⟨⟨⟨hx, hb, hml, hown, hts⟩, hK, hJ⟩, hr, hlk⟩ := C
  simp only [p_step] at h
  have hnx : nx = pc + 1 := by rcases hln with hln | hln <;> omega
  subst hnx
  have hd : decode cd.2.1 pc = .ok (.lmul, 1) := by rw [hd]; congr 2; omega
  split at h
  · exact lv_lmul hx hb hd (p_go_sem h la H locs hl S)
  · exact h.elim
end
section
variable {mt : List pCd} {cd : pCd} {d : Nat} {Q : pQ} {nx a b k pc : Nat} {ls : List (Option Value)} {st : List Value} {M : Mem} {Qc : Array Value → State → Outcome → State → Prop}
theorem sd_land (C : Bx p s m args meth c cd.1.cls cd.2.1 cd.2.2.1 cd.2.2.2.1 D cT ad lay A) (hR : d + 1 ≤ R.frames ∧ 64 * (d + 1) ≤ R.locals) (hcs : kc ≤ R.cells ∧ ks ≤ R.slots) (ih : p_ih l mt lay D cT ad d) (hq : ∀ (r : Option Value) (M : Mem) (t : State), Q r M → HM D cT ad lay M t.heap → va_F A s t → Qc args s (.returned (r.map (cv ad))) t) (ok : p_eb cd.2.1 cd.2.2.1 (pc, nx, .land, a, b, k) = true ∧ p_ew mt cd.1.cls (pc, nx, .land, a, b, k)) (h : p_sem (ex mt lay d) Q (WX p l e R s m args below meth c kc ks D cT ad lay A cd.2.2.1 (MQ below Qc args s kc ks A)) (p_step cd lay nx (.land) a b k pc ls st M)) : WX p l e R s m args below meth c kc ks D cT ad lay A cd.2.2.1 (MQ below Qc args s kc ks A) (pc, ls, st, M) := by
  obtain ⟨ok, ow⟩ := ok
  simp only [p_eb, p_il, Bool.and_eq_true, Bool.or_eq_true, decide_eq_true_eq, beq_iff_eq] at ok
  obtain ⟨⟨⟨hd, hle⟩, hln⟩, hz⟩ := ok
  intro la H locs hl S
  have C' := C
  obtain ⟨⟨⟨hx, hb, hml, hown, hts⟩, hK, hJ⟩, hr, hlk⟩ := C
  simp only [p_step] at h
  have hnx : nx = pc + 1 := by rcases hln with hln | hln <;> omega
  subst hnx
  have hd : decode cd.2.1 pc = .ok (.land, 1) := by rw [hd]; congr 2; omega
  split at h
  · exact lv_land hx hb hd (p_go_sem h la H locs hl S)
  · exact h.elim
end
section
variable {mt : List pCd} {cd : pCd} {d : Nat} {Q : pQ} {nx a b k pc : Nat} {ls : List (Option Value)} {st : List Value} {M : Mem} {Qc : Array Value → State → Outcome → State → Prop}
theorem sd_lor (C : Bx p s m args meth c cd.1.cls cd.2.1 cd.2.2.1 cd.2.2.2.1 D cT ad lay A) (hR : d + 1 ≤ R.frames ∧ 64 * (d + 1) ≤ R.locals) (hcs : kc ≤ R.cells ∧ ks ≤ R.slots) (ih : p_ih l mt lay D cT ad d) (hq : ∀ (r : Option Value) (M : Mem) (t : State), Q r M → HM D cT ad lay M t.heap → va_F A s t → Qc args s (.returned (r.map (cv ad))) t) (ok : p_eb cd.2.1 cd.2.2.1 (pc, nx, .lor, a, b, k) = true ∧ p_ew mt cd.1.cls (pc, nx, .lor, a, b, k)) (h : p_sem (ex mt lay d) Q (WX p l e R s m args below meth c kc ks D cT ad lay A cd.2.2.1 (MQ below Qc args s kc ks A)) (p_step cd lay nx (.lor) a b k pc ls st M)) : WX p l e R s m args below meth c kc ks D cT ad lay A cd.2.2.1 (MQ below Qc args s kc ks A) (pc, ls, st, M) := by
  obtain ⟨ok, ow⟩ := ok
  simp only [p_eb, p_il, Bool.and_eq_true, Bool.or_eq_true, decide_eq_true_eq, beq_iff_eq] at ok
  obtain ⟨⟨⟨hd, hle⟩, hln⟩, hz⟩ := ok
  intro la H locs hl S
  have C' := C
  obtain ⟨⟨⟨hx, hb, hml, hown, hts⟩, hK, hJ⟩, hr, hlk⟩ := C
  simp only [p_step] at h
  have hnx : nx = pc + 1 := by rcases hln with hln | hln <;> omega
  subst hnx
  have hd : decode cd.2.1 pc = .ok (.lor, 1) := by rw [hd]; congr 2; omega
  split at h
  · exact lv_lor hx hb hd (p_go_sem h la H locs hl S)
  · exact h.elim
end
section
variable {mt : List pCd} {cd : pCd} {d : Nat} {Q : pQ} {nx a b k pc : Nat} {ls : List (Option Value)} {st : List Value} {M : Mem} {Qc : Array Value → State → Outcome → State → Prop}
theorem sd_idiv (C : Bx p s m args meth c cd.1.cls cd.2.1 cd.2.2.1 cd.2.2.2.1 D cT ad lay A) (hR : d + 1 ≤ R.frames ∧ 64 * (d + 1) ≤ R.locals) (hcs : kc ≤ R.cells ∧ ks ≤ R.slots) (ih : p_ih l mt lay D cT ad d) (hq : ∀ (r : Option Value) (M : Mem) (t : State), Q r M → HM D cT ad lay M t.heap → va_F A s t → Qc args s (.returned (r.map (cv ad))) t) (ok : p_eb cd.2.1 cd.2.2.1 (pc, nx, .idiv, a, b, k) = true ∧ p_ew mt cd.1.cls (pc, nx, .idiv, a, b, k)) (h : p_sem (ex mt lay d) Q (WX p l e R s m args below meth c kc ks D cT ad lay A cd.2.2.1 (MQ below Qc args s kc ks A)) (p_step cd lay nx (.idiv) a b k pc ls st M)) : WX p l e R s m args below meth c kc ks D cT ad lay A cd.2.2.1 (MQ below Qc args s kc ks A) (pc, ls, st, M) := by
  obtain ⟨ok, ow⟩ := ok
  simp only [p_eb, p_il, Bool.and_eq_true, Bool.or_eq_true, decide_eq_true_eq, beq_iff_eq] at ok
  obtain ⟨⟨⟨hd, hle⟩, hln⟩, hz⟩ := ok
  intro la H locs hl S
  have C' := C
  obtain ⟨⟨⟨hx, hb, hml, hown, hts⟩, hK, hJ⟩, hr, hlk⟩ := C
  simp only [p_step] at h
  have hnx : nx = pc + 1 := by rcases hln with hln | hln <;> omega
  subst hnx
  have hd : decode cd.2.1 pc = .ok (.idiv, 1) := by rw [hd]; congr 2; omega
  split at h
  · exact lv_idiv hx hb hd (p_on_sem h).1 ((p_on_sem h).2 la H locs hl S)
  · exact h.elim
end
section
variable {mt : List pCd} {cd : pCd} {d : Nat} {Q : pQ} {nx a b k pc : Nat} {ls : List (Option Value)} {st : List Value} {M : Mem} {Qc : Array Value → State → Outcome → State → Prop}
theorem sd_irem (C : Bx p s m args meth c cd.1.cls cd.2.1 cd.2.2.1 cd.2.2.2.1 D cT ad lay A) (hR : d + 1 ≤ R.frames ∧ 64 * (d + 1) ≤ R.locals) (hcs : kc ≤ R.cells ∧ ks ≤ R.slots) (ih : p_ih l mt lay D cT ad d) (hq : ∀ (r : Option Value) (M : Mem) (t : State), Q r M → HM D cT ad lay M t.heap → va_F A s t → Qc args s (.returned (r.map (cv ad))) t) (ok : p_eb cd.2.1 cd.2.2.1 (pc, nx, .irem, a, b, k) = true ∧ p_ew mt cd.1.cls (pc, nx, .irem, a, b, k)) (h : p_sem (ex mt lay d) Q (WX p l e R s m args below meth c kc ks D cT ad lay A cd.2.2.1 (MQ below Qc args s kc ks A)) (p_step cd lay nx (.irem) a b k pc ls st M)) : WX p l e R s m args below meth c kc ks D cT ad lay A cd.2.2.1 (MQ below Qc args s kc ks A) (pc, ls, st, M) := by
  obtain ⟨ok, ow⟩ := ok
  simp only [p_eb, p_il, Bool.and_eq_true, Bool.or_eq_true, decide_eq_true_eq, beq_iff_eq] at ok
  obtain ⟨⟨⟨hd, hle⟩, hln⟩, hz⟩ := ok
  intro la H locs hl S
  have C' := C
  obtain ⟨⟨⟨hx, hb, hml, hown, hts⟩, hK, hJ⟩, hr, hlk⟩ := C
  simp only [p_step] at h
  have hnx : nx = pc + 1 := by rcases hln with hln | hln <;> omega
  subst hnx
  have hd : decode cd.2.1 pc = .ok (.irem, 1) := by rw [hd]; congr 2; omega
  split at h
  · exact lv_irem hx hb hd (p_on_sem h).1 ((p_on_sem h).2 la H locs hl S)
  · exact h.elim
end
section
variable {mt : List pCd} {cd : pCd} {d : Nat} {Q : pQ} {nx a b k pc : Nat} {ls : List (Option Value)} {st : List Value} {M : Mem} {Qc : Array Value → State → Outcome → State → Prop}
theorem sd_ldiv (C : Bx p s m args meth c cd.1.cls cd.2.1 cd.2.2.1 cd.2.2.2.1 D cT ad lay A) (hR : d + 1 ≤ R.frames ∧ 64 * (d + 1) ≤ R.locals) (hcs : kc ≤ R.cells ∧ ks ≤ R.slots) (ih : p_ih l mt lay D cT ad d) (hq : ∀ (r : Option Value) (M : Mem) (t : State), Q r M → HM D cT ad lay M t.heap → va_F A s t → Qc args s (.returned (r.map (cv ad))) t) (ok : p_eb cd.2.1 cd.2.2.1 (pc, nx, .ldiv, a, b, k) = true ∧ p_ew mt cd.1.cls (pc, nx, .ldiv, a, b, k)) (h : p_sem (ex mt lay d) Q (WX p l e R s m args below meth c kc ks D cT ad lay A cd.2.2.1 (MQ below Qc args s kc ks A)) (p_step cd lay nx (.ldiv) a b k pc ls st M)) : WX p l e R s m args below meth c kc ks D cT ad lay A cd.2.2.1 (MQ below Qc args s kc ks A) (pc, ls, st, M) := by
  obtain ⟨ok, ow⟩ := ok
  simp only [p_eb, p_il, Bool.and_eq_true, Bool.or_eq_true, decide_eq_true_eq, beq_iff_eq] at ok
  obtain ⟨⟨⟨hd, hle⟩, hln⟩, hz⟩ := ok
  intro la H locs hl S
  have C' := C
  obtain ⟨⟨⟨hx, hb, hml, hown, hts⟩, hK, hJ⟩, hr, hlk⟩ := C
  simp only [p_step] at h
  have hnx : nx = pc + 1 := by rcases hln with hln | hln <;> omega
  subst hnx
  have hd : decode cd.2.1 pc = .ok (.ldiv, 1) := by rw [hd]; congr 2; omega
  split at h
  · exact lv_ldiv hx hb hd (p_on_sem h).1 ((p_on_sem h).2 la H locs hl S)
  · exact h.elim
end
section
variable {mt : List pCd} {cd : pCd} {d : Nat} {Q : pQ} {nx a b k pc : Nat} {ls : List (Option Value)} {st : List Value} {M : Mem} {Qc : Array Value → State → Outcome → State → Prop}
theorem sd_lrem (C : Bx p s m args meth c cd.1.cls cd.2.1 cd.2.2.1 cd.2.2.2.1 D cT ad lay A) (hR : d + 1 ≤ R.frames ∧ 64 * (d + 1) ≤ R.locals) (hcs : kc ≤ R.cells ∧ ks ≤ R.slots) (ih : p_ih l mt lay D cT ad d) (hq : ∀ (r : Option Value) (M : Mem) (t : State), Q r M → HM D cT ad lay M t.heap → va_F A s t → Qc args s (.returned (r.map (cv ad))) t) (ok : p_eb cd.2.1 cd.2.2.1 (pc, nx, .lrem, a, b, k) = true ∧ p_ew mt cd.1.cls (pc, nx, .lrem, a, b, k)) (h : p_sem (ex mt lay d) Q (WX p l e R s m args below meth c kc ks D cT ad lay A cd.2.2.1 (MQ below Qc args s kc ks A)) (p_step cd lay nx (.lrem) a b k pc ls st M)) : WX p l e R s m args below meth c kc ks D cT ad lay A cd.2.2.1 (MQ below Qc args s kc ks A) (pc, ls, st, M) := by
  obtain ⟨ok, ow⟩ := ok
  simp only [p_eb, p_il, Bool.and_eq_true, Bool.or_eq_true, decide_eq_true_eq, beq_iff_eq] at ok
  obtain ⟨⟨⟨hd, hle⟩, hln⟩, hz⟩ := ok
  intro la H locs hl S
  have C' := C
  obtain ⟨⟨⟨hx, hb, hml, hown, hts⟩, hK, hJ⟩, hr, hlk⟩ := C
  simp only [p_step] at h
  have hnx : nx = pc + 1 := by rcases hln with hln | hln <;> omega
  subst hnx
  have hd : decode cd.2.1 pc = .ok (.lrem, 1) := by rw [hd]; congr 2; omega
  split at h
  · exact lv_lrem hx hb hd (p_on_sem h).1 ((p_on_sem h).2 la H locs hl S)
  · exact h.elim
end
section
variable {mt : List pCd} {cd : pCd} {d : Nat} {Q : pQ} {nx a b k pc : Nat} {ls : List (Option Value)} {st : List Value} {M : Mem} {Qc : Array Value → State → Outcome → State → Prop}
theorem sd_iushr (C : Bx p s m args meth c cd.1.cls cd.2.1 cd.2.2.1 cd.2.2.2.1 D cT ad lay A) (hR : d + 1 ≤ R.frames ∧ 64 * (d + 1) ≤ R.locals) (hcs : kc ≤ R.cells ∧ ks ≤ R.slots) (ih : p_ih l mt lay D cT ad d) (hq : ∀ (r : Option Value) (M : Mem) (t : State), Q r M → HM D cT ad lay M t.heap → va_F A s t → Qc args s (.returned (r.map (cv ad))) t) (ok : p_eb cd.2.1 cd.2.2.1 (pc, nx, .iushr, a, b, k) = true ∧ p_ew mt cd.1.cls (pc, nx, .iushr, a, b, k)) (h : p_sem (ex mt lay d) Q (WX p l e R s m args below meth c kc ks D cT ad lay A cd.2.2.1 (MQ below Qc args s kc ks A)) (p_step cd lay nx (.iushr) a b k pc ls st M)) : WX p l e R s m args below meth c kc ks D cT ad lay A cd.2.2.1 (MQ below Qc args s kc ks A) (pc, ls, st, M) := by
  obtain ⟨ok, ow⟩ := ok
  simp only [p_eb, p_il, Bool.and_eq_true, Bool.or_eq_true, decide_eq_true_eq, beq_iff_eq] at ok
  obtain ⟨⟨⟨hd, hle⟩, hln⟩, hz⟩ := ok
  intro la H locs hl S
  have C' := C
  obtain ⟨⟨⟨hx, hb, hml, hown, hts⟩, hK, hJ⟩, hr, hlk⟩ := C
  simp only [p_step] at h
  have hnx : nx = pc + 1 := by rcases hln with hln | hln <;> omega
  subst hnx
  have hd : decode cd.2.1 pc = .ok (.iushr, 1) := by rw [hd]; congr 2; omega
  split at h
  · exact lv_iushr hx hb hd rfl (p_go_sem h la H locs hl S)
  · exact h.elim
end
section
variable {mt : List pCd} {cd : pCd} {d : Nat} {Q : pQ} {nx a b k pc : Nat} {ls : List (Option Value)} {st : List Value} {M : Mem} {Qc : Array Value → State → Outcome → State → Prop}
theorem sd_lshl (C : Bx p s m args meth c cd.1.cls cd.2.1 cd.2.2.1 cd.2.2.2.1 D cT ad lay A) (hR : d + 1 ≤ R.frames ∧ 64 * (d + 1) ≤ R.locals) (hcs : kc ≤ R.cells ∧ ks ≤ R.slots) (ih : p_ih l mt lay D cT ad d) (hq : ∀ (r : Option Value) (M : Mem) (t : State), Q r M → HM D cT ad lay M t.heap → va_F A s t → Qc args s (.returned (r.map (cv ad))) t) (ok : p_eb cd.2.1 cd.2.2.1 (pc, nx, .lshl, a, b, k) = true ∧ p_ew mt cd.1.cls (pc, nx, .lshl, a, b, k)) (h : p_sem (ex mt lay d) Q (WX p l e R s m args below meth c kc ks D cT ad lay A cd.2.2.1 (MQ below Qc args s kc ks A)) (p_step cd lay nx (.lshl) a b k pc ls st M)) : WX p l e R s m args below meth c kc ks D cT ad lay A cd.2.2.1 (MQ below Qc args s kc ks A) (pc, ls, st, M) := by
  obtain ⟨ok, ow⟩ := ok
  simp only [p_eb, p_il, Bool.and_eq_true, Bool.or_eq_true, decide_eq_true_eq, beq_iff_eq] at ok
  obtain ⟨⟨⟨hd, hle⟩, hln⟩, hz⟩ := ok
  intro la H locs hl S
  have C' := C
  obtain ⟨⟨⟨hx, hb, hml, hown, hts⟩, hK, hJ⟩, hr, hlk⟩ := C
  simp only [p_step] at h
  have hnx : nx = pc + 1 := by rcases hln with hln | hln <;> omega
  subst hnx
  have hd : decode cd.2.1 pc = .ok (.lshl, 1) := by rw [hd]; congr 2; omega
  split at h
  · exact lv_lshl hx hb hd rfl (p_go_sem h la H locs hl S)
  · exact h.elim
end
section
variable {mt : List pCd} {cd : pCd} {d : Nat} {Q : pQ} {nx a b k pc : Nat} {ls : List (Option Value)} {st : List Value} {M : Mem} {Qc : Array Value → State → Outcome → State → Prop}
theorem sd_lshr (C : Bx p s m args meth c cd.1.cls cd.2.1 cd.2.2.1 cd.2.2.2.1 D cT ad lay A) (hR : d + 1 ≤ R.frames ∧ 64 * (d + 1) ≤ R.locals) (hcs : kc ≤ R.cells ∧ ks ≤ R.slots) (ih : p_ih l mt lay D cT ad d) (hq : ∀ (r : Option Value) (M : Mem) (t : State), Q r M → HM D cT ad lay M t.heap → va_F A s t → Qc args s (.returned (r.map (cv ad))) t) (ok : p_eb cd.2.1 cd.2.2.1 (pc, nx, .lshr, a, b, k) = true ∧ p_ew mt cd.1.cls (pc, nx, .lshr, a, b, k)) (h : p_sem (ex mt lay d) Q (WX p l e R s m args below meth c kc ks D cT ad lay A cd.2.2.1 (MQ below Qc args s kc ks A)) (p_step cd lay nx (.lshr) a b k pc ls st M)) : WX p l e R s m args below meth c kc ks D cT ad lay A cd.2.2.1 (MQ below Qc args s kc ks A) (pc, ls, st, M) := by
  obtain ⟨ok, ow⟩ := ok
  simp only [p_eb, p_il, Bool.and_eq_true, Bool.or_eq_true, decide_eq_true_eq, beq_iff_eq] at ok
  obtain ⟨⟨⟨hd, hle⟩, hln⟩, hz⟩ := ok
  intro la H locs hl S
  have C' := C
  obtain ⟨⟨⟨hx, hb, hml, hown, hts⟩, hK, hJ⟩, hr, hlk⟩ := C
  simp only [p_step] at h
  have hnx : nx = pc + 1 := by rcases hln with hln | hln <;> omega
  subst hnx
  have hd : decode cd.2.1 pc = .ok (.lshr, 1) := by rw [hd]; congr 2; omega
  split at h
  · exact lv_lshr hx hb hd rfl (p_go_sem h la H locs hl S)
  · exact h.elim
end
section
variable {mt : List pCd} {cd : pCd} {d : Nat} {Q : pQ} {nx a b k pc : Nat} {ls : List (Option Value)} {st : List Value} {M : Mem} {Qc : Array Value → State → Outcome → State → Prop}
theorem sd_i2l (C : Bx p s m args meth c cd.1.cls cd.2.1 cd.2.2.1 cd.2.2.2.1 D cT ad lay A) (hR : d + 1 ≤ R.frames ∧ 64 * (d + 1) ≤ R.locals) (hcs : kc ≤ R.cells ∧ ks ≤ R.slots) (ih : p_ih l mt lay D cT ad d) (hq : ∀ (r : Option Value) (M : Mem) (t : State), Q r M → HM D cT ad lay M t.heap → va_F A s t → Qc args s (.returned (r.map (cv ad))) t) (ok : p_eb cd.2.1 cd.2.2.1 (pc, nx, .i2l, a, b, k) = true ∧ p_ew mt cd.1.cls (pc, nx, .i2l, a, b, k)) (h : p_sem (ex mt lay d) Q (WX p l e R s m args below meth c kc ks D cT ad lay A cd.2.2.1 (MQ below Qc args s kc ks A)) (p_step cd lay nx (.i2l) a b k pc ls st M)) : WX p l e R s m args below meth c kc ks D cT ad lay A cd.2.2.1 (MQ below Qc args s kc ks A) (pc, ls, st, M) := by
  obtain ⟨ok, ow⟩ := ok
  simp only [p_eb, p_il, Bool.and_eq_true, Bool.or_eq_true, decide_eq_true_eq, beq_iff_eq] at ok
  obtain ⟨⟨⟨hd, hle⟩, hln⟩, hz⟩ := ok
  intro la H locs hl S
  have C' := C
  obtain ⟨⟨⟨hx, hb, hml, hown, hts⟩, hK, hJ⟩, hr, hlk⟩ := C
  simp only [p_step] at h
  have hnx : nx = pc + 1 := by rcases hln with hln | hln <;> omega
  subst hnx
  have hd : decode cd.2.1 pc = .ok (.i2l, 1) := by rw [hd]; congr 2; omega
  split at h
  · exact lv_i2l hx hb hd rfl (p_go_sem h la H locs hl S)
  · exact h.elim
end
section
variable {mt : List pCd} {cd : pCd} {d : Nat} {Q : pQ} {nx a b k pc : Nat} {ls : List (Option Value)} {st : List Value} {M : Mem} {Qc : Array Value → State → Outcome → State → Prop}
theorem sd_l2i (C : Bx p s m args meth c cd.1.cls cd.2.1 cd.2.2.1 cd.2.2.2.1 D cT ad lay A) (hR : d + 1 ≤ R.frames ∧ 64 * (d + 1) ≤ R.locals) (hcs : kc ≤ R.cells ∧ ks ≤ R.slots) (ih : p_ih l mt lay D cT ad d) (hq : ∀ (r : Option Value) (M : Mem) (t : State), Q r M → HM D cT ad lay M t.heap → va_F A s t → Qc args s (.returned (r.map (cv ad))) t) (ok : p_eb cd.2.1 cd.2.2.1 (pc, nx, .l2i, a, b, k) = true ∧ p_ew mt cd.1.cls (pc, nx, .l2i, a, b, k)) (h : p_sem (ex mt lay d) Q (WX p l e R s m args below meth c kc ks D cT ad lay A cd.2.2.1 (MQ below Qc args s kc ks A)) (p_step cd lay nx (.l2i) a b k pc ls st M)) : WX p l e R s m args below meth c kc ks D cT ad lay A cd.2.2.1 (MQ below Qc args s kc ks A) (pc, ls, st, M) := by
  obtain ⟨ok, ow⟩ := ok
  simp only [p_eb, p_il, Bool.and_eq_true, Bool.or_eq_true, decide_eq_true_eq, beq_iff_eq] at ok
  obtain ⟨⟨⟨hd, hle⟩, hln⟩, hz⟩ := ok
  intro la H locs hl S
  have C' := C
  obtain ⟨⟨⟨hx, hb, hml, hown, hts⟩, hK, hJ⟩, hr, hlk⟩ := C
  simp only [p_step] at h
  have hnx : nx = pc + 1 := by rcases hln with hln | hln <;> omega
  subst hnx
  have hd : decode cd.2.1 pc = .ok (.l2i, 1) := by rw [hd]; congr 2; omega
  split at h
  · exact lv_l2i hx hb hd rfl (p_go_sem h la H locs hl S)
  · exact h.elim
end
section
variable {mt : List pCd} {cd : pCd} {d : Nat} {Q : pQ} {nx a b k pc : Nat} {ls : List (Option Value)} {st : List Value} {M : Mem} {Qc : Array Value → State → Outcome → State → Prop}
theorem sd_i2b (C : Bx p s m args meth c cd.1.cls cd.2.1 cd.2.2.1 cd.2.2.2.1 D cT ad lay A) (hR : d + 1 ≤ R.frames ∧ 64 * (d + 1) ≤ R.locals) (hcs : kc ≤ R.cells ∧ ks ≤ R.slots) (ih : p_ih l mt lay D cT ad d) (hq : ∀ (r : Option Value) (M : Mem) (t : State), Q r M → HM D cT ad lay M t.heap → va_F A s t → Qc args s (.returned (r.map (cv ad))) t) (ok : p_eb cd.2.1 cd.2.2.1 (pc, nx, .i2b, a, b, k) = true ∧ p_ew mt cd.1.cls (pc, nx, .i2b, a, b, k)) (h : p_sem (ex mt lay d) Q (WX p l e R s m args below meth c kc ks D cT ad lay A cd.2.2.1 (MQ below Qc args s kc ks A)) (p_step cd lay nx (.i2b) a b k pc ls st M)) : WX p l e R s m args below meth c kc ks D cT ad lay A cd.2.2.1 (MQ below Qc args s kc ks A) (pc, ls, st, M) := by
  obtain ⟨ok, ow⟩ := ok
  simp only [p_eb, p_il, Bool.and_eq_true, Bool.or_eq_true, decide_eq_true_eq, beq_iff_eq] at ok
  obtain ⟨⟨⟨hd, hle⟩, hln⟩, hz⟩ := ok
  intro la H locs hl S
  have C' := C
  obtain ⟨⟨⟨hx, hb, hml, hown, hts⟩, hK, hJ⟩, hr, hlk⟩ := C
  simp only [p_step] at h
  have hnx : nx = pc + 1 := by rcases hln with hln | hln <;> omega
  subst hnx
  have hd : decode cd.2.1 pc = .ok (.i2b, 1) := by rw [hd]; congr 2; omega
  split at h
  · exact lv_i2b hx hb hd rfl (p_go_sem h la H locs hl S)
  · exact h.elim
end
section
variable {mt : List pCd} {cd : pCd} {d : Nat} {Q : pQ} {nx a b k pc : Nat} {ls : List (Option Value)} {st : List Value} {M : Mem} {Qc : Array Value → State → Outcome → State → Prop}
theorem sd_lcmp (C : Bx p s m args meth c cd.1.cls cd.2.1 cd.2.2.1 cd.2.2.2.1 D cT ad lay A) (hR : d + 1 ≤ R.frames ∧ 64 * (d + 1) ≤ R.locals) (hcs : kc ≤ R.cells ∧ ks ≤ R.slots) (ih : p_ih l mt lay D cT ad d) (hq : ∀ (r : Option Value) (M : Mem) (t : State), Q r M → HM D cT ad lay M t.heap → va_F A s t → Qc args s (.returned (r.map (cv ad))) t) (ok : p_eb cd.2.1 cd.2.2.1 (pc, nx, .lcmp, a, b, k) = true ∧ p_ew mt cd.1.cls (pc, nx, .lcmp, a, b, k)) (h : p_sem (ex mt lay d) Q (WX p l e R s m args below meth c kc ks D cT ad lay A cd.2.2.1 (MQ below Qc args s kc ks A)) (p_step cd lay nx (.lcmp) a b k pc ls st M)) : WX p l e R s m args below meth c kc ks D cT ad lay A cd.2.2.1 (MQ below Qc args s kc ks A) (pc, ls, st, M) := by
  obtain ⟨ok, ow⟩ := ok
  simp only [p_eb, p_il, Bool.and_eq_true, Bool.or_eq_true, decide_eq_true_eq, beq_iff_eq] at ok
  obtain ⟨⟨⟨hd, hle⟩, hln⟩, hz⟩ := ok
  intro la H locs hl S
  have C' := C
  obtain ⟨⟨⟨hx, hb, hml, hown, hts⟩, hK, hJ⟩, hr, hlk⟩ := C
  simp only [p_step] at h
  have hnx : nx = pc + 1 := by rcases hln with hln | hln <;> omega
  subst hnx
  have hd : decode cd.2.1 pc = .ok (.lcmp, 1) := by rw [hd]; congr 2; omega
  split at h
  · exact W.lcmp hx hb hd (p_go_sem h la H locs hl S)
  · exact h.elim
end
section
variable {mt : List pCd} {cd : pCd} {d : Nat} {Q : pQ} {nx a b k pc : Nat} {ls : List (Option Value)} {st : List Value} {M : Mem} {Qc : Array Value → State → Outcome → State → Prop}
theorem sd_dup (C : Bx p s m args meth c cd.1.cls cd.2.1 cd.2.2.1 cd.2.2.2.1 D cT ad lay A) (hR : d + 1 ≤ R.frames ∧ 64 * (d + 1) ≤ R.locals) (hcs : kc ≤ R.cells ∧ ks ≤ R.slots) (ih : p_ih l mt lay D cT ad d) (hq : ∀ (r : Option Value) (M : Mem) (t : State), Q r M → HM D cT ad lay M t.heap → va_F A s t → Qc args s (.returned (r.map (cv ad))) t) (ok : p_eb cd.2.1 cd.2.2.1 (pc, nx, .dup, a, b, k) = true ∧ p_ew mt cd.1.cls (pc, nx, .dup, a, b, k)) (h : p_sem (ex mt lay d) Q (WX p l e R s m args below meth c kc ks D cT ad lay A cd.2.2.1 (MQ below Qc args s kc ks A)) (p_step cd lay nx (.dup) a b k pc ls st M)) : WX p l e R s m args below meth c kc ks D cT ad lay A cd.2.2.1 (MQ below Qc args s kc ks A) (pc, ls, st, M) := by
  obtain ⟨ok, ow⟩ := ok
  simp only [p_eb, p_il, Bool.and_eq_true, Bool.or_eq_true, decide_eq_true_eq, beq_iff_eq] at ok
  obtain ⟨⟨⟨hd, hle⟩, hln⟩, hz⟩ := ok
  intro la H locs hl S
  have C' := C
  obtain ⟨⟨⟨hx, hb, hml, hown, hts⟩, hK, hJ⟩, hr, hlk⟩ := C
  simp only [p_step] at h
  have hnx : nx = pc + 1 := by rcases hln with hln | hln <;> omega
  subst hnx
  have hd : decode cd.2.1 pc = .ok (.dup, 1) := by rw [hd]; congr 2; omega
  split at h
  · exact lv_dup hx hb hd (by rw [cv_cat]; exact (p_on_sem h).1) ((p_on_sem h).2 la H locs hl S)
  · exact h.elim
end
section
variable {mt : List pCd} {cd : pCd} {d : Nat} {Q : pQ} {nx a b k pc : Nat} {ls : List (Option Value)} {st : List Value} {M : Mem} {Qc : Array Value → State → Outcome → State → Prop}
theorem sd_pop (C : Bx p s m args meth c cd.1.cls cd.2.1 cd.2.2.1 cd.2.2.2.1 D cT ad lay A) (hR : d + 1 ≤ R.frames ∧ 64 * (d + 1) ≤ R.locals) (hcs : kc ≤ R.cells ∧ ks ≤ R.slots) (ih : p_ih l mt lay D cT ad d) (hq : ∀ (r : Option Value) (M : Mem) (t : State), Q r M → HM D cT ad lay M t.heap → va_F A s t → Qc args s (.returned (r.map (cv ad))) t) (ok : p_eb cd.2.1 cd.2.2.1 (pc, nx, .pop, a, b, k) = true ∧ p_ew mt cd.1.cls (pc, nx, .pop, a, b, k)) (h : p_sem (ex mt lay d) Q (WX p l e R s m args below meth c kc ks D cT ad lay A cd.2.2.1 (MQ below Qc args s kc ks A)) (p_step cd lay nx (.pop) a b k pc ls st M)) : WX p l e R s m args below meth c kc ks D cT ad lay A cd.2.2.1 (MQ below Qc args s kc ks A) (pc, ls, st, M) := by
  obtain ⟨ok, ow⟩ := ok
  simp only [p_eb, p_il, Bool.and_eq_true, Bool.or_eq_true, decide_eq_true_eq, beq_iff_eq] at ok
  obtain ⟨⟨⟨hd, hle⟩, hln⟩, hz⟩ := ok
  intro la H locs hl S
  have C' := C
  obtain ⟨⟨⟨hx, hb, hml, hown, hts⟩, hK, hJ⟩, hr, hlk⟩ := C
  simp only [p_step] at h
  have hnx : nx = pc + 1 := by rcases hln with hln | hln <;> omega
  subst hnx
  have hd : decode cd.2.1 pc = .ok (.pop, 1) := by rw [hd]; congr 2; omega
  split at h
  · exact lv_pop hx hb hd (by rw [cv_cat]; exact (p_on_sem h).1) ((p_on_sem h).2 la H locs hl S)
  · exact h.elim
end
section
variable {mt : List pCd} {cd : pCd} {d : Nat} {Q : pQ} {nx a b k pc : Nat} {ls : List (Option Value)} {st : List Value} {M : Mem} {Qc : Array Value → State → Outcome → State → Prop}
theorem sd_dup_x1 (C : Bx p s m args meth c cd.1.cls cd.2.1 cd.2.2.1 cd.2.2.2.1 D cT ad lay A) (hR : d + 1 ≤ R.frames ∧ 64 * (d + 1) ≤ R.locals) (hcs : kc ≤ R.cells ∧ ks ≤ R.slots) (ih : p_ih l mt lay D cT ad d) (hq : ∀ (r : Option Value) (M : Mem) (t : State), Q r M → HM D cT ad lay M t.heap → va_F A s t → Qc args s (.returned (r.map (cv ad))) t) (ok : p_eb cd.2.1 cd.2.2.1 (pc, nx, .dup_x1, a, b, k) = true ∧ p_ew mt cd.1.cls (pc, nx, .dup_x1, a, b, k)) (h : p_sem (ex mt lay d) Q (WX p l e R s m args below meth c kc ks D cT ad lay A cd.2.2.1 (MQ below Qc args s kc ks A)) (p_step cd lay nx (.dup_x1) a b k pc ls st M)) : WX p l e R s m args below meth c kc ks D cT ad lay A cd.2.2.1 (MQ below Qc args s kc ks A) (pc, ls, st, M) := by
  obtain ⟨ok, ow⟩ := ok
  simp only [p_eb, p_il, Bool.and_eq_true, Bool.or_eq_true, decide_eq_true_eq, beq_iff_eq] at ok
  obtain ⟨⟨⟨hd, hle⟩, hln⟩, hz⟩ := ok
  intro la H locs hl S
  have C' := C
  obtain ⟨⟨⟨hx, hb, hml, hown, hts⟩, hK, hJ⟩, hr, hlk⟩ := C
  simp only [p_step] at h
  have hnx : nx = pc + 1 := by rcases hln with hln | hln <;> omega
  subst hnx
  have hd : decode cd.2.1 pc = .ok (.dup_x1, 1) := by rw [hd]; congr 2; omega
  split at h
  · exact lv_dup_x1 hx hb hd (by rw [cv_cat]; exact (p_on_sem h).1.1) (by rw [cv_cat]; exact (p_on_sem h).1.2) ((p_on_sem h).2 la H locs hl S)
  · exact h.elim
end
section
variable {mt : List pCd} {cd : pCd} {d : Nat} {Q : pQ} {nx a b k pc : Nat} {ls : List (Option Value)} {st : List Value} {M : Mem} {Qc : Array Value → State → Outcome → State → Prop}
theorem sd_dup2 (C : Bx p s m args meth c cd.1.cls cd.2.1 cd.2.2.1 cd.2.2.2.1 D cT ad lay A) (hR : d + 1 ≤ R.frames ∧ 64 * (d + 1) ≤ R.locals) (hcs : kc ≤ R.cells ∧ ks ≤ R.slots) (ih : p_ih l mt lay D cT ad d) (hq : ∀ (r : Option Value) (M : Mem) (t : State), Q r M → HM D cT ad lay M t.heap → va_F A s t → Qc args s (.returned (r.map (cv ad))) t) (ok : p_eb cd.2.1 cd.2.2.1 (pc, nx, .dup2, a, b, k) = true ∧ p_ew mt cd.1.cls (pc, nx, .dup2, a, b, k)) (h : p_sem (ex mt lay d) Q (WX p l e R s m args below meth c kc ks D cT ad lay A cd.2.2.1 (MQ below Qc args s kc ks A)) (p_step cd lay nx (.dup2) a b k pc ls st M)) : WX p l e R s m args below meth c kc ks D cT ad lay A cd.2.2.1 (MQ below Qc args s kc ks A) (pc, ls, st, M) := by
  obtain ⟨ok, ow⟩ := ok
  simp only [p_eb, p_il, Bool.and_eq_true, Bool.or_eq_true, decide_eq_true_eq, beq_iff_eq] at ok
  obtain ⟨⟨⟨hd, hle⟩, hln⟩, hz⟩ := ok
  intro la H locs hl S
  have C' := C
  obtain ⟨⟨⟨hx, hb, hml, hown, hts⟩, hK, hJ⟩, hr, hlk⟩ := C
  simp only [p_step] at h
  have hnx : nx = pc + 1 := by rcases hln with hln | hln <;> omega
  subst hnx
  have hd : decode cd.2.1 pc = .ok (.dup2, 1) := by rw [hd]; congr 2; omega
  split at h
  · exact lv_dup2_11 hx hb hd (by rw [cv_cat]; exact (p_on_sem h).1.1) (by rw [cv_cat]; exact (p_on_sem h).1.2) ((p_on_sem h).2 la H locs hl S)
  · exact h.elim
end
section
variable {mt : List pCd} {cd : pCd} {d : Nat} {Q : pQ} {nx a b k pc : Nat} {ls : List (Option Value)} {st : List Value} {M : Mem} {Qc : Array Value → State → Outcome → State → Prop}
theorem sd_ifCond (C : Bx p s m args meth c cd.1.cls cd.2.1 cd.2.2.1 cd.2.2.2.1 D cT ad lay A) (hR : d + 1 ≤ R.frames ∧ 64 * (d + 1) ≤ R.locals) (hcs : kc ≤ R.cells ∧ ks ≤ R.slots) (ih : p_ih l mt lay D cT ad d) (hq : ∀ (r : Option Value) (M : Mem) (t : State), Q r M → HM D cT ad lay M t.heap → va_F A s t → Qc args s (.returned (r.map (cv ad))) t) {q : Jvm.ClassFile.Cond} {off : Int} (ok : p_eb cd.2.1 cd.2.2.1 (pc, nx, .ifCond q off, a, b, k) = true ∧ p_ew mt cd.1.cls (pc, nx, .ifCond q off, a, b, k)) (h : p_sem (ex mt lay d) Q (WX p l e R s m args below meth c kc ks D cT ad lay A cd.2.2.1 (MQ below Qc args s kc ks A)) (p_step cd lay nx (.ifCond q off) a b k pc ls st M)) : WX p l e R s m args below meth c kc ks D cT ad lay A cd.2.2.1 (MQ below Qc args s kc ks A) (pc, ls, st, M) := by
  obtain ⟨ok, ow⟩ := ok
  simp only [p_eb, p_il, Bool.and_eq_true, Bool.or_eq_true, decide_eq_true_eq, beq_iff_eq] at ok
  obtain ⟨⟨⟨hd, hle⟩, hln⟩, hz⟩ := ok
  intro la H locs hl S
  have C' := C
  obtain ⟨⟨⟨hx, hb, hml, hown, hts⟩, hK, hJ⟩, hr, hlk⟩ := C
  simp only [p_step] at h
  have hnx : nx = pc + 3 := by rcases hln with hln | hln <;> omega
  subst hnx
  have hd : decode cd.2.1 pc = .ok (.ifCond q off, 3) := by rw [hd]; congr 2; omega
  split at h
  · have h := p_if_sem h
    cases q with
    | eq => exact lv_if_eq hx hb hd hz (fun hc => h.1 hc la H locs hl S) (fun hc => h.2 hc la H locs hl S)
    | ne => exact lv_if_ne hx hb hd hz (fun hc => h.1 hc la H locs hl S) (fun hc => h.2 (fun z => z hc) la H locs hl S)
    | lt => exact lv_if_lt hx hb hd hz (fun hc => h.1 hc la H locs hl S) (fun hc => h.2 hc la H locs hl S)
    | ge => exact lv_if_ge hx hb hd hz (fun hc => h.1 hc la H locs hl S) (fun hc => h.2 hc la H locs hl S)
    | gt => exact lv_if_gt hx hb hd hz (fun hc => h.1 hc la H locs hl S) (fun hc => h.2 hc la H locs hl S)
    | le => exact lv_if_le hx hb hd hz (fun hc => h.1 hc la H locs hl S) (fun hc => h.2 hc la H locs hl S)
  · exact h.elim
end
section
variable {mt : List pCd} {cd : pCd} {d : Nat} {Q : pQ} {nx a b k pc : Nat} {ls : List (Option Value)} {st : List Value} {M : Mem} {Qc : Array Value → State → Outcome → State → Prop}
theorem sd_if_icmp (C : Bx p s m args meth c cd.1.cls cd.2.1 cd.2.2.1 cd.2.2.2.1 D cT ad lay A) (hR : d + 1 ≤ R.frames ∧ 64 * (d + 1) ≤ R.locals) (hcs : kc ≤ R.cells ∧ ks ≤ R.slots) (ih : p_ih l mt lay D cT ad d) (hq : ∀ (r : Option Value) (M : Mem) (t : State), Q r M → HM D cT ad lay M t.heap → va_F A s t → Qc args s (.returned (r.map (cv ad))) t) {q : Jvm.ClassFile.Cond} {off : Int} (ok : p_eb cd.2.1 cd.2.2.1 (pc, nx, .if_icmp q off, a, b, k) = true ∧ p_ew mt cd.1.cls (pc, nx, .if_icmp q off, a, b, k)) (h : p_sem (ex mt lay d) Q (WX p l e R s m args below meth c kc ks D cT ad lay A cd.2.2.1 (MQ below Qc args s kc ks A)) (p_step cd lay nx (.if_icmp q off) a b k pc ls st M)) : WX p l e R s m args below meth c kc ks D cT ad lay A cd.2.2.1 (MQ below Qc args s kc ks A) (pc, ls, st, M) := by
  obtain ⟨ok, ow⟩ := ok
  simp only [p_eb, p_il, Bool.and_eq_true, Bool.or_eq_true, decide_eq_true_eq, beq_iff_eq] at ok
  obtain ⟨⟨⟨hd, hle⟩, hln⟩, hz⟩ := ok
  intro la H locs hl S
  have C' := C
  obtain ⟨⟨⟨hx, hb, hml, hown, hts⟩, hK, hJ⟩, hr, hlk⟩ := C
  simp only [p_step] at h
  have hnx : nx = pc + 3 := by rcases hln with hln | hln <;> omega
  subst hnx
  have hd : decode cd.2.1 pc = .ok (.if_icmp q off, 3) := by rw [hd]; congr 2; omega
  split at h
  · have h := p_if_sem h
    cases q with
    | eq => exact lv_icmp_eq hx hb hd hz (fun hc => h.1 hc la H locs hl S) (fun hc => h.2 hc la H locs hl S)
    | ne => exact lv_icmp_ne hx hb hd hz (fun hc => h.1 hc la H locs hl S) (fun hc => h.2 (fun z => z hc) la H locs hl S)
    | lt => exact lv_icmp_lt hx hb hd hz (fun hc => h.1 hc la H locs hl S) (fun hc => h.2 hc la H locs hl S)
    | ge => exact lv_icmp_ge hx hb hd hz (fun hc => h.1 hc la H locs hl S) (fun hc => h.2 hc la H locs hl S)
    | gt => exact lv_icmp_gt hx hb hd hz (fun hc => h.1 hc la H locs hl S) (fun hc => h.2 hc la H locs hl S)
    | le => exact lv_icmp_le hx hb hd hz (fun hc => h.1 hc la H locs hl S) (fun hc => h.2 hc la H locs hl S)
  · exact h.elim
end
section
variable {mt : List pCd} {cd : pCd} {d : Nat} {Q : pQ} {nx a b k pc : Nat} {ls : List (Option Value)} {st : List Value} {M : Mem} {Qc : Array Value → State → Outcome → State → Prop}
theorem sd_goto (C : Bx p s m args meth c cd.1.cls cd.2.1 cd.2.2.1 cd.2.2.2.1 D cT ad lay A) (hR : d + 1 ≤ R.frames ∧ 64 * (d + 1) ≤ R.locals) (hcs : kc ≤ R.cells ∧ ks ≤ R.slots) (ih : p_ih l mt lay D cT ad d) (hq : ∀ (r : Option Value) (M : Mem) (t : State), Q r M → HM D cT ad lay M t.heap → va_F A s t → Qc args s (.returned (r.map (cv ad))) t) {off : Int} (ok : p_eb cd.2.1 cd.2.2.1 (pc, nx, .goto off, a, b, k) = true ∧ p_ew mt cd.1.cls (pc, nx, .goto off, a, b, k)) (h : p_sem (ex mt lay d) Q (WX p l e R s m args below meth c kc ks D cT ad lay A cd.2.2.1 (MQ below Qc args s kc ks A)) (p_step cd lay nx (.goto off) a b k pc ls st M)) : WX p l e R s m args below meth c kc ks D cT ad lay A cd.2.2.1 (MQ below Qc args s kc ks A) (pc, ls, st, M) := by
  obtain ⟨ok, ow⟩ := ok
  simp only [p_eb, p_il, Bool.and_eq_true, Bool.or_eq_true, decide_eq_true_eq, beq_iff_eq] at ok
  obtain ⟨⟨⟨hd, hle⟩, hln⟩, hz⟩ := ok
  intro la H locs hl S
  have C' := C
  obtain ⟨⟨⟨hx, hb, hml, hown, hts⟩, hK, hJ⟩, hr, hlk⟩ := C
  simp only [p_step] at h
  have hnx : nx = pc + 3 := by rcases hln with hln | hln <;> omega
  subst hnx
  have hd : decode cd.2.1 pc = .ok (.goto off, 3) := by rw [hd]; congr 2; omega
  exact lv_goto hx hb hd hz (p_go_sem h la H locs hl S)
end
section
variable {mt : List pCd} {cd : pCd} {d : Nat} {Q : pQ} {nx a b k pc : Nat} {ls : List (Option Value)} {st : List Value} {M : Mem} {Qc : Array Value → State → Outcome → State → Prop}
theorem sd_ifnonnull (C : Bx p s m args meth c cd.1.cls cd.2.1 cd.2.2.1 cd.2.2.2.1 D cT ad lay A) (hR : d + 1 ≤ R.frames ∧ 64 * (d + 1) ≤ R.locals) (hcs : kc ≤ R.cells ∧ ks ≤ R.slots) (ih : p_ih l mt lay D cT ad d) (hq : ∀ (r : Option Value) (M : Mem) (t : State), Q r M → HM D cT ad lay M t.heap → va_F A s t → Qc args s (.returned (r.map (cv ad))) t) {off : Int} (ok : p_eb cd.2.1 cd.2.2.1 (pc, nx, .ifnonnull off, a, b, k) = true ∧ p_ew mt cd.1.cls (pc, nx, .ifnonnull off, a, b, k)) (h : p_sem (ex mt lay d) Q (WX p l e R s m args below meth c kc ks D cT ad lay A cd.2.2.1 (MQ below Qc args s kc ks A)) (p_step cd lay nx (.ifnonnull off) a b k pc ls st M)) : WX p l e R s m args below meth c kc ks D cT ad lay A cd.2.2.1 (MQ below Qc args s kc ks A) (pc, ls, st, M) := by
  obtain ⟨ok, ow⟩ := ok
  simp only [p_eb, p_il, Bool.and_eq_true, Bool.or_eq_true, decide_eq_true_eq, beq_iff_eq] at ok
  obtain ⟨⟨⟨hd, hle⟩, hln⟩, hz⟩ := ok
  intro la H locs hl S
  have C' := C
  obtain ⟨⟨⟨hx, hb, hml, hown, hts⟩, hK, hJ⟩, hr, hlk⟩ := C
  simp only [p_step] at h
  have hnx : nx = pc + 3 := by rcases hln with hln | hln <;> omega
  subst hnx
  have hd : decode cd.2.1 pc = .ok (.ifnonnull off, 3) := by rw [hd]; congr 2; omega
  split at h
  · exact lv_ifnonnull hx hb hd hz (p_go_sem h la H locs hl S)
  · exact lv_ifnonnullN hx hb hd (p_go_sem h la H locs hl S)
  · exact h.elim
end
section
variable {mt : List pCd} {cd : pCd} {d : Nat} {Q : pQ} {nx a b k pc : Nat} {ls : List (Option Value)} {st : List Value} {M : Mem} {Qc : Array Value → State → Outcome → State → Prop}
theorem sd_tableswitch (C : Bx p s m args meth c cd.1.cls cd.2.1 cd.2.2.1 cd.2.2.2.1 D cT ad lay A) (hR : d + 1 ≤ R.frames ∧ 64 * (d + 1) ≤ R.locals) (hcs : kc ≤ R.cells ∧ ks ≤ R.slots) (ih : p_ih l mt lay D cT ad d) (hq : ∀ (r : Option Value) (M : Mem) (t : State), Q r M → HM D cT ad lay M t.heap → va_F A s t → Qc args s (.returned (r.map (cv ad))) t) {df lo hi : Int} {offs : Array Int} (ok : p_eb cd.2.1 cd.2.2.1 (pc, nx, .tableswitch df lo hi offs, a, b, k) = true ∧ p_ew mt cd.1.cls (pc, nx, .tableswitch df lo hi offs, a, b, k)) (h : p_sem (ex mt lay d) Q (WX p l e R s m args below meth c kc ks D cT ad lay A cd.2.2.1 (MQ below Qc args s kc ks A)) (p_step cd lay nx (.tableswitch df lo hi offs) a b k pc ls st M)) : WX p l e R s m args below meth c kc ks D cT ad lay A cd.2.2.1 (MQ below Qc args s kc ks A) (pc, ls, st, M) := by
  obtain ⟨ok, ow⟩ := ok
  simp only [p_eb, p_il, Bool.and_eq_true, Bool.or_eq_true, decide_eq_true_eq, beq_iff_eq] at ok
  obtain ⟨⟨⟨hd, hle⟩, hln⟩, hz⟩ := ok
  intro la H locs hl S
  have C' := C
  obtain ⟨⟨⟨hx, hb, hml, hown, hts⟩, hK, hJ⟩, hr, hlk⟩ := C
  simp only [p_step] at h
  split at h
  · next x st =>
    simp only [Bool.and_eq_true, decide_eq_true_eq, List.all_eq_true] at hz
    obtain ⟨⟨z1, z2⟩, z3⟩ := hz
    by_cases h1 : x.toInt < lo ∨ hi < x.toInt
    · exact lv_tableOut hx hb hd h1 (by rw [Int.toNat_of_nonneg z1]) (h.2 _ List.mem_cons_self h1 la H locs hl S)
    · have h2 : ¬ x.toInt < lo := fun z => h1 (Or.inl z)
      have h3 : ¬ hi < x.toInt := fun z => h1 (Or.inr z)
      have hk : (x.toInt - lo).toNat < offs.size := by omega
      have ho : offs[(x.toInt - lo).toNat]? = some offs[(x.toInt - lo).toNat] := Array.getElem?_eq_getElem hk
      refine lv_tableIn hx hb hd h2 h3 ho (by rw [Int.toNat_of_nonneg (z3 _ (Array.getElem_mem_toList hk))]) ?_
      refine h.2 (x.toInt = lo + ((x.toInt - lo).toNat : Nat), ((pc : Int) + offs[(x.toInt - lo).toNat]).toNat, ls, st, M) (List.mem_cons_of_mem _ ?_) (by show x.toInt = _; omega) la H locs hl S
      rw [List.mem_mapIdx]
      exact ⟨(x.toInt - lo).toNat, by simpa using hk, by simp⟩
  · exact h.elim
end
section
variable {mt : List pCd} {cd : pCd} {d : Nat} {Q : pQ} {nx a b k pc : Nat} {ls : List (Option Value)} {st : List Value} {M : Mem} {Qc : Array Value → State → Outcome → State → Prop}
theorem sd_lookupswitch (C : Bx p s m args meth c cd.1.cls cd.2.1 cd.2.2.1 cd.2.2.2.1 D cT ad lay A) (hR : d + 1 ≤ R.frames ∧ 64 * (d + 1) ≤ R.locals) (hcs : kc ≤ R.cells ∧ ks ≤ R.slots) (ih : p_ih l mt lay D cT ad d) (hq : ∀ (r : Option Value) (M : Mem) (t : State), Q r M → HM D cT ad lay M t.heap → va_F A s t → Qc args s (.returned (r.map (cv ad))) t) {df : Int} {ps : Array (Int × Int)} (ok : p_eb cd.2.1 cd.2.2.1 (pc, nx, .lookupswitch df ps, a, b, k) = true ∧ p_ew mt cd.1.cls (pc, nx, .lookupswitch df ps, a, b, k)) (h : p_sem (ex mt lay d) Q (WX p l e R s m args below meth c kc ks D cT ad lay A cd.2.2.1 (MQ below Qc args s kc ks A)) (p_step cd lay nx (.lookupswitch df ps) a b k pc ls st M)) : WX p l e R s m args below meth c kc ks D cT ad lay A cd.2.2.1 (MQ below Qc args s kc ks A) (pc, ls, st, M) := by
  obtain ⟨ok, ow⟩ := ok
  simp only [p_eb, p_il, Bool.and_eq_true, Bool.or_eq_true, decide_eq_true_eq, beq_iff_eq] at ok
  obtain ⟨⟨⟨hd, hle⟩, hln⟩, hz⟩ := ok
  intro la H locs hl S
  have C' := C
  obtain ⟨⟨⟨hx, hb, hml, hown, hts⟩, hK, hJ⟩, hr, hlk⟩ := C
  simp only [p_step] at h
  split at h
  · next x st =>
    simp only [Bool.and_eq_true, decide_eq_true_eq, List.all_eq_true] at hz
    obtain ⟨⟨z1, z2⟩, z3⟩ := hz
    have z4 : (ps.toList.zip (ps.toList.drop 1)).all (fun (a, next) => a.1 < next.1) = true := by simpa using z3
    have key : ∀ qs : List (Int × Int), (∃ q ∈ qs, x.toInt = q.1 ∧ Op.lookupswitch.offset qs df x.toInt = q.2) ∨ ((∀ q ∈ qs, ¬ x.toInt = q.1) ∧ Op.lookupswitch.offset qs df x.toInt = df) := by
      intro qs
      induction qs with
      | nil => exact Or.inr ⟨fun q hq => (by cases hq), rfl⟩
      | cons q qs ih =>
        obtain ⟨a0, o0⟩ := q
        rw [Op.lookupswitch.offset_cons]
        by_cases hq : a0 = x.toInt
        · rw [if_pos hq]
          exact Or.inl ⟨(a0, o0), List.mem_cons_self, hq.symm, rfl⟩
        · rw [if_neg hq]
          rcases ih with ⟨q, h1, h2, h3⟩ | ⟨h1, h2⟩
          · exact Or.inl ⟨q, List.mem_cons_of_mem _ h1, h2, h3⟩
          · refine Or.inr ⟨fun q hq2 => ?_, h2⟩
            rcases List.mem_cons.mp hq2 with rfl | h
            · exact fun z => hq z.symm
            · exact h1 q h
    rcases key ps.toList with ⟨q, hq, he, ho⟩ | ⟨hn, ho⟩
    · exact lv_lookup hx hb hd z4 ho (by rw [Int.toNat_of_nonneg (z2 _ hq)]) (h.2 (x.toInt = q.1, _, ls, st, M) (List.mem_cons_of_mem _ (List.mem_map.mpr ⟨q, hq, rfl⟩)) he la H locs hl S)
    · exact lv_lookup hx hb hd z4 ho (by rw [Int.toNat_of_nonneg z1]) (h.2 _ List.mem_cons_self hn la H locs hl S)
  · exact h.elim
end
section
variable {mt : List pCd} {cd : pCd} {d : Nat} {Q : pQ} {nx a b k pc : Nat} {ls : List (Option Value)} {st : List Value} {M : Mem} {Qc : Array Value → State → Outcome → State → Prop}
theorem sd_getfield (C : Bx p s m args meth c cd.1.cls cd.2.1 cd.2.2.1 cd.2.2.2.1 D cT ad lay A) (hR : d + 1 ≤ R.frames ∧ 64 * (d + 1) ≤ R.locals) (hcs : kc ≤ R.cells ∧ ks ≤ R.slots) (ih : p_ih l mt lay D cT ad d) (hq : ∀ (r : Option Value) (M : Mem) (t : State), Q r M → HM D cT ad lay M t.heap → va_F A s t → Qc args s (.returned (r.map (cv ad))) t) {n : Nat} (ok : p_eb cd.2.1 cd.2.2.1 (pc, nx, .getfield n, a, b, k) = true ∧ p_ew mt cd.1.cls (pc, nx, .getfield n, a, b, k)) (h : p_sem (ex mt lay d) Q (WX p l e R s m args below meth c kc ks D cT ad lay A cd.2.2.1 (MQ below Qc args s kc ks A)) (p_step cd lay nx (.getfield n) a b k pc ls st M)) : WX p l e R s m args below meth c kc ks D cT ad lay A cd.2.2.1 (MQ below Qc args s kc ks A) (pc, ls, st, M) := by
  obtain ⟨ok, ow⟩ := ok
  simp only [p_eb, p_il, Bool.and_eq_true, Bool.or_eq_true, decide_eq_true_eq, beq_iff_eq] at ok
  obtain ⟨⟨⟨hd, hle⟩, hln⟩, hz⟩ := ok
  intro la H locs hl S
  have C' := C
  obtain ⟨⟨⟨hx, hb, hml, hown, hts⟩, hK, hJ⟩, hr, hlk⟩ := C
  simp only [p_step] at h
  have hnx : nx = pc + 3 := by rcases hln with hln | hln <;> omega
  subst hnx
  have hd : decode cd.2.1 pc = .ok (.getfield n, 3) := by rw [hd]; congr 2; omega
  split at h
  · next q st =>
    split at h
    · next ci fks hi =>
      split at h
      · next fk hf =>
        obtain ⟨hc, h'⟩ := p_on_sem h
        clear h
        have h := h'
        clear h'
        subst hc
        obtain ⟨Cn, T, N, w1, w2, w3, w4⟩ := ow
        have e0 : cv ad (fv id M q b fk) = fv ad M q b fk := by
          match fk with
          | none => rfl
          | some none => rfl
          | some (some j) => rfl
        refine xq_get C' S hi w1 w2 w3 hf w4 hd ?_
        have h := h la H locs hl S
        simp only [List.map_cons, e0] at h
        exact h
      · exact h.elim
    · exact h.elim
  · exact h.elim
end
section
variable {mt : List pCd} {cd : pCd} {d : Nat} {Q : pQ} {nx a b k pc : Nat} {ls : List (Option Value)} {st : List Value} {M : Mem} {Qc : Array Value → State → Outcome → State → Prop}
theorem sd_putfield (C : Bx p s m args meth c cd.1.cls cd.2.1 cd.2.2.1 cd.2.2.2.1 D cT ad lay A) (hR : d + 1 ≤ R.frames ∧ 64 * (d + 1) ≤ R.locals) (hcs : kc ≤ R.cells ∧ ks ≤ R.slots) (ih : p_ih l mt lay D cT ad d) (hq : ∀ (r : Option Value) (M : Mem) (t : State), Q r M → HM D cT ad lay M t.heap → va_F A s t → Qc args s (.returned (r.map (cv ad))) t) {n : Nat} (ok : p_eb cd.2.1 cd.2.2.1 (pc, nx, .putfield n, a, b, k) = true ∧ p_ew mt cd.1.cls (pc, nx, .putfield n, a, b, k)) (h : p_sem (ex mt lay d) Q (WX p l e R s m args below meth c kc ks D cT ad lay A cd.2.2.1 (MQ below Qc args s kc ks A)) (p_step cd lay nx (.putfield n) a b k pc ls st M)) : WX p l e R s m args below meth c kc ks D cT ad lay A cd.2.2.1 (MQ below Qc args s kc ks A) (pc, ls, st, M) := by
  obtain ⟨ok, ow⟩ := ok
  simp only [p_eb, p_il, Bool.and_eq_true, Bool.or_eq_true, decide_eq_true_eq, beq_iff_eq] at ok
  obtain ⟨⟨⟨hd, hle⟩, hln⟩, hz⟩ := ok
  intro la H locs hl S
  have C' := C
  obtain ⟨⟨⟨hx, hb, hml, hown, hts⟩, hK, hJ⟩, hr, hlk⟩ := C
  simp only [p_step] at h
  have hnx : nx = pc + 3 := by rcases hln with hln | hln <;> omega
  subst hnx
  have hd : decode cd.2.1 pc = .ok (.putfield n, 3) := by rw [hd]; congr 2; omega
  split at h
  · next v q st =>
    split at h
    · next ci fks hi =>
      split at h
      · next hf =>
        obtain ⟨⟨hc, hv⟩, h'⟩ := p_on_sem h
        clear h
        have h := h'
        clear h'
        subst hc
        obtain ⟨Cn, T, N, ty0, w1, w2, w3, w4, w5, w6, w7, w8⟩ := ow
        have hw8 : narrow (ty0 b) (.int v) = .int v ∧ fits (ty0 b) (.int v) = true := by
          rw [show ty0 b = _ from w8]
          rcases hv with hv | hv
          · simp only [hv, if_true]
            exact ⟨rfl, rfl⟩
          · split
            · exact ⟨rfl, rfl⟩
            · exact p_bits_n hv
        exact xq_put C' S hi w1 w2 ty0 w5 w6 w3 hf w4 w7 hw8.1 hw8.2 hd (fun H locs S => h la H locs hl S)
      · exact h.elim
    · exact h.elim
  · exact h.elim
end
section
variable {mt : List pCd} {cd : pCd} {d : Nat} {Q : pQ} {nx a b k pc : Nat} {ls : List (Option Value)} {st : List Value} {M : Mem} {Qc : Array Value → State → Outcome → State → Prop}
theorem sd_iaload (C : Bx p s m args meth c cd.1.cls cd.2.1 cd.2.2.1 cd.2.2.2.1 D cT ad lay A) (hR : d + 1 ≤ R.frames ∧ 64 * (d + 1) ≤ R.locals) (hcs : kc ≤ R.cells ∧ ks ≤ R.slots) (ih : p_ih l mt lay D cT ad d) (hq : ∀ (r : Option Value) (M : Mem) (t : State), Q r M → HM D cT ad lay M t.heap → va_F A s t → Qc args s (.returned (r.map (cv ad))) t) (ok : p_eb cd.2.1 cd.2.2.1 (pc, nx, .iaload, a, b, k) = true ∧ p_ew mt cd.1.cls (pc, nx, .iaload, a, b, k)) (h : p_sem (ex mt lay d) Q (WX p l e R s m args below meth c kc ks D cT ad lay A cd.2.2.1 (MQ below Qc args s kc ks A)) (p_step cd lay nx (.iaload) a b k pc ls st M)) : WX p l e R s m args below meth c kc ks D cT ad lay A cd.2.2.1 (MQ below Qc args s kc ks A) (pc, ls, st, M) := by
  obtain ⟨ok, ow⟩ := ok
  simp only [p_eb, p_il, Bool.and_eq_true, Bool.or_eq_true, decide_eq_true_eq, beq_iff_eq] at ok
  obtain ⟨⟨⟨hd, hle⟩, hln⟩, hz⟩ := ok
  intro la H locs hl S
  have C' := C
  obtain ⟨⟨⟨hx, hb, hml, hown, hts⟩, hK, hJ⟩, hr, hlk⟩ := C
  simp only [p_step] at h
  have hnx : nx = pc + 1 := by rcases hln with hln | hln <;> omega
  subst hnx
  have hd : decode cd.2.1 pc = .ok (.iaload, 1) := by rw [hd]; congr 2; omega
  split at h
  · split at h
    · next hi => exact xq_iald C' S hi (p_on_sem h).1 hd ((p_on_sem h).2 la H locs hl S)
    · exact h.elim
  · exact h.elim
end
section
variable {mt : List pCd} {cd : pCd} {d : Nat} {Q : pQ} {nx a b k pc : Nat} {ls : List (Option Value)} {st : List Value} {M : Mem} {Qc : Array Value → State → Outcome → State → Prop}
theorem sd_baload (C : Bx p s m args meth c cd.1.cls cd.2.1 cd.2.2.1 cd.2.2.2.1 D cT ad lay A) (hR : d + 1 ≤ R.frames ∧ 64 * (d + 1) ≤ R.locals) (hcs : kc ≤ R.cells ∧ ks ≤ R.slots) (ih : p_ih l mt lay D cT ad d) (hq : ∀ (r : Option Value) (M : Mem) (t : State), Q r M → HM D cT ad lay M t.heap → va_F A s t → Qc args s (.returned (r.map (cv ad))) t) (ok : p_eb cd.2.1 cd.2.2.1 (pc, nx, .baload, a, b, k) = true ∧ p_ew mt cd.1.cls (pc, nx, .baload, a, b, k)) (h : p_sem (ex mt lay d) Q (WX p l e R s m args below meth c kc ks D cT ad lay A cd.2.2.1 (MQ below Qc args s kc ks A)) (p_step cd lay nx (.baload) a b k pc ls st M)) : WX p l e R s m args below meth c kc ks D cT ad lay A cd.2.2.1 (MQ below Qc args s kc ks A) (pc, ls, st, M) := by
  obtain ⟨ok, ow⟩ := ok
  simp only [p_eb, p_il, Bool.and_eq_true, Bool.or_eq_true, decide_eq_true_eq, beq_iff_eq] at ok
  obtain ⟨⟨⟨hd, hle⟩, hln⟩, hz⟩ := ok
  intro la H locs hl S
  have C' := C
  obtain ⟨⟨⟨hx, hb, hml, hown, hts⟩, hK, hJ⟩, hr, hlk⟩ := C
  simp only [p_step] at h
  have hnx : nx = pc + 1 := by rcases hln with hln | hln <;> omega
  subst hnx
  have hd : decode cd.2.1 pc = .ok (.baload, 1) := by rw [hd]; congr 2; omega
  split at h
  · split at h
    · next hi => exact xq_zald C' S hi (p_on_sem h).1 hd ((p_on_sem h).2 la H locs hl S)
    · next hi => exact xq_bald C' S hi (p_on_sem h).1 hd ((p_on_sem h).2 la H locs hl S)
    · exact h.elim
  · exact h.elim
end
section
variable {mt : List pCd} {cd : pCd} {d : Nat} {Q : pQ} {nx a b k pc : Nat} {ls : List (Option Value)} {st : List Value} {M : Mem} {Qc : Array Value → State → Outcome → State → Prop}
theorem sd_laload (C : Bx p s m args meth c cd.1.cls cd.2.1 cd.2.2.1 cd.2.2.2.1 D cT ad lay A) (hR : d + 1 ≤ R.frames ∧ 64 * (d + 1) ≤ R.locals) (hcs : kc ≤ R.cells ∧ ks ≤ R.slots) (ih : p_ih l mt lay D cT ad d) (hq : ∀ (r : Option Value) (M : Mem) (t : State), Q r M → HM D cT ad lay M t.heap → va_F A s t → Qc args s (.returned (r.map (cv ad))) t) (ok : p_eb cd.2.1 cd.2.2.1 (pc, nx, .laload, a, b, k) = true ∧ p_ew mt cd.1.cls (pc, nx, .laload, a, b, k)) (h : p_sem (ex mt lay d) Q (WX p l e R s m args below meth c kc ks D cT ad lay A cd.2.2.1 (MQ below Qc args s kc ks A)) (p_step cd lay nx (.laload) a b k pc ls st M)) : WX p l e R s m args below meth c kc ks D cT ad lay A cd.2.2.1 (MQ below Qc args s kc ks A) (pc, ls, st, M) := by
  obtain ⟨ok, ow⟩ := ok
  simp only [p_eb, p_il, Bool.and_eq_true, Bool.or_eq_true, decide_eq_true_eq, beq_iff_eq] at ok
  obtain ⟨⟨⟨hd, hle⟩, hln⟩, hz⟩ := ok
  intro la H locs hl S
  have C' := C
  obtain ⟨⟨⟨hx, hb, hml, hown, hts⟩, hK, hJ⟩, hr, hlk⟩ := C
  simp only [p_step] at h
  have hnx : nx = pc + 1 := by rcases hln with hln | hln <;> omega
  subst hnx
  have hd : decode cd.2.1 pc = .ok (.laload, 1) := by rw [hd]; congr 2; omega
  split at h
  · split at h
    · next hi => exact xq_lald C' S hi (p_on_sem h).1 hd ((p_on_sem h).2 la H locs hl S)
    · exact h.elim
  · exact h.elim
end
section
variable {mt : List pCd} {cd : pCd} {d : Nat} {Q : pQ} {nx a b k pc : Nat} {ls : List (Option Value)} {st : List Value} {M : Mem} {Qc : Array Value → State → Outcome → State → Prop}
theorem sd_iastore (C : Bx p s m args meth c cd.1.cls cd.2.1 cd.2.2.1 cd.2.2.2.1 D cT ad lay A) (hR : d + 1 ≤ R.frames ∧ 64 * (d + 1) ≤ R.locals) (hcs : kc ≤ R.cells ∧ ks ≤ R.slots) (ih : p_ih l mt lay D cT ad d) (hq : ∀ (r : Option Value) (M : Mem) (t : State), Q r M → HM D cT ad lay M t.heap → va_F A s t → Qc args s (.returned (r.map (cv ad))) t) (ok : p_eb cd.2.1 cd.2.2.1 (pc, nx, .iastore, a, b, k) = true ∧ p_ew mt cd.1.cls (pc, nx, .iastore, a, b, k)) (h : p_sem (ex mt lay d) Q (WX p l e R s m args below meth c kc ks D cT ad lay A cd.2.2.1 (MQ below Qc args s kc ks A)) (p_step cd lay nx (.iastore) a b k pc ls st M)) : WX p l e R s m args below meth c kc ks D cT ad lay A cd.2.2.1 (MQ below Qc args s kc ks A) (pc, ls, st, M) := by
  obtain ⟨ok, ow⟩ := ok
  simp only [p_eb, p_il, Bool.and_eq_true, Bool.or_eq_true, decide_eq_true_eq, beq_iff_eq] at ok
  obtain ⟨⟨⟨hd, hle⟩, hln⟩, hz⟩ := ok
  intro la H locs hl S
  have C' := C
  obtain ⟨⟨⟨hx, hb, hml, hown, hts⟩, hK, hJ⟩, hr, hlk⟩ := C
  simp only [p_step] at h
  have hnx : nx = pc + 1 := by rcases hln with hln | hln <;> omega
  subst hnx
  have hd : decode cd.2.1 pc = .ok (.iastore, 1) := by rw [hd]; congr 2; omega
  split at h
  · split at h
    · next hi => exact xq_iast C' S hi (p_on_sem h).1 hd (fun H locs S => (p_on_sem h).2 la H locs hl S)
    · exact h.elim
  · exact h.elim
end
section
variable {mt : List pCd} {cd : pCd} {d : Nat} {Q : pQ} {nx a b k pc : Nat} {ls : List (Option Value)} {st : List Value} {M : Mem} {Qc : Array Value → State → Outcome → State → Prop}
theorem sd_bastore (C : Bx p s m args meth c cd.1.cls cd.2.1 cd.2.2.1 cd.2.2.2.1 D cT ad lay A) (hR : d + 1 ≤ R.frames ∧ 64 * (d + 1) ≤ R.locals) (hcs : kc ≤ R.cells ∧ ks ≤ R.slots) (ih : p_ih l mt lay D cT ad d) (hq : ∀ (r : Option Value) (M : Mem) (t : State), Q r M → HM D cT ad lay M t.heap → va_F A s t → Qc args s (.returned (r.map (cv ad))) t) (ok : p_eb cd.2.1 cd.2.2.1 (pc, nx, .bastore, a, b, k) = true ∧ p_ew mt cd.1.cls (pc, nx, .bastore, a, b, k)) (h : p_sem (ex mt lay d) Q (WX p l e R s m args below meth c kc ks D cT ad lay A cd.2.2.1 (MQ below Qc args s kc ks A)) (p_step cd lay nx (.bastore) a b k pc ls st M)) : WX p l e R s m args below meth c kc ks D cT ad lay A cd.2.2.1 (MQ below Qc args s kc ks A) (pc, ls, st, M) := by
  obtain ⟨ok, ow⟩ := ok
  simp only [p_eb, p_il, Bool.and_eq_true, Bool.or_eq_true, decide_eq_true_eq, beq_iff_eq] at ok
  obtain ⟨⟨⟨hd, hle⟩, hln⟩, hz⟩ := ok
  intro la H locs hl S
  have C' := C
  obtain ⟨⟨⟨hx, hb, hml, hown, hts⟩, hK, hJ⟩, hr, hlk⟩ := C
  simp only [p_step] at h
  have hnx : nx = pc + 1 := by rcases hln with hln | hln <;> omega
  subst hnx
  have hd : decode cd.2.1 pc = .ok (.bastore, 1) := by rw [hd]; congr 2; omega
  split at h
  · split at h
    · next hi => exact xq_zast C' S hi (p_on_sem h).1 hd (fun H locs S => (p_on_sem h).2 la H locs hl S)
    · next hi => exact xq_bast C' S hi (p_on_sem h).1 hd (fun H locs S => (p_on_sem h).2 la H locs hl S)
    · exact h.elim
  · exact h.elim
end
section
variable {mt : List pCd} {cd : pCd} {d : Nat} {Q : pQ} {nx a b k pc : Nat} {ls : List (Option Value)} {st : List Value} {M : Mem} {Qc : Array Value → State → Outcome → State → Prop}
theorem sd_lastore (C : Bx p s m args meth c cd.1.cls cd.2.1 cd.2.2.1 cd.2.2.2.1 D cT ad lay A) (hR : d + 1 ≤ R.frames ∧ 64 * (d + 1) ≤ R.locals) (hcs : kc ≤ R.cells ∧ ks ≤ R.slots) (ih : p_ih l mt lay D cT ad d) (hq : ∀ (r : Option Value) (M : Mem) (t : State), Q r M → HM D cT ad lay M t.heap → va_F A s t → Qc args s (.returned (r.map (cv ad))) t) (ok : p_eb cd.2.1 cd.2.2.1 (pc, nx, .lastore, a, b, k) = true ∧ p_ew mt cd.1.cls (pc, nx, .lastore, a, b, k)) (h : p_sem (ex mt lay d) Q (WX p l e R s m args below meth c kc ks D cT ad lay A cd.2.2.1 (MQ below Qc args s kc ks A)) (p_step cd lay nx (.lastore) a b k pc ls st M)) : WX p l e R s m args below meth c kc ks D cT ad lay A cd.2.2.1 (MQ below Qc args s kc ks A) (pc, ls, st, M) := by
  obtain ⟨ok, ow⟩ := ok
  simp only [p_eb, p_il, Bool.and_eq_true, Bool.or_eq_true, decide_eq_true_eq, beq_iff_eq] at ok
  obtain ⟨⟨⟨hd, hle⟩, hln⟩, hz⟩ := ok
  intro la H locs hl S
  have C' := C
  obtain ⟨⟨⟨hx, hb, hml, hown, hts⟩, hK, hJ⟩, hr, hlk⟩ := C
  simp only [p_step] at h
  have hnx : nx = pc + 1 := by rcases hln with hln | hln <;> omega
  subst hnx
  have hd : decode cd.2.1 pc = .ok (.lastore, 1) := by rw [hd]; congr 2; omega
  split at h
  · split at h
    · next hi => exact xq_last C' S hi (p_on_sem h).1 hd (fun H locs S => (p_on_sem h).2 la H locs hl S)
    · exact h.elim
  · exact h.elim
end
section
variable {mt : List pCd} {cd : pCd} {d : Nat} {Q : pQ} {nx a b k pc : Nat} {ls : List (Option Value)} {st : List Value} {M : Mem} {Qc : Array Value → State → Outcome → State → Prop}
theorem sd_arraylength (C : Bx p s m args meth c cd.1.cls cd.2.1 cd.2.2.1 cd.2.2.2.1 D cT ad lay A) (hR : d + 1 ≤ R.frames ∧ 64 * (d + 1) ≤ R.locals) (hcs : kc ≤ R.cells ∧ ks ≤ R.slots) (ih : p_ih l mt lay D cT ad d) (hq : ∀ (r : Option Value) (M : Mem) (t : State), Q r M → HM D cT ad lay M t.heap → va_F A s t → Qc args s (.returned (r.map (cv ad))) t) (ok : p_eb cd.2.1 cd.2.2.1 (pc, nx, .arraylength, a, b, k) = true ∧ p_ew mt cd.1.cls (pc, nx, .arraylength, a, b, k)) (h : p_sem (ex mt lay d) Q (WX p l e R s m args below meth c kc ks D cT ad lay A cd.2.2.1 (MQ below Qc args s kc ks A)) (p_step cd lay nx (.arraylength) a b k pc ls st M)) : WX p l e R s m args below meth c kc ks D cT ad lay A cd.2.2.1 (MQ below Qc args s kc ks A) (pc, ls, st, M) := by
  obtain ⟨ok, ow⟩ := ok
  simp only [p_eb, p_il, Bool.and_eq_true, Bool.or_eq_true, decide_eq_true_eq, beq_iff_eq] at ok
  obtain ⟨⟨⟨hd, hle⟩, hln⟩, hz⟩ := ok
  intro la H locs hl S
  have C' := C
  obtain ⟨⟨⟨hx, hb, hml, hown, hts⟩, hK, hJ⟩, hr, hlk⟩ := C
  simp only [p_step] at h
  have hnx : nx = pc + 1 := by rcases hln with hln | hln <;> omega
  subst hnx
  have hd : decode cd.2.1 pc = .ok (.arraylength, 1) := by rw [hd]; congr 2; omega
  split at h
  · split at h
    · next hi => exact xq_alen C' S hi (p_on_sem h).1 rfl hd ((p_on_sem h).2 la H locs hl S)
    · exact h.elim
  · exact h.elim
end
section
variable {mt : List pCd} {cd : pCd} {d : Nat} {Q : pQ} {nx a b k pc : Nat} {ls : List (Option Value)} {st : List Value} {M : Mem} {Qc : Array Value → State → Outcome → State → Prop}
theorem sd_invokevirtual (C : Bx p s m args meth c cd.1.cls cd.2.1 cd.2.2.1 cd.2.2.2.1 D cT ad lay A) (hR : d + 1 ≤ R.frames ∧ 64 * (d + 1) ≤ R.locals) (hcs : kc ≤ R.cells ∧ ks ≤ R.slots) (ih : p_ih l mt lay D cT ad d) (hq : ∀ (r : Option Value) (M : Mem) (t : State), Q r M → HM D cT ad lay M t.heap → va_F A s t → Qc args s (.returned (r.map (cv ad))) t) {n : Nat} (ok : p_eb cd.2.1 cd.2.2.1 (pc, nx, .invokevirtual n, a, b, k) = true ∧ p_ew mt cd.1.cls (pc, nx, .invokevirtual n, a, b, k)) (h : p_sem (ex mt lay d) Q (WX p l e R s m args below meth c kc ks D cT ad lay A cd.2.2.1 (MQ below Qc args s kc ks A)) (p_step cd lay nx (.invokevirtual n) a b k pc ls st M)) : WX p l e R s m args below meth c kc ks D cT ad lay A cd.2.2.1 (MQ below Qc args s kc ks A) (pc, ls, st, M) := by
  obtain ⟨ok, ow⟩ := ok
  simp only [p_eb, p_il, Bool.and_eq_true, Bool.or_eq_true, decide_eq_true_eq, beq_iff_eq] at ok
  obtain ⟨⟨⟨hd, hle⟩, hln⟩, hz⟩ := ok
  intro la H locs hl S
  have C' := C
  obtain ⟨⟨⟨hx, hb, hml, hown, hts⟩, hK, hJ⟩, hr, hlk⟩ := C
  simp only [p_step] at h
  have hnx : nx = pc + 3 := by rcases hln with hln | hln <;> omega
  subst hnx
  have hd : decode cd.2.1 pc = .ok (.invokevirtual n, 3) := by rw [hd]; congr 2; omega
  split at h
  · next q rest hdr =>
    split at h
    · next ci fks hi =>
      obtain ⟨⟨hc, hsum⟩, h'⟩ := h
      have h := h'
      clear h'
      subst hc
      obtain ⟨cd', w1, w2, w3, w4⟩ := ow
      obtain ⟨hst, hlen⟩ := p_cvR rest k st _ hdr
      have hM := ih _ _ _ _ _ w1 h
      have hst2 : st.map (cv ad) = ((st.take k).reverse.map (cv ad)).reverse ++ .ref (ad q) :: rest.map (cv ad) := by
        rw [← List.map_reverse, List.reverse_reverse]
        conv => lhs; rw [hst]
        rw [List.map_append]; rfl
      have hlen2 : ((st.take k).reverse.map (cv ad)).length = k := by rw [List.length_map, List.length_reverse, hlen]
      have hrun := run_V (l := l) (e := e) (R := R) (below := below) (As := (st.take k).reverse.map (cv ad)) (rest := rest.map (cv ad)) (st0 := st.map (cv ad)) C' S (kc := kc) (ks := ks) (ls := la) (pc := pc) hM hi w2 w3 ⟨by omega, by have := hR.2; have h45 : cd'.2.2.1 ≤ 45 := w4; omega⟩ hcs hl.1 hlen2 hst2 (by rw [p_sum_cv]; exact hsum) hd
      refine go_X C' S hrun (fun r M H locs hr S => ?_)
      rw [p_toList]
      exact hr la H locs hl S
    · exact h.elim
  · exact h.elim
end
section
variable {mt : List pCd} {cd : pCd} {d : Nat} {Q : pQ} {nx a b k pc : Nat} {ls : List (Option Value)} {st : List Value} {M : Mem} {Qc : Array Value → State → Outcome → State → Prop}
theorem sd_invokestatic (C : Bx p s m args meth c cd.1.cls cd.2.1 cd.2.2.1 cd.2.2.2.1 D cT ad lay A) (hR : d + 1 ≤ R.frames ∧ 64 * (d + 1) ≤ R.locals) (hcs : kc ≤ R.cells ∧ ks ≤ R.slots) (ih : p_ih l mt lay D cT ad d) (hq : ∀ (r : Option Value) (M : Mem) (t : State), Q r M → HM D cT ad lay M t.heap → va_F A s t → Qc args s (.returned (r.map (cv ad))) t) {n : Nat} (ok : p_eb cd.2.1 cd.2.2.1 (pc, nx, .invokestatic n, a, b, k) = true ∧ p_ew mt cd.1.cls (pc, nx, .invokestatic n, a, b, k)) (h : p_sem (ex mt lay d) Q (WX p l e R s m args below meth c kc ks D cT ad lay A cd.2.2.1 (MQ below Qc args s kc ks A)) (p_step cd lay nx (.invokestatic n) a b k pc ls st M)) : WX p l e R s m args below meth c kc ks D cT ad lay A cd.2.2.1 (MQ below Qc args s kc ks A) (pc, ls, st, M) := by
  obtain ⟨ok, ow⟩ := ok
  simp only [p_eb, p_il, Bool.and_eq_true, Bool.or_eq_true, decide_eq_true_eq, beq_iff_eq] at ok
  obtain ⟨⟨⟨hd, hle⟩, hln⟩, hz⟩ := ok
  intro la H locs hl S
  have C' := C
  obtain ⟨⟨⟨hx, hb, hml, hown, hts⟩, hK, hJ⟩, hr, hlk⟩ := C
  simp only [p_step] at h
  have hnx : nx = pc + 3 := by rcases hln with hln | hln <;> omega
  subst hnx
  have hd : decode cd.2.1 pc = .ok (.invokestatic n, 3) := by rw [hd]; congr 2; omega
  split at h
  · split at h
    · next n1 dp q sp r rest =>
      split at h
      · next n0 n2 hi hj =>
        obtain ⟨⟨⟨c1, c2, c3⟩, ⟨c4, c5⟩, c6⟩, h⟩ := p_on_sem h
        obtain ⟨w1, w2, w3, w4⟩ := ow
        have hn : nativeFrameWords "java/lang/System" "arraycopy" 5 = 7 := by decide
        refine xq_copy C' S hl.1 hi hj w1 w2 w3 w4 c1 c2 c3 c4 c5 (by omega) ?_ hd (fun H locs S => h la H locs hl S)
        have := hR.2
        rw [hn, p_sum_cv]
        omega
      · exact h.elim
    · exact h.elim
  · next hb3 =>
    obtain ⟨⟨hc, hsum⟩, h⟩ := h
    have ow : ∃ cd', mt[a]? = some cd' ∧ SOk cd'.1 cd'.2.1 cd'.2.2.1 cd'.2.2.2.1 k ∧ (if b = 2 then Cond.methodLinkNest cd.1.cls n cd'.1 RX10 ∈ nestW else Cond.methodLink cd.1.cls n cd'.1 ∈ wsG) ∧ cd'.2.2.1 ≤ 45 := by
      have ow : p_cs mt cd.1.cls n a b k := ow
      unfold p_cs at ow
      split at ow
      · exact (hb3 rfl).elim
      · exact ow
    obtain ⟨cd', w1, w2, w3, w4⟩ := ow
    have hM := ih _ _ _ _ _ w1 h
    have hst : st.map (cv ad) = ((st.take k).reverse.map (cv ad)).reverse ++ (st.drop k).map (cv ad) := by
      rw [← List.map_reverse, List.reverse_reverse, ← List.map_append, List.take_append_drop]
    have hlen : ((st.take k).reverse.map (cv ad)).length = k := by simp; omega
    have hrun : va_Run p l e R s m args below meth c H locs kc ks 0 0 (F0 m pc la (st.map (cv ad))) ((st.drop k).map (cv ad)) (QcX D cT ad lay (AA ad lay) (fun r M => WX p l e R s m args below meth c kc ks D cT ad lay A cd.2.2.1 (MQ below Qc args s kc ks A) (pc + 3, ls, r.toList ++ st.drop k, M)) ((st.take k).reverse.map (cv ad)).toArray) (AA ad lay) := by
      by_cases hb2 : b = 2
      · rw [if_pos hb2] at w3
        exact run_N C' S hM w2 w3 ⟨by omega, by have := hR.2; have h45 : cd'.2.2.1 ≤ 45 := w4; omega⟩ hcs hl.1 hlen hst (by rw [p_sum_cv]; exact hsum) hd
      · rw [if_neg hb2] at w3
        exact run_S C' S hM w2 w3 ⟨by omega, by have := hR.2; have h45 : cd'.2.2.1 ≤ 45 := w4; omega⟩ hcs hl.1 hlen hst (by rw [p_sum_cv]; exact hsum) hd
    refine go_X C' S hrun (fun r M H locs hr S => ?_)
    rw [p_toList]
    exact hr la H locs hl S
end
section
variable {mt : List pCd} {cd : pCd} {d : Nat} {Q : pQ} {nx a b k pc : Nat} {ls : List (Option Value)} {st : List Value} {M : Mem} {Qc : Array Value → State → Outcome → State → Prop}
theorem sd_ireturn (C : Bx p s m args meth c cd.1.cls cd.2.1 cd.2.2.1 cd.2.2.2.1 D cT ad lay A) (hR : d + 1 ≤ R.frames ∧ 64 * (d + 1) ≤ R.locals) (hcs : kc ≤ R.cells ∧ ks ≤ R.slots) (ih : p_ih l mt lay D cT ad d) (hq : ∀ (r : Option Value) (M : Mem) (t : State), Q r M → HM D cT ad lay M t.heap → va_F A s t → Qc args s (.returned (r.map (cv ad))) t) (ok : p_eb cd.2.1 cd.2.2.1 (pc, nx, .ireturn, a, b, k) = true ∧ p_ew mt cd.1.cls (pc, nx, .ireturn, a, b, k)) (h : p_sem (ex mt lay d) Q (WX p l e R s m args below meth c kc ks D cT ad lay A cd.2.2.1 (MQ below Qc args s kc ks A)) (p_step cd lay nx (.ireturn) a b k pc ls st M)) : WX p l e R s m args below meth c kc ks D cT ad lay A cd.2.2.1 (MQ below Qc args s kc ks A) (pc, ls, st, M) := by
  obtain ⟨ok, ow⟩ := ok
  simp only [p_eb, p_il, Bool.and_eq_true, Bool.or_eq_true, decide_eq_true_eq, beq_iff_eq] at ok
  obtain ⟨⟨⟨hd, hle⟩, hln⟩, hz⟩ := ok
  intro la H locs hl S
  have C' := C
  obtain ⟨⟨⟨hx, hb, hml, hown, hts⟩, hK, hJ⟩, hr, hlk⟩ := C
  simp only [p_step] at h
  have hnx : nx = pc + 1 := by rcases hln with hln | hln <;> omega
  subst hnx
  have hd : decode cd.2.1 pc = .ok (.ireturn, 1) := by rw [hd]; congr 2; omega
  split at h
  · next v =>
    split at h
    · next hret =>
      rw [hret] at C'
      exact xq_iret C' S (fun t ht hF => hq (some (.int v)) M t h.2 (by rw [ht]; exact S.1) hF) hd
    · next hret =>
      rw [hret] at C'
      exact xq_zret C' S (p_bits_n h.1).1 (fun t ht hF => hq (some (.int v)) M t h.2 (by rw [ht]; exact S.1) hF) hd
    · exact h.elim
  · exact h.elim
end
section
variable {mt : List pCd} {cd : pCd} {d : Nat} {Q : pQ} {nx a b k pc : Nat} {ls : List (Option Value)} {st : List Value} {M : Mem} {Qc : Array Value → State → Outcome → State → Prop}
theorem sd_lreturn (C : Bx p s m args meth c cd.1.cls cd.2.1 cd.2.2.1 cd.2.2.2.1 D cT ad lay A) (hR : d + 1 ≤ R.frames ∧ 64 * (d + 1) ≤ R.locals) (hcs : kc ≤ R.cells ∧ ks ≤ R.slots) (ih : p_ih l mt lay D cT ad d) (hq : ∀ (r : Option Value) (M : Mem) (t : State), Q r M → HM D cT ad lay M t.heap → va_F A s t → Qc args s (.returned (r.map (cv ad))) t) (ok : p_eb cd.2.1 cd.2.2.1 (pc, nx, .lreturn, a, b, k) = true ∧ p_ew mt cd.1.cls (pc, nx, .lreturn, a, b, k)) (h : p_sem (ex mt lay d) Q (WX p l e R s m args below meth c kc ks D cT ad lay A cd.2.2.1 (MQ below Qc args s kc ks A)) (p_step cd lay nx (.lreturn) a b k pc ls st M)) : WX p l e R s m args below meth c kc ks D cT ad lay A cd.2.2.1 (MQ below Qc args s kc ks A) (pc, ls, st, M) := by
  obtain ⟨ok, ow⟩ := ok
  simp only [p_eb, p_il, Bool.and_eq_true, Bool.or_eq_true, decide_eq_true_eq, beq_iff_eq] at ok
  obtain ⟨⟨⟨hd, hle⟩, hln⟩, hz⟩ := ok
  intro la H locs hl S
  have C' := C
  obtain ⟨⟨⟨hx, hb, hml, hown, hts⟩, hK, hJ⟩, hr, hlk⟩ := C
  simp only [p_step] at h
  have hnx : nx = pc + 1 := by rcases hln with hln | hln <;> omega
  subst hnx
  have hd : decode cd.2.1 pc = .ok (.lreturn, 1) := by rw [hd]; congr 2; omega
  split at h
  · next v =>
    split at h
    · next hret =>
      rw [hret] at C'
      exact xq_lret C' S (fun t ht hF => hq (some (.long v)) M t h.2 (by rw [ht]; exact S.1) hF) hd
    · exact h.elim
  · exact h.elim
end
section
variable {mt : List pCd} {cd : pCd} {d : Nat} {Q : pQ} {nx a b k pc : Nat} {ls : List (Option Value)} {st : List Value} {M : Mem} {Qc : Array Value → State → Outcome → State → Prop}
theorem sd_areturn (C : Bx p s m args meth c cd.1.cls cd.2.1 cd.2.2.1 cd.2.2.2.1 D cT ad lay A) (hR : d + 1 ≤ R.frames ∧ 64 * (d + 1) ≤ R.locals) (hcs : kc ≤ R.cells ∧ ks ≤ R.slots) (ih : p_ih l mt lay D cT ad d) (hq : ∀ (r : Option Value) (M : Mem) (t : State), Q r M → HM D cT ad lay M t.heap → va_F A s t → Qc args s (.returned (r.map (cv ad))) t) (ok : p_eb cd.2.1 cd.2.2.1 (pc, nx, .areturn, a, b, k) = true ∧ p_ew mt cd.1.cls (pc, nx, .areturn, a, b, k)) (h : p_sem (ex mt lay d) Q (WX p l e R s m args below meth c kc ks D cT ad lay A cd.2.2.1 (MQ below Qc args s kc ks A)) (p_step cd lay nx (.areturn) a b k pc ls st M)) : WX p l e R s m args below meth c kc ks D cT ad lay A cd.2.2.1 (MQ below Qc args s kc ks A) (pc, ls, st, M) := by
  obtain ⟨ok, ow⟩ := ok
  simp only [p_eb, p_il, Bool.and_eq_true, Bool.or_eq_true, decide_eq_true_eq, beq_iff_eq] at ok
  obtain ⟨⟨⟨hd, hle⟩, hln⟩, hz⟩ := ok
  intro la H locs hl S
  have C' := C
  obtain ⟨⟨⟨hx, hb, hml, hown, hts⟩, hK, hJ⟩, hr, hlk⟩ := C
  simp only [p_step] at h
  have hnx : nx = pc + 1 := by rcases hln with hln | hln <;> omega
  subst hnx
  have hd : decode cd.2.1 pc = .ok (.areturn, 1) := by rw [hd]; congr 2; omega
  split at h
  · next v =>
    split at h
    · next nm hret =>
      exact xq_aret C' S hret (fun t ht hF => hq (some (.ref v)) M t h.2 (by rw [ht]; exact S.1) hF) hd
    · exact h.elim
  · exact h.elim
end
section
variable {mt : List pCd} {cd : pCd} {d : Nat} {Q : pQ} {nx a b k pc : Nat} {ls : List (Option Value)} {st : List Value} {M : Mem} {Qc : Array Value → State → Outcome → State → Prop}
theorem sd_return_ (C : Bx p s m args meth c cd.1.cls cd.2.1 cd.2.2.1 cd.2.2.2.1 D cT ad lay A) (hR : d + 1 ≤ R.frames ∧ 64 * (d + 1) ≤ R.locals) (hcs : kc ≤ R.cells ∧ ks ≤ R.slots) (ih : p_ih l mt lay D cT ad d) (hq : ∀ (r : Option Value) (M : Mem) (t : State), Q r M → HM D cT ad lay M t.heap → va_F A s t → Qc args s (.returned (r.map (cv ad))) t) (ok : p_eb cd.2.1 cd.2.2.1 (pc, nx, .return_, a, b, k) = true ∧ p_ew mt cd.1.cls (pc, nx, .return_, a, b, k)) (h : p_sem (ex mt lay d) Q (WX p l e R s m args below meth c kc ks D cT ad lay A cd.2.2.1 (MQ below Qc args s kc ks A)) (p_step cd lay nx (.return_) a b k pc ls st M)) : WX p l e R s m args below meth c kc ks D cT ad lay A cd.2.2.1 (MQ below Qc args s kc ks A) (pc, ls, st, M) := by
  obtain ⟨ok, ow⟩ := ok
  simp only [p_eb, p_il, Bool.and_eq_true, Bool.or_eq_true, decide_eq_true_eq, beq_iff_eq] at ok
  obtain ⟨⟨⟨hd, hle⟩, hln⟩, hz⟩ := ok
  intro la H locs hl S
  have C' := C
  obtain ⟨⟨⟨hx, hb, hml, hown, hts⟩, hK, hJ⟩, hr, hlk⟩ := C
  simp only [p_step] at h
  have hnx : nx = pc + 1 := by rcases hln with hln | hln <;> omega
  subst hnx
  have hd : decode cd.2.1 pc = .ok (.return_, 1) := by rw [hd]; congr 2; omega
  split at h
  · split at h
    · next hret =>
      rw [hret] at C'
      exact xq_vret C' S (fun t ht hF => hq none M t h.2 (by rw [ht]; exact S.1) hF) hd
    · exact h.elim
  · exact h.elim
end
section
variable {mt : List pCd} {cd : pCd} {d : Nat} {Q : pQ} {nx a b k pc : Nat} {ls : List (Option Value)} {st : List Value} {M : Mem} {Qc : Array Value → State → Outcome → State → Prop}
theorem sd_all (C : Bx p s m args meth c cd.1.cls cd.2.1 cd.2.2.1 cd.2.2.2.1 D cT ad lay A) (hR : d + 1 ≤ R.frames ∧ 64 * (d + 1) ≤ R.locals) (hcs : kc ≤ R.cells ∧ ks ≤ R.slots) (ih : p_ih l mt lay D cT ad d) (hq : ∀ (r : Option Value) (M : Mem) (t : State), Q r M → HM D cT ad lay M t.heap → va_F A s t → Qc args s (.returned (r.map (cv ad))) t) (i : Instr) (ok : p_eb cd.2.1 cd.2.2.1 (pc, nx, i, a, b, k) = true ∧ p_ew mt cd.1.cls (pc, nx, i, a, b, k)) (h : p_sem (ex mt lay d) Q (WX p l e R s m args below meth c kc ks D cT ad lay A cd.2.2.1 (MQ below Qc args s kc ks A)) (p_step cd lay nx i a b k pc ls st M)) : WX p l e R s m args below meth c kc ks D cT ad lay A cd.2.2.1 (MQ below Qc args s kc ks A) (pc, ls, st, M) := by
  cases i with
  | aload_n n => exact sd_aload_n C hR hcs ih hq ok h
  | aload n => exact sd_aload C hR hcs ih hq ok h
  | iload_n n => exact sd_iload_n C hR hcs ih hq ok h
  | iload n => exact sd_iload C hR hcs ih hq ok h
  | lload_n n => exact sd_lload_n C hR hcs ih hq ok h
  | lload n => exact sd_lload C hR hcs ih hq ok h
  | iconst n => exact sd_iconst C hR hcs ih hq ok h
  | bipush n => exact sd_bipush C hR hcs ih hq ok h
  | sipush n => exact sd_sipush C hR hcs ih hq ok h
  | lconst n => exact sd_lconst C hR hcs ih hq ok h
  | ldc n => exact sd_ldc C hR hcs ih hq ok h
  | ldc_w n => exact sd_ldc_w C hR hcs ih hq ok h
  | ldc2_w n => exact sd_ldc2_w C hR hcs ih hq ok h
  | istore_n n => exact sd_istore_n C hR hcs ih hq ok h
  | istore n => exact sd_istore C hR hcs ih hq ok h
  | astore_n n => exact sd_astore_n C hR hcs ih hq ok h
  | astore n => exact sd_astore C hR hcs ih hq ok h
  | lstore_n n => exact sd_lstore_n C hR hcs ih hq ok h
  | lstore n => exact sd_lstore C hR hcs ih hq ok h
  | iinc n i => exact sd_iinc C hR hcs ih hq ok h
  | iadd => exact sd_iadd C hR hcs ih hq ok h
  | isub => exact sd_isub C hR hcs ih hq ok h
  | imul => exact sd_imul C hR hcs ih hq ok h
  | iand => exact sd_iand C hR hcs ih hq ok h
  | ior => exact sd_ior C hR hcs ih hq ok h
  | ixor => exact sd_ixor C hR hcs ih hq ok h
  | ishl => exact sd_ishl C hR hcs ih hq ok h
  | ishr => exact sd_ishr C hR hcs ih hq ok h
  | ladd => exact sd_ladd C hR hcs ih hq ok h
  | lsub => exact sd_lsub C hR hcs ih hq ok h
  | lmul => exact sd_lmul C hR hcs ih hq ok h
  | land => exact sd_land C hR hcs ih hq ok h
  | lor => exact sd_lor C hR hcs ih hq ok h
  | idiv => exact sd_idiv C hR hcs ih hq ok h
  | irem => exact sd_irem C hR hcs ih hq ok h
  | ldiv => exact sd_ldiv C hR hcs ih hq ok h
  | lrem => exact sd_lrem C hR hcs ih hq ok h
  | iushr => exact sd_iushr C hR hcs ih hq ok h
  | lshl => exact sd_lshl C hR hcs ih hq ok h
  | lshr => exact sd_lshr C hR hcs ih hq ok h
  | i2l => exact sd_i2l C hR hcs ih hq ok h
  | l2i => exact sd_l2i C hR hcs ih hq ok h
  | i2b => exact sd_i2b C hR hcs ih hq ok h
  | lcmp => exact sd_lcmp C hR hcs ih hq ok h
  | dup => exact sd_dup C hR hcs ih hq ok h
  | pop => exact sd_pop C hR hcs ih hq ok h
  | dup_x1 => exact sd_dup_x1 C hR hcs ih hq ok h
  | dup2 => exact sd_dup2 C hR hcs ih hq ok h
  | ifCond q off => exact sd_ifCond C hR hcs ih hq ok h
  | if_icmp q off => exact sd_if_icmp C hR hcs ih hq ok h
  | goto off => exact sd_goto C hR hcs ih hq ok h
  | ifnonnull off => exact sd_ifnonnull C hR hcs ih hq ok h
  | tableswitch df lo hi offs => exact sd_tableswitch C hR hcs ih hq ok h
  | lookupswitch df ps => exact sd_lookupswitch C hR hcs ih hq ok h
  | getfield n => exact sd_getfield C hR hcs ih hq ok h
  | putfield n => exact sd_putfield C hR hcs ih hq ok h
  | iaload => exact sd_iaload C hR hcs ih hq ok h
  | baload => exact sd_baload C hR hcs ih hq ok h
  | laload => exact sd_laload C hR hcs ih hq ok h
  | iastore => exact sd_iastore C hR hcs ih hq ok h
  | bastore => exact sd_bastore C hR hcs ih hq ok h
  | lastore => exact sd_lastore C hR hcs ih hq ok h
  | arraylength => exact sd_arraylength C hR hcs ih hq ok h
  | invokevirtual n => exact sd_invokevirtual C hR hcs ih hq ok h
  | invokestatic n => exact sd_invokestatic C hR hcs ih hq ok h
  | ireturn => exact sd_ireturn C hR hcs ih hq ok h
  | lreturn => exact sd_lreturn C hR hcs ih hq ok h
  | areturn => exact sd_areturn C hR hcs ih hq ok h
  | return_ => exact sd_return_ C hR hcs ih hq ok h
  | _ => exact h.elim
theorem fw_W (C : Bx p s m args meth c cd.1.cls cd.2.1 cd.2.2.1 cd.2.2.2.1 D cT ad lay A) (ok : p_mok mt cd) (hR : d + 1 ≤ R.frames ∧ 64 * (d + 1) ≤ R.locals) (hcs : kc ≤ R.cells ∧ ks ≤ R.slots) (ih : p_ih l mt lay D cT ad d) (hq : ∀ (r : Option Value) (M : Mem) (t : State), Q r M → HM D cT ad lay M t.heap → va_F A s t → Qc args s (.returned (r.map (cv ad))) t) {f : pFr} (h : fw (ex mt lay d) cd lay Q f) : WX p l e R s m args below meth c kc ks D cT ad lay A cd.2.2.1 (MQ below Qc args s kc ks A) f := by
  refine h _ (fun g hg => ?_) (fun pc ls ls' st M hs hX la H locs hl S => hX la H locs (hl.sub hs) S)
  unfold p_stp at hg
  split at hg
  · exact hg.elim
  · next nx i a b k he => exact sd_all C hR hcs ih hq i (ok.2 _ (p_fe_mem he)) hg
end
end PS
theorem p_ea_get (ad : Nat → Nat) : ∀ (av : List Value) (j i : Nat) (v : Value), p_lg (p_ea av) i = some v → (j + i, cv ad v) ∈ lv_args j (av.map (cv ad))
  | [], j, i, v, h => by cases h
  | w :: av, j, i, v, h => by
    simp only [p_ea] at h
    simp only [List.map_cons, lv_args]
    by_cases hc : w.category = 2
    · rw [if_pos hc] at h
      rw [cv_cat, if_pos hc]
      match i, h with
      | 0, h => cases h; exact List.mem_cons_self
      | 1, h => cases h
      | i + 2, h =>
        have := p_ea_get ad av (j + 2) i v h
        rw [show j + (i + 2) = j + 2 + i by omega]
        exact List.mem_cons_of_mem _ this
    · rw [if_neg hc] at h
      rw [cv_cat, if_neg hc]
      match i, h with
      | 0, h => cases h; exact List.mem_cons_self
      | i + 1, h =>
        have := p_ea_get ad av (j + 1) i v h
        rw [show j + (i + 1) = j + 1 + i by omega]
        exact List.mem_cons_of_mem _ this
theorem p_lg_app : ∀ (l : List (Option Value)) (n i : Nat) (v : Value), p_lg (l ++ List.replicate n none) i = some v → p_lg l i = some v
  | [], 0, _, _, h => by cases h
  | [], n + 1, 0, _, h => by cases h
  | [], n + 1, i + 1, v, h => by
    have := p_lg_app [] n i v h
    cases this
  | _ :: _, _, 0, _, h => h
  | _ :: l, n, i + 1, v, h => p_lg_app l n i v h
theorem p_ea_len (ad : Nat → Nat) : ∀ av : List Value, (lg_sl (av.map (cv ad))).length = (p_ea av).length
  | [] => rfl
  | v :: av => by
    have ih := p_ea_len ad av
    simp only [lg_sl, List.map_cons, List.flatMap_cons, List.length_append, p_ea] at ih ⊢
    rw [ih, cv_cat]
    split <;> simp <;> omega
/-- WHAT A CALL COMES TO, THE MACHINE COMES TO -/
theorem ex_met {mt : List pCd} (hmt : ∀ cd ∈ mt, p_mok mt cd) (l : Launch) (lay : List LC) (D : va_G) (cT : Nat → ClassId) (ad : Nat → Nat) : ∀ d, p_ih l mt lay D cT ad d
  | 0 => fun _ _ _ _ _ _ h => h.elim
  | d + 1 => by
    intro y av M Q cd hcd h
    obtain ⟨cd', h1, h2, h3⟩ := h
    have e0 : cd' = cd := Option.some.inj (h1.symm.trans hcd)
    subst e0
    have ok := hmt cd' (List.mem_of_getElem? h1)
    refine body_of ok.1 (by rw [p_ea_len]; exact h2) (fun p e s m args below meth c ls C hl S => ?_)
    refine fw_W (l := l) (e := e) (R := Rm (d + 1) (64 * (d + 1))) (below := below) (kc := 0) (ks := 0) C ok ⟨Nat.le_refl _, Nat.le_refl _⟩ ⟨Nat.le_refl _, Nat.le_refl _⟩ (ex_met hmt l lay D cT ad d) (fun r M t hQ hP hF => ⟨⟨r, M, rfl, hQ, hP⟩, hF⟩) h3 ls s.heap [] ⟨hl.1, hl.2.1, fun q hq => ?_⟩ S
    obtain ⟨v, hv, ev⟩ := p_ll_mem.mp (show (q.1, q.2) ∈ _ from hq)
    have := p_ea_get ad av 0 q.1 v (p_lg_app _ _ _ _ hv)
    rw [Nat.zero_add, ← ev] at this
    exact hl.2.2 q this
end
