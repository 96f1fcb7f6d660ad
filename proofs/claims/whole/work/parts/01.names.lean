-- ===== PART A: goes FIRST, ahead of the names: the tables' words, and 'selects' of the private methods out of them =====
/-- a private method of a class that the tables say can be made, by its rows of tables_1 -/
def lw_okq (q : MethodName × Nat) : Prop := (q.1.cls ≠ "java/lang/invoke/MethodHandle" ∧ q.1.cls ≠ "java/lang/invoke/VarHandle") ∧ Cond.instantiable q.1.cls q.2 ∈ tables_1 ∧ Cond.privateMethod q.1 ∈ tables_1 ∧ Cond.instanceMethod q.1 ∈ tables_1
theorem lw_p0 : lw_okq (⟨"Portsmith$Tape", "takes", "(C)Z"⟩, 4) := ⟨⟨by decide +kernel, by decide +kernel⟩, List.mem_of_getElem? (i := 31) (by decide +kernel), List.mem_of_getElem? (i := 331) (by decide +kernel), List.mem_of_getElem? (i := 332) (by decide +kernel)⟩
theorem lw_p1 : lw_okq (⟨"Portsmith$Tape", "readTest", "(Z)LPortsmith$Test;"⟩, 4) := ⟨⟨by decide +kernel, by decide +kernel⟩, List.mem_of_getElem? (i := 31) (by decide +kernel), List.mem_of_getElem? (i := 365) (by decide +kernel), List.mem_of_getElem? (i := 366) (by decide +kernel)⟩
theorem lw_p2 : lw_okq (⟨"Portsmith$Tape", "readKind", "()I"⟩, 4) := ⟨⟨by decide +kernel, by decide +kernel⟩, List.mem_of_getElem? (i := 31) (by decide +kernel), List.mem_of_getElem? (i := 369) (by decide +kernel), List.mem_of_getElem? (i := 370) (by decide +kernel)⟩
theorem lw_p3 : lw_okq (⟨"Portsmith$Tape", "readDigit", "()I"⟩, 4) := ⟨⟨by decide +kernel, by decide +kernel⟩, List.mem_of_getElem? (i := 31) (by decide +kernel), List.mem_of_getElem? (i := 373) (by decide +kernel), List.mem_of_getElem? (i := 374) (by decide +kernel)⟩
theorem lw_p4 : lw_okq (⟨"Portsmith$Installer", "canGo", "(I)Z"⟩, 10) := ⟨⟨by decide +kernel, by decide +kernel⟩, List.mem_of_getElem? (i := 125) (by decide +kernel), List.mem_of_getElem? (i := 404) (by decide +kernel), List.mem_of_getElem? (i := 405) (by decide +kernel)⟩
theorem lw_p5 : lw_okq (⟨"Portsmith$Installer", "drop", "(I)V"⟩, 10) := ⟨⟨by decide +kernel, by decide +kernel⟩, List.mem_of_getElem? (i := 125) (by decide +kernel), List.mem_of_getElem? (i := 408) (by decide +kernel), List.mem_of_getElem? (i := 409) (by decide +kernel)⟩
theorem lw_p6 : lw_okq (⟨"java/lang/Throwable", "fillInStackTrace", "(I)Ljava/lang/Throwable;"⟩, 6) := ⟨⟨by decide +kernel, by decide +kernel⟩, List.mem_of_getElem? (i := 467) (by decide +kernel), List.mem_of_getElem? (i := 465) (by decide +kernel), List.mem_of_getElem? (i := 466) (by decide +kernel)⟩
theorem lw_p7 : lw_okq (⟨"Portsmith", "checkVersion", "(II)V"⟩, 18) := ⟨⟨by decide +kernel, by decide +kernel⟩, List.mem_of_getElem? (i := 23) (by decide +kernel), List.mem_of_getElem? (i := 662) (by decide +kernel), List.mem_of_getElem? (i := 663) (by decide +kernel)⟩
theorem lw_p8 : lw_okq (⟨"Portsmith", "tapeAsRange", "()LPortsmith$Range;"⟩, 18) := ⟨⟨by decide +kernel, by decide +kernel⟩, List.mem_of_getElem? (i := 23) (by decide +kernel), List.mem_of_getElem? (i := 675) (by decide +kernel), List.mem_of_getElem? (i := 676) (by decide +kernel)⟩
theorem lw_p9 : lw_okq (⟨"Portsmith", "prepareSolver", "(II)V"⟩, 18) := ⟨⟨by decide +kernel, by decide +kernel⟩, List.mem_of_getElem? (i := 23) (by decide +kernel), List.mem_of_getElem? (i := 789) (by decide +kernel), List.mem_of_getElem? (i := 790) (by decide +kernel)⟩
theorem lw_p10 : lw_okq (⟨"Portsmith$Solver", "meeting", "(LPortsmith$Need;)I"⟩, 18) := ⟨⟨by decide +kernel, by decide +kernel⟩, List.mem_of_getElem? (i := 60) (by decide +kernel), List.mem_of_getElem? (i := 797) (by decide +kernel), List.mem_of_getElem? (i := 798) (by decide +kernel)⟩
theorem lw_p11 : lw_okq (⟨"Portsmith$Solver", "part", "(III)V"⟩, 18) := ⟨⟨by decide +kernel, by decide +kernel⟩, List.mem_of_getElem? (i := 60) (by decide +kernel), List.mem_of_getElem? (i := 813) (by decide +kernel), List.mem_of_getElem? (i := 814) (by decide +kernel)⟩
theorem lw_p12 : lw_okq (⟨"Portsmith", "allWishes", "()I"⟩, 18) := ⟨⟨by decide +kernel, by decide +kernel⟩, List.mem_of_getElem? (i := 23) (by decide +kernel), List.mem_of_getElem? (i := 821) (by decide +kernel), List.mem_of_getElem? (i := 822) (by decide +kernel)⟩
theorem lw_p13 : lw_okq (⟨"Portsmith$Solver", "withinReach", "()I"⟩, 18) := ⟨⟨by decide +kernel, by decide +kernel⟩, List.mem_of_getElem? (i := 60) (by decide +kernel), List.mem_of_getElem? (i := 829) (by decide +kernel), List.mem_of_getElem? (i := 830) (by decide +kernel)⟩
theorem lw_p14 : lw_okq (⟨"Portsmith$Solver", "leadingTo", "(LPortsmith$Version;)I"⟩, 18) := ⟨⟨by decide +kernel, by decide +kernel⟩, List.mem_of_getElem? (i := 60) (by decide +kernel), List.mem_of_getElem? (i := 833) (by decide +kernel), List.mem_of_getElem? (i := 834) (by decide +kernel)⟩
theorem lw_p15 : lw_okq (⟨"Portsmith$Solver", "search", "(III)V"⟩, 18) := ⟨⟨by decide +kernel, by decide +kernel⟩, List.mem_of_getElem? (i := 60) (by decide +kernel), List.mem_of_getElem? (i := 837) (by decide +kernel), List.mem_of_getElem? (i := 838) (by decide +kernel)⟩
def lw_privs_1 : List (MethodName × Nat) := [(⟨"Portsmith$Tape", "takes", "(C)Z"⟩, 4), (⟨"Portsmith$Tape", "readTest", "(Z)LPortsmith$Test;"⟩, 4), (⟨"Portsmith$Tape", "readKind", "()I"⟩, 4), (⟨"Portsmith$Tape", "readDigit", "()I"⟩, 4), (⟨"Portsmith$Installer", "canGo", "(I)Z"⟩, 10), (⟨"Portsmith$Installer", "drop", "(I)V"⟩, 10), (⟨"java/lang/Throwable", "fillInStackTrace", "(I)Ljava/lang/Throwable;"⟩, 6), (⟨"Portsmith", "checkVersion", "(II)V"⟩, 18), (⟨"Portsmith", "tapeAsRange", "()LPortsmith$Range;"⟩, 18), (⟨"Portsmith", "prepareSolver", "(II)V"⟩, 18), (⟨"Portsmith$Solver", "meeting", "(LPortsmith$Need;)I"⟩, 18), (⟨"Portsmith$Solver", "part", "(III)V"⟩, 18), (⟨"Portsmith", "allWishes", "()I"⟩, 18), (⟨"Portsmith$Solver", "withinReach", "()I"⟩, 18), (⟨"Portsmith$Solver", "leadingTo", "(LPortsmith$Version;)I"⟩, 18), (⟨"Portsmith$Solver", "search", "(III)V"⟩, 18)]
theorem lw_r1 : ∀ q ∈ lw_privs_1, lw_okq q := List.forall_mem_cons.mpr ⟨lw_p0, List.forall_mem_cons.mpr ⟨lw_p1, List.forall_mem_cons.mpr ⟨lw_p2, List.forall_mem_cons.mpr ⟨lw_p3, List.forall_mem_cons.mpr ⟨lw_p4, List.forall_mem_cons.mpr ⟨lw_p5, List.forall_mem_cons.mpr ⟨lw_p6, List.forall_mem_cons.mpr ⟨lw_p7, List.forall_mem_cons.mpr ⟨lw_p8, List.forall_mem_cons.mpr ⟨lw_p9, List.forall_mem_cons.mpr ⟨lw_p10, List.forall_mem_cons.mpr ⟨lw_p11, List.forall_mem_cons.mpr ⟨lw_p12, List.forall_mem_cons.mpr ⟨lw_p13, List.forall_mem_cons.mpr ⟨lw_p14, List.forall_mem_cons.mpr ⟨lw_p15, fun _ h => absurd h List.not_mem_nil⟩⟩⟩⟩⟩⟩⟩⟩⟩⟩⟩⟩⟩⟩⟩⟩
theorem lw_p16 : lw_okq (⟨"Portsmith$Solver", "isSettled", "(II)Z"⟩, 18) := ⟨⟨by decide +kernel, by decide +kernel⟩, List.mem_of_getElem? (i := 60) (by decide +kernel), List.mem_of_getElem? (i := 841) (by decide +kernel), List.mem_of_getElem? (i := 842) (by decide +kernel)⟩
theorem lw_p17 : lw_okq (⟨"Portsmith$Solver", "areMet", "(II)Z"⟩, 18) := ⟨⟨by decide +kernel, by decide +kernel⟩, List.mem_of_getElem? (i := 60) (by decide +kernel), List.mem_of_getElem? (i := 845) (by decide +kernel), List.mem_of_getElem? (i := 846) (by decide +kernel)⟩
theorem lw_p18 : lw_okq (⟨"Portsmith$Solver", "isMet", "(LPortsmith$Need;I)Z"⟩, 18) := ⟨⟨by decide +kernel, by decide +kernel⟩, List.mem_of_getElem? (i := 60) (by decide +kernel), List.mem_of_getElem? (i := 849) (by decide +kernel), List.mem_of_getElem? (i := 850) (by decide +kernel)⟩
theorem lw_p19 : lw_okq (⟨"Portsmith$Solver", "isReached", "(I)Z"⟩, 18) := ⟨⟨by decide +kernel, by decide +kernel⟩, List.mem_of_getElem? (i := 60) (by decide +kernel), List.mem_of_getElem? (i := 853) (by decide +kernel), List.mem_of_getElem? (i := 854) (by decide +kernel)⟩
theorem lw_p20 : lw_okq (⟨"Portsmith$Solver", "hasNeedsMet", "(II)Z"⟩, 18) := ⟨⟨by decide +kernel, by decide +kernel⟩, List.mem_of_getElem? (i := 60) (by decide +kernel), List.mem_of_getElem? (i := 857) (by decide +kernel), List.mem_of_getElem? (i := 858) (by decide +kernel)⟩
theorem lw_p21 : lw_okq (⟨"Portsmith$Solver", "record", "(II)V"⟩, 18) := ⟨⟨by decide +kernel, by decide +kernel⟩, List.mem_of_getElem? (i := 60) (by decide +kernel), List.mem_of_getElem? (i := 861) (by decide +kernel), List.mem_of_getElem? (i := 862) (by decide +kernel)⟩
theorem lw_p22 : lw_okq (⟨"Portsmith$Solver", "branch", "(IIII)V"⟩, 18) := ⟨⟨by decide +kernel, by decide +kernel⟩, List.mem_of_getElem? (i := 60) (by decide +kernel), List.mem_of_getElem? (i := 865) (by decide +kernel), List.mem_of_getElem? (i := 866) (by decide +kernel)⟩
theorem lw_p23 : lw_okq (⟨"Portsmith$Solver", "greatest", "(II)I"⟩, 18) := ⟨⟨by decide +kernel, by decide +kernel⟩, List.mem_of_getElem? (i := 60) (by decide +kernel), List.mem_of_getElem? (i := 869) (by decide +kernel), List.mem_of_getElem? (i := 870) (by decide +kernel)⟩
theorem lw_p24 : lw_okq (⟨"Portsmith", "isIncluded", "(LPortsmith$Range;II)Z"⟩, 18) := ⟨⟨by decide +kernel, by decide +kernel⟩, List.mem_of_getElem? (i := 23) (by decide +kernel), List.mem_of_getElem? (i := 959) (by decide +kernel), List.mem_of_getElem? (i := 960) (by decide +kernel)⟩
theorem lw_p25 : lw_okq (⟨"Portsmith$Installer", "aim", "([LPortsmith$Pack;[I)I"⟩, 10) := ⟨⟨by decide +kernel, by decide +kernel⟩, List.mem_of_getElem? (i := 125) (by decide +kernel), List.mem_of_getElem? (i := 1062) (by decide +kernel), List.mem_of_getElem? (i := 1063) (by decide +kernel)⟩
theorem lw_p26 : lw_okq (⟨"Portsmith$Installer", "targetOf", "(II)I"⟩, 10) := ⟨⟨by decide +kernel, by decide +kernel⟩, List.mem_of_getElem? (i := 125) (by decide +kernel), List.mem_of_getElem? (i := 1066) (by decide +kernel), List.mem_of_getElem? (i := 1067) (by decide +kernel)⟩
theorem lw_p27 : lw_okq (⟨"Portsmith$Installer", "leastToGo", "()I"⟩, 10) := ⟨⟨by decide +kernel, by decide +kernel⟩, List.mem_of_getElem? (i := 125) (by decide +kernel), List.mem_of_getElem? (i := 1070) (by decide +kernel), List.mem_of_getElem? (i := 1071) (by decide +kernel)⟩
theorem lw_p28 : lw_okq (⟨"Portsmith$Installer", "countStrays", "()I"⟩, 10) := ⟨⟨by decide +kernel, by decide +kernel⟩, List.mem_of_getElem? (i := 125) (by decide +kernel), List.mem_of_getElem? (i := 1074) (by decide +kernel), List.mem_of_getElem? (i := 1075) (by decide +kernel)⟩
theorem lw_p29 : lw_okq (⟨"Portsmith$Installer", "isStray", "(I)Z"⟩, 10) := ⟨⟨by decide +kernel, by decide +kernel⟩, List.mem_of_getElem? (i := 125) (by decide +kernel), List.mem_of_getElem? (i := 1078) (by decide +kernel), List.mem_of_getElem? (i := 1079) (by decide +kernel)⟩
theorem lw_p30 : lw_okq (⟨"Portsmith$Installer", "clearStrays", "()V"⟩, 10) := ⟨⟨by decide +kernel, by decide +kernel⟩, List.mem_of_getElem? (i := 125) (by decide +kernel), List.mem_of_getElem? (i := 1085) (by decide +kernel), List.mem_of_getElem? (i := 1086) (by decide +kernel)⟩
theorem lw_p31 : lw_okq (⟨"Portsmith$Installer", "layFiles", "(ILPortsmith$Version;)V"⟩, 10) := ⟨⟨by decide +kernel, by decide +kernel⟩, List.mem_of_getElem? (i := 125) (by decide +kernel), List.mem_of_getElem? (i := 1093) (by decide +kernel), List.mem_of_getElem? (i := 1094) (by decide +kernel)⟩
def lw_privs_2 : List (MethodName × Nat) := [(⟨"Portsmith$Solver", "isSettled", "(II)Z"⟩, 18), (⟨"Portsmith$Solver", "areMet", "(II)Z"⟩, 18), (⟨"Portsmith$Solver", "isMet", "(LPortsmith$Need;I)Z"⟩, 18), (⟨"Portsmith$Solver", "isReached", "(I)Z"⟩, 18), (⟨"Portsmith$Solver", "hasNeedsMet", "(II)Z"⟩, 18), (⟨"Portsmith$Solver", "record", "(II)V"⟩, 18), (⟨"Portsmith$Solver", "branch", "(IIII)V"⟩, 18), (⟨"Portsmith$Solver", "greatest", "(II)I"⟩, 18), (⟨"Portsmith", "isIncluded", "(LPortsmith$Range;II)Z"⟩, 18), (⟨"Portsmith$Installer", "aim", "([LPortsmith$Pack;[I)I"⟩, 10), (⟨"Portsmith$Installer", "targetOf", "(II)I"⟩, 10), (⟨"Portsmith$Installer", "leastToGo", "()I"⟩, 10), (⟨"Portsmith$Installer", "countStrays", "()I"⟩, 10), (⟨"Portsmith$Installer", "isStray", "(I)Z"⟩, 10), (⟨"Portsmith$Installer", "clearStrays", "()V"⟩, 10), (⟨"Portsmith$Installer", "layFiles", "(ILPortsmith$Version;)V"⟩, 10)]
theorem lw_r2 : ∀ q ∈ lw_privs_2, lw_okq q := List.forall_mem_cons.mpr ⟨lw_p16, List.forall_mem_cons.mpr ⟨lw_p17, List.forall_mem_cons.mpr ⟨lw_p18, List.forall_mem_cons.mpr ⟨lw_p19, List.forall_mem_cons.mpr ⟨lw_p20, List.forall_mem_cons.mpr ⟨lw_p21, List.forall_mem_cons.mpr ⟨lw_p22, List.forall_mem_cons.mpr ⟨lw_p23, List.forall_mem_cons.mpr ⟨lw_p24, List.forall_mem_cons.mpr ⟨lw_p25, List.forall_mem_cons.mpr ⟨lw_p26, List.forall_mem_cons.mpr ⟨lw_p27, List.forall_mem_cons.mpr ⟨lw_p28, List.forall_mem_cons.mpr ⟨lw_p29, List.forall_mem_cons.mpr ⟨lw_p30, List.forall_mem_cons.mpr ⟨lw_p31, fun _ h => absurd h List.not_mem_nil⟩⟩⟩⟩⟩⟩⟩⟩⟩⟩⟩⟩⟩⟩⟩⟩
theorem lw_p32 : lw_okq (⟨"Portsmith$Installer", "keep", "()V"⟩, 10) := ⟨⟨by decide +kernel, by decide +kernel⟩, List.mem_of_getElem? (i := 125) (by decide +kernel), List.mem_of_getElem? (i := 1097) (by decide +kernel), List.mem_of_getElem? (i := 1098) (by decide +kernel)⟩
theorem lw_p33 : lw_okq (⟨"Portsmith", "keptGeneration", "(I)LPortsmith$Generation;"⟩, 18) := ⟨⟨by decide +kernel, by decide +kernel⟩, List.mem_of_getElem? (i := 23) (by decide +kernel), List.mem_of_getElem? (i := 1135) (by decide +kernel), List.mem_of_getElem? (i := 1136) (by decide +kernel)⟩
theorem lw_p34 : lw_okq (⟨"PortsmithModel", "may", "(I)Z"⟩, 65) := ⟨⟨by decide +kernel, by decide +kernel⟩, List.mem_of_getElem? (i := 1155) (by decide +kernel), List.mem_of_getElem? (i := 1370) (by decide +kernel), List.mem_of_getElem? (i := 1371) (by decide +kernel)⟩
theorem lw_p35 : lw_okq (⟨"PortsmithModel", "faultOf", "(I)I"⟩, 65) := ⟨⟨by decide +kernel, by decide +kernel⟩, List.mem_of_getElem? (i := 1155) (by decide +kernel), List.mem_of_getElem? (i := 1382) (by decide +kernel), List.mem_of_getElem? (i := 1383) (by decide +kernel)⟩
theorem lw_p36 : lw_okq (⟨"PortsmithModel", "takes", "(I)Z"⟩, 65) := ⟨⟨by decide +kernel, by decide +kernel⟩, List.mem_of_getElem? (i := 1155) (by decide +kernel), List.mem_of_getElem? (i := 1386) (by decide +kernel), List.mem_of_getElem? (i := 1387) (by decide +kernel)⟩
theorem lw_p37 : lw_okq (⟨"PortsmithModel", "next", "()I"⟩, 65) := ⟨⟨by decide +kernel, by decide +kernel⟩, List.mem_of_getElem? (i := 1155) (by decide +kernel), List.mem_of_getElem? (i := 1390) (by decide +kernel), List.mem_of_getElem? (i := 1391) (by decide +kernel)⟩
theorem lw_p38 : lw_okq (⟨"PortsmithModel", "readsTest", "()Z"⟩, 65) := ⟨⟨by decide +kernel, by decide +kernel⟩, List.mem_of_getElem? (i := 1155) (by decide +kernel), List.mem_of_getElem? (i := 1394) (by decide +kernel), List.mem_of_getElem? (i := 1395) (by decide +kernel)⟩
theorem lw_p39 : lw_okq (⟨"PortsmithModel", "readsVersion", "()Z"⟩, 65) := ⟨⟨by decide +kernel, by decide +kernel⟩, List.mem_of_getElem? (i := 1155) (by decide +kernel), List.mem_of_getElem? (i := 1398) (by decide +kernel), List.mem_of_getElem? (i := 1399) (by decide +kernel)⟩
theorem lw_p40 : lw_okq (⟨"PortsmithModel", "readsDigit", "(I)Z"⟩, 65) := ⟨⟨by decide +kernel, by decide +kernel⟩, List.mem_of_getElem? (i := 1155) (by decide +kernel), List.mem_of_getElem? (i := 1402) (by decide +kernel), List.mem_of_getElem? (i := 1403) (by decide +kernel)⟩
theorem lw_p41 : lw_okq (⟨"PortsmithModel", "isDigit", "()Z"⟩, 65) := ⟨⟨by decide +kernel, by decide +kernel⟩, List.mem_of_getElem? (i := 1155) (by decide +kernel), List.mem_of_getElem? (i := 1406) (by decide +kernel), List.mem_of_getElem? (i := 1407) (by decide +kernel)⟩
theorem lw_p42 : lw_okq (⟨"PortsmithModel", "isVersion", "(II)Z"⟩, 65) := ⟨⟨by decide +kernel, by decide +kernel⟩, List.mem_of_getElem? (i := 1155) (by decide +kernel), List.mem_of_getElem? (i := 1426) (by decide +kernel), List.mem_of_getElem? (i := 1427) (by decide +kernel)⟩
theorem lw_p43 : lw_okq (⟨"PortsmithModel", "isTyped", "()Z"⟩, 65) := ⟨⟨by decide +kernel, by decide +kernel⟩, List.mem_of_getElem? (i := 1155) (by decide +kernel), List.mem_of_getElem? (i := 1430) (by decide +kernel), List.mem_of_getElem? (i := 1431) (by decide +kernel)⟩
theorem lw_p44 : lw_okq (⟨"PortsmithModel", "keeps", "(I)V"⟩, 65) := ⟨⟨by decide +kernel, by decide +kernel⟩, List.mem_of_getElem? (i := 1155) (by decide +kernel), List.mem_of_getElem? (i := 1434) (by decide +kernel), List.mem_of_getElem? (i := 1435) (by decide +kernel)⟩
theorem lw_p45 : lw_okq (⟨"PortsmithModel", "compares", "(III)I"⟩, 65) := ⟨⟨by decide +kernel, by decide +kernel⟩, List.mem_of_getElem? (i := 1155) (by decide +kernel), List.mem_of_getElem? (i := 1454) (by decide +kernel), List.mem_of_getElem? (i := 1455) (by decide +kernel)⟩
theorem lw_p46 : lw_okq (⟨"PortsmithModel", "versionsOf", "(II)I"⟩, 65) := ⟨⟨by decide +kernel, by decide +kernel⟩, List.mem_of_getElem? (i := 1155) (by decide +kernel), List.mem_of_getElem? (i := 1468) (by decide +kernel), List.mem_of_getElem? (i := 1469) (by decide +kernel)⟩
theorem lw_p47 : lw_okq (⟨"PortsmithModel", "isRangeOf", "(III)Z"⟩, 65) := ⟨⟨by decide +kernel, by decide +kernel⟩, List.mem_of_getElem? (i := 1155) (by decide +kernel), List.mem_of_getElem? (i := 1472) (by decide +kernel), List.mem_of_getElem? (i := 1473) (by decide +kernel)⟩
def lw_privs_3 : List (MethodName × Nat) := [(⟨"Portsmith$Installer", "keep", "()V"⟩, 10), (⟨"Portsmith", "keptGeneration", "(I)LPortsmith$Generation;"⟩, 18), (⟨"PortsmithModel", "may", "(I)Z"⟩, 65), (⟨"PortsmithModel", "faultOf", "(I)I"⟩, 65), (⟨"PortsmithModel", "takes", "(I)Z"⟩, 65), (⟨"PortsmithModel", "next", "()I"⟩, 65), (⟨"PortsmithModel", "readsTest", "()Z"⟩, 65), (⟨"PortsmithModel", "readsVersion", "()Z"⟩, 65), (⟨"PortsmithModel", "readsDigit", "(I)Z"⟩, 65), (⟨"PortsmithModel", "isDigit", "()Z"⟩, 65), (⟨"PortsmithModel", "isVersion", "(II)Z"⟩, 65), (⟨"PortsmithModel", "isTyped", "()Z"⟩, 65), (⟨"PortsmithModel", "keeps", "(I)V"⟩, 65), (⟨"PortsmithModel", "compares", "(III)I"⟩, 65), (⟨"PortsmithModel", "versionsOf", "(II)I"⟩, 65), (⟨"PortsmithModel", "isRangeOf", "(III)Z"⟩, 65)]
theorem lw_r3 : ∀ q ∈ lw_privs_3, lw_okq q := List.forall_mem_cons.mpr ⟨lw_p32, List.forall_mem_cons.mpr ⟨lw_p33, List.forall_mem_cons.mpr ⟨lw_p34, List.forall_mem_cons.mpr ⟨lw_p35, List.forall_mem_cons.mpr ⟨lw_p36, List.forall_mem_cons.mpr ⟨lw_p37, List.forall_mem_cons.mpr ⟨lw_p38, List.forall_mem_cons.mpr ⟨lw_p39, List.forall_mem_cons.mpr ⟨lw_p40, List.forall_mem_cons.mpr ⟨lw_p41, List.forall_mem_cons.mpr ⟨lw_p42, List.forall_mem_cons.mpr ⟨lw_p43, List.forall_mem_cons.mpr ⟨lw_p44, List.forall_mem_cons.mpr ⟨lw_p45, List.forall_mem_cons.mpr ⟨lw_p46, List.forall_mem_cons.mpr ⟨lw_p47, fun _ h => absurd h List.not_mem_nil⟩⟩⟩⟩⟩⟩⟩⟩⟩⟩⟩⟩⟩⟩⟩⟩
theorem lw_p48 : lw_okq (⟨"PortsmithModel", "isTestOf", "(II)Z"⟩, 65) := ⟨⟨by decide +kernel, by decide +kernel⟩, List.mem_of_getElem? (i := 1155) (by decide +kernel), List.mem_of_getElem? (i := 1476) (by decide +kernel), List.mem_of_getElem? (i := 1477) (by decide +kernel)⟩
theorem lw_p49 : lw_okq (⟨"PortsmithModel", "isOfPreview", "(I)Z"⟩, 65) := ⟨⟨by decide +kernel, by decide +kernel⟩, List.mem_of_getElem? (i := 1155) (by decide +kernel), List.mem_of_getElem? (i := 1480) (by decide +kernel), List.mem_of_getElem? (i := 1481) (by decide +kernel)⟩
theorem lw_p50 : lw_okq (⟨"PortsmithModel", "solves", "(II)I"⟩, 65) := ⟨⟨by decide +kernel, by decide +kernel⟩, List.mem_of_getElem? (i := 1155) (by decide +kernel), List.mem_of_getElem? (i := 1503) (by decide +kernel), List.mem_of_getElem? (i := 1504) (by decide +kernel)⟩
theorem lw_p51 : lw_okq (⟨"PortsmithModel", "laysRanges", "()V"⟩, 65) := ⟨⟨by decide +kernel, by decide +kernel⟩, List.mem_of_getElem? (i := 1155) (by decide +kernel), List.mem_of_getElem? (i := 1507) (by decide +kernel), List.mem_of_getElem? (i := 1508) (by decide +kernel)⟩
theorem lw_p52 : lw_okq (⟨"PortsmithModel", "laysRange", "(II)V"⟩, 65) := ⟨⟨by decide +kernel, by decide +kernel⟩, List.mem_of_getElem? (i := 1155) (by decide +kernel), List.mem_of_getElem? (i := 1511) (by decide +kernel), List.mem_of_getElem? (i := 1512) (by decide +kernel)⟩
theorem lw_p53 : lw_okq (⟨"PortsmithModel", "chooses", "(I)Z"⟩, 65) := ⟨⟨by decide +kernel, by decide +kernel⟩, List.mem_of_getElem? (i := 1155) (by decide +kernel), List.mem_of_getElem? (i := 1515) (by decide +kernel), List.mem_of_getElem? (i := 1516) (by decide +kernel)⟩
theorem lw_p54 : lw_okq (⟨"PortsmithModel", "changes", "(II)I"⟩, 65) := ⟨⟨by decide +kernel, by decide +kernel⟩, List.mem_of_getElem? (i := 1155) (by decide +kernel), List.mem_of_getElem? (i := 1519) (by decide +kernel), List.mem_of_getElem? (i := 1520) (by decide +kernel)⟩
theorem lw_p55 : lw_okq (⟨"PortsmithModel", "chosenMany", "()I"⟩, 65) := ⟨⟨by decide +kernel, by decide +kernel⟩, List.mem_of_getElem? (i := 1155) (by decide +kernel), List.mem_of_getElem? (i := 1523) (by decide +kernel), List.mem_of_getElem? (i := 1524) (by decide +kernel)⟩
theorem lw_p56 : lw_okq (⟨"PortsmithModel", "isClosure", "(III)Z"⟩, 65) := ⟨⟨by decide +kernel, by decide +kernel⟩, List.mem_of_getElem? (i := 1155) (by decide +kernel), List.mem_of_getElem? (i := 1527) (by decide +kernel), List.mem_of_getElem? (i := 1528) (by decide +kernel)⟩
theorem lw_p57 : lw_okq (⟨"PortsmithModel", "hasConflict", "(I)Z"⟩, 65) := ⟨⟨by decide +kernel, by decide +kernel⟩, List.mem_of_getElem? (i := 1155) (by decide +kernel), List.mem_of_getElem? (i := 1534) (by decide +kernel), List.mem_of_getElem? (i := 1535) (by decide +kernel)⟩
theorem lw_p58 : lw_okq (⟨"PortsmithModel", "reaches", "(II)I"⟩, 65) := ⟨⟨by decide +kernel, by decide +kernel⟩, List.mem_of_getElem? (i := 1155) (by decide +kernel), List.mem_of_getElem? (i := 1539) (by decide +kernel), List.mem_of_getElem? (i := 1540) (by decide +kernel)⟩
theorem lw_p59 : lw_okq (⟨"PortsmithModel", "meeters", "(III)I"⟩, 65) := ⟨⟨by decide +kernel, by decide +kernel⟩, List.mem_of_getElem? (i := 1155) (by decide +kernel), List.mem_of_getElem? (i := 1543) (by decide +kernel), List.mem_of_getElem? (i := 1544) (by decide +kernel)⟩
theorem lw_p60 : lw_okq (⟨"PortsmithModel", "asks", "(II)V"⟩, 65) := ⟨⟨by decide +kernel, by decide +kernel⟩, List.mem_of_getElem? (i := 1155) (by decide +kernel), List.mem_of_getElem? (i := 1547) (by decide +kernel), List.mem_of_getElem? (i := 1548) (by decide +kernel)⟩
theorem lw_p61 : lw_okq (⟨"PortsmithModel", "state", "(I)I"⟩, 65) := ⟨⟨by decide +kernel, by decide +kernel⟩, List.mem_of_getElem? (i := 1155) (by decide +kernel), List.mem_of_getElem? (i := 1551) (by decide +kernel), List.mem_of_getElem? (i := 1552) (by decide +kernel)⟩
theorem lw_p62 : lw_okq (⟨"PortsmithModel", "isActive", "(III)Z"⟩, 65) := ⟨⟨by decide +kernel, by decide +kernel⟩, List.mem_of_getElem? (i := 1155) (by decide +kernel), List.mem_of_getElem? (i := 1555) (by decide +kernel), List.mem_of_getElem? (i := 1556) (by decide +kernel)⟩
theorem lw_p63 : lw_okq (⟨"PortsmithModel", "hasClosure", "(II)Z"⟩, 65) := ⟨⟨by decide +kernel, by decide +kernel⟩, List.mem_of_getElem? (i := 1155) (by decide +kernel), List.mem_of_getElem? (i := 1574) (by decide +kernel), List.mem_of_getElem? (i := 1575) (by decide +kernel)⟩
def lw_privs_4 : List (MethodName × Nat) := [(⟨"PortsmithModel", "isTestOf", "(II)Z"⟩, 65), (⟨"PortsmithModel", "isOfPreview", "(I)Z"⟩, 65), (⟨"PortsmithModel", "solves", "(II)I"⟩, 65), (⟨"PortsmithModel", "laysRanges", "()V"⟩, 65), (⟨"PortsmithModel", "laysRange", "(II)V"⟩, 65), (⟨"PortsmithModel", "chooses", "(I)Z"⟩, 65), (⟨"PortsmithModel", "changes", "(II)I"⟩, 65), (⟨"PortsmithModel", "chosenMany", "()I"⟩, 65), (⟨"PortsmithModel", "isClosure", "(III)Z"⟩, 65), (⟨"PortsmithModel", "hasConflict", "(I)Z"⟩, 65), (⟨"PortsmithModel", "reaches", "(II)I"⟩, 65), (⟨"PortsmithModel", "meeters", "(III)I"⟩, 65), (⟨"PortsmithModel", "asks", "(II)V"⟩, 65), (⟨"PortsmithModel", "state", "(I)I"⟩, 65), (⟨"PortsmithModel", "isActive", "(III)Z"⟩, 65), (⟨"PortsmithModel", "hasClosure", "(II)Z"⟩, 65)]
theorem lw_r4 : ∀ q ∈ lw_privs_4, lw_okq q := List.forall_mem_cons.mpr ⟨lw_p48, List.forall_mem_cons.mpr ⟨lw_p49, List.forall_mem_cons.mpr ⟨lw_p50, List.forall_mem_cons.mpr ⟨lw_p51, List.forall_mem_cons.mpr ⟨lw_p52, List.forall_mem_cons.mpr ⟨lw_p53, List.forall_mem_cons.mpr ⟨lw_p54, List.forall_mem_cons.mpr ⟨lw_p55, List.forall_mem_cons.mpr ⟨lw_p56, List.forall_mem_cons.mpr ⟨lw_p57, List.forall_mem_cons.mpr ⟨lw_p58, List.forall_mem_cons.mpr ⟨lw_p59, List.forall_mem_cons.mpr ⟨lw_p60, List.forall_mem_cons.mpr ⟨lw_p61, List.forall_mem_cons.mpr ⟨lw_p62, List.forall_mem_cons.mpr ⟨lw_p63, fun _ h => absurd h List.not_mem_nil⟩⟩⟩⟩⟩⟩⟩⟩⟩⟩⟩⟩⟩⟩⟩⟩
theorem lw_p64 : lw_okq (⟨"PortsmithModel", "isLockClosure", "(I)Z"⟩, 65) := ⟨⟨by decide +kernel, by decide +kernel⟩, List.mem_of_getElem? (i := 1155) (by decide +kernel), List.mem_of_getElem? (i := 1590) (by decide +kernel), List.mem_of_getElem? (i := 1591) (by decide +kernel)⟩
theorem lw_p65 : lw_okq (⟨"PortsmithModel", "gives", "(II)I"⟩, 65) := ⟨⟨by decide +kernel, by decide +kernel⟩, List.mem_of_getElem? (i := 1155) (by decide +kernel), List.mem_of_getElem? (i := 1623) (by decide +kernel), List.mem_of_getElem? (i := 1624) (by decide +kernel)⟩
theorem lw_p66 : lw_okq (⟨"PortsmithModel", "hasFile", "(II)Z"⟩, 65) := ⟨⟨by decide +kernel, by decide +kernel⟩, List.mem_of_getElem? (i := 1155) (by decide +kernel), List.mem_of_getElem? (i := 1643) (by decide +kernel), List.mem_of_getElem? (i := 1644) (by decide +kernel)⟩
theorem lw_p67 : lw_okq (⟨"PortsmithModel", "laysFiles", "(I)I"⟩, 65) := ⟨⟨by decide +kernel, by decide +kernel⟩, List.mem_of_getElem? (i := 1155) (by decide +kernel), List.mem_of_getElem? (i := 1655) (by decide +kernel), List.mem_of_getElem? (i := 1656) (by decide +kernel)⟩
theorem lw_p68 : lw_okq (⟨"PortsmithModel", "placeOf", "(II)I"⟩, 65) := ⟨⟨by decide +kernel, by decide +kernel⟩, List.mem_of_getElem? (i := 1155) (by decide +kernel), List.mem_of_getElem? (i := 1659) (by decide +kernel), List.mem_of_getElem? (i := 1660) (by decide +kernel)⟩
theorem lw_p69 : lw_okq (⟨"PortsmithModel", "goner", "()I"⟩, 65) := ⟨⟨by decide +kernel, by decide +kernel⟩, List.mem_of_getElem? (i := 1155) (by decide +kernel), List.mem_of_getElem? (i := 1663) (by decide +kernel), List.mem_of_getElem? (i := 1664) (by decide +kernel)⟩
theorem lw_p70 : lw_okq (⟨"PortsmithModel", "installs", "(I)V"⟩, 65) := ⟨⟨by decide +kernel, by decide +kernel⟩, List.mem_of_getElem? (i := 1155) (by decide +kernel), List.mem_of_getElem? (i := 1667) (by decide +kernel), List.mem_of_getElem? (i := 1668) (by decide +kernel)⟩
theorem lw_p71 : lw_okq (⟨"PortsmithModel", "fileComes", "(II)V"⟩, 65) := ⟨⟨by decide +kernel, by decide +kernel⟩, List.mem_of_getElem? (i := 1155) (by decide +kernel), List.mem_of_getElem? (i := 1671) (by decide +kernel), List.mem_of_getElem? (i := 1672) (by decide +kernel)⟩
theorem lw_p72 : lw_okq (⟨"PortsmithModel", "drops", "(I)V"⟩, 65) := ⟨⟨by decide +kernel, by decide +kernel⟩, List.mem_of_getElem? (i := 1155) (by decide +kernel), List.mem_of_getElem? (i := 1675) (by decide +kernel), List.mem_of_getElem? (i := 1676) (by decide +kernel)⟩
theorem lw_p73 : lw_okq (⟨"PortsmithModel", "placeKept", "(I)I"⟩, 65) := ⟨⟨by decide +kernel, by decide +kernel⟩, List.mem_of_getElem? (i := 1155) (by decide +kernel), List.mem_of_getElem? (i := 1703) (by decide +kernel), List.mem_of_getElem? (i := 1704) (by decide +kernel)⟩
def lw_privs_5 : List (MethodName × Nat) := [(⟨"PortsmithModel", "isLockClosure", "(I)Z"⟩, 65), (⟨"PortsmithModel", "gives", "(II)I"⟩, 65), (⟨"PortsmithModel", "hasFile", "(II)Z"⟩, 65), (⟨"PortsmithModel", "laysFiles", "(I)I"⟩, 65), (⟨"PortsmithModel", "placeOf", "(II)I"⟩, 65), (⟨"PortsmithModel", "goner", "()I"⟩, 65), (⟨"PortsmithModel", "installs", "(I)V"⟩, 65), (⟨"PortsmithModel", "fileComes", "(II)V"⟩, 65), (⟨"PortsmithModel", "drops", "(I)V"⟩, 65), (⟨"PortsmithModel", "placeKept", "(I)I"⟩, 65)]
theorem lw_r5 : ∀ q ∈ lw_privs_5, lw_okq q := List.forall_mem_cons.mpr ⟨lw_p64, List.forall_mem_cons.mpr ⟨lw_p65, List.forall_mem_cons.mpr ⟨lw_p66, List.forall_mem_cons.mpr ⟨lw_p67, List.forall_mem_cons.mpr ⟨lw_p68, List.forall_mem_cons.mpr ⟨lw_p69, List.forall_mem_cons.mpr ⟨lw_p70, List.forall_mem_cons.mpr ⟨lw_p71, List.forall_mem_cons.mpr ⟨lw_p72, List.forall_mem_cons.mpr ⟨lw_p73, fun _ h => absurd h List.not_mem_nil⟩⟩⟩⟩⟩⟩⟩⟩⟩⟩
def lw_privs : List (MethodName × Nat) := lw_privs_1 ++ (lw_privs_2 ++ (lw_privs_3 ++ (lw_privs_4 ++ (lw_privs_5))))
def lw_tbl : List Cond := k2_sels lw_privs ++ tables_1
theorem lw_privs_ok : ∀ q ∈ lw_privs, lw_okq q := by
  show ∀ q ∈ lw_privs_1 ++ (lw_privs_2 ++ (lw_privs_3 ++ (lw_privs_4 ++ (lw_privs_5)))), lw_okq q
  exact List.forall_mem_append.mpr ⟨lw_r1, List.forall_mem_append.mpr ⟨lw_r2, List.forall_mem_append.mpr ⟨lw_r3, List.forall_mem_append.mpr ⟨lw_r4, lw_r5⟩⟩⟩⟩

def RX0 : String := "Portsmith$Advisory"
def TX0 : u_T := fun k => match k with
  | 0 => ("Portsmith$Advisory", "pack", "I", true)
  | 1 => ("Portsmith$Advisory", "range", "LPortsmith$Range;", true)
  | _ => ("Portsmith$Advisory", "severity", "I", true)
def tyX0 : Nat → FieldType := fun k => match k with
  | 0 => .int
  | 1 => .object "Portsmith$Range"
  | _ => .int
abbrev wsX00 : List Cond := u_ws RX0 TX0 3
theorem nmX0 : ∀ a, a < 3 → ∀ b, b < 3 → a ≠ b → (TX0 a).2.1 ≠ (TX0 b).2.1 := by decide +kernel
theorem tyX0_ok : ∀ k, k < 3 → parseFieldDescriptor (TX0 k).2.2.1 = some (tyX0 k) := by decide +kernel
abbrev cX0_init : ByteArray := prog_2_method_1_code
def yX0_init : MethodName := ⟨RX0, "<init>", "(ILPortsmith$Range;I)V"⟩
def RX1 : String := "Portsmith$Generation"
def TX1 : u_T := fun k => match k with
  | 0 => ("Portsmith$Generation", "number", "I", false)
  | 1 => ("Portsmith$Generation", "isRunning", "Z", false)
  | _ => ("Portsmith$Generation", "kept", "LPortsmith$Machine;", true)
def tyX1 : Nat → FieldType := fun k => match k with
  | 0 => .int
  | 1 => .boolean
  | _ => .object "Portsmith$Machine"
abbrev wsX10 : List Cond := u_ws RX1 TX1 3
theorem nmX1 : ∀ a, a < 3 → ∀ b, b < 3 → a ≠ b → (TX1 a).2.1 ≠ (TX1 b).2.1 := by decide +kernel
theorem tyX1_ok : ∀ k, k < 3 → parseFieldDescriptor (TX1 k).2.2.1 = some (tyX1 k) := by decide +kernel
abbrev cX1_init : ByteArray := prog_3_method_1_code
def yX1_init : MethodName := ⟨RX1, "<init>", "()V"⟩
def RX2 : String := "Portsmith$Installer"
def TX2 : u_T := fun k => match k with
  | 0 => ("Portsmith$Installer", "machine", "LPortsmith$Machine;", true)
  | 1 => ("Portsmith$Installer", "rows", "[LPortsmith$Generation;", true)
  | 2 => ("Portsmith$Installer", "keptCount", "I", false)
  | 3 => ("Portsmith$Installer", "current", "I", false)
  | 4 => ("Portsmith$Installer", "nextNumber", "I", false)
  | 5 => ("Portsmith$Installer", "stepsTaken", "I", false)
  | 6 => ("Portsmith$Installer", "asideCount", "I", false)
  | 7 => ("Portsmith$Installer", "divertedFor", "[I", true)
  | 8 => ("Portsmith$Installer", "divertedTo", "[I", true)
  | _ => ("Portsmith$Installer", "isTarget", "[Z", true)
def tyX2 : Nat → FieldType := fun k => match k with
  | 0 => .object "Portsmith$Machine"
  | 1 => .array (.object "Portsmith$Generation")
  | 2 => .int
  | 3 => .int
  | 4 => .int
  | 5 => .int
  | 6 => .int
  | 7 => .array .int
  | 8 => .array .int
  | _ => .array .boolean
abbrev wsX20 : List Cond := u_ws RX2 TX2 10
theorem nmX2 : ∀ a, a < 10 → ∀ b, b < 10 → a ≠ b → (TX2 a).2.1 ≠ (TX2 b).2.1 := by decide +kernel
theorem tyX2_ok : ∀ k, k < 10 → parseFieldDescriptor (TX2 k).2.2.1 = some (tyX2 k) := by decide +kernel
abbrev cX2_init : ByteArray := prog_4_method_1_code
def yX2_init : MethodName := ⟨RX2, "<init>", "()V"⟩
abbrev cX2_setDiversion : ByteArray := prog_4_method_2_code
def yX2_setDiversion : MethodName := ⟨RX2, "setDiversion", "(III)I"⟩
abbrev cX2_targetOf : ByteArray := prog_4_method_3_code
def yX2_targetOf : MethodName := ⟨RX2, "targetOf", "(II)I"⟩
abbrev cX2_bring : ByteArray := prog_4_method_4_code
def yX2_bring : MethodName := ⟨RX2, "bring", "([LPortsmith$Pack;[II)I"⟩
abbrev cX2_aim : ByteArray := prog_4_method_5_code
def yX2_aim : MethodName := ⟨RX2, "aim", "([LPortsmith$Pack;[I)I"⟩
abbrev cX2_isStray : ByteArray := prog_4_method_6_code
def yX2_isStray : MethodName := ⟨RX2, "isStray", "(I)Z"⟩
abbrev cX2_countStrays : ByteArray := prog_4_method_7_code
def yX2_countStrays : MethodName := ⟨RX2, "countStrays", "()I"⟩
abbrev cX2_clearStrays : ByteArray := prog_4_method_8_code
def yX2_clearStrays : MethodName := ⟨RX2, "clearStrays", "()V"⟩
abbrev cX2_layFiles : ByteArray := prog_4_method_9_code
def yX2_layFiles : MethodName := ⟨RX2, "layFiles", "(ILPortsmith$Version;)V"⟩
abbrev cX2_keep : ByteArray := prog_4_method_10_code
def yX2_keep : MethodName := ⟨RX2, "keep", "()V"⟩
abbrev cX2_canGo : ByteArray := prog_4_method_11_code
def yX2_canGo : MethodName := ⟨RX2, "canGo", "(I)Z"⟩
abbrev cX2_leastToGo : ByteArray := prog_4_method_12_code
def yX2_leastToGo : MethodName := ⟨RX2, "leastToGo", "()I"⟩
abbrev cX2_drop : ByteArray := prog_4_method_13_code
def yX2_drop : MethodName := ⟨RX2, "drop", "(I)V"⟩
abbrev cX2_keptAs : ByteArray := prog_4_method_14_code
def yX2_keptAs : MethodName := ⟨RX2, "keptAs", "(I)LPortsmith$Generation;"⟩
abbrev cX2_returnTo : ByteArray := prog_4_method_15_code
def yX2_returnTo : MethodName := ⟨RX2, "returnTo", "(LPortsmith$Generation;)I"⟩
abbrev cX2_sweep : ByteArray := prog_4_method_16_code
def yX2_sweep : MethodName := ⟨RX2, "sweep", "()I"⟩
def RX3 : String := "Portsmith$Machine"
def TX3 : u_T := fun k => match k with
  | 0 => ("Portsmith$Machine", "versions", "[I", true)
  | 1 => ("Portsmith$Machine", "contents", "[I", true)
  | 2 => ("Portsmith$Machine", "owners", "[I", true)
  | _ => ("Portsmith$Machine", "packed", "[I", true)
def tyX3 : Nat → FieldType := fun k => match k with
  | 0 => .array .int
  | 1 => .array .int
  | 2 => .array .int
  | _ => .array .int
abbrev wsX30 : List Cond := u_ws RX3 TX3 4
theorem nmX3 : ∀ a, a < 4 → ∀ b, b < 4 → a ≠ b → (TX3 a).2.1 ≠ (TX3 b).2.1 := by decide +kernel
theorem tyX3_ok : ∀ k, k < 4 → parseFieldDescriptor (TX3 k).2.2.1 = some (tyX3 k) := by decide +kernel
abbrev cX3_init : ByteArray := prog_5_method_1_code
def yX3_init : MethodName := ⟨RX3, "<init>", "()V"⟩
abbrev cX3_becomeLike : ByteArray := prog_5_method_2_code
def yX3_becomeLike : MethodName := ⟨RX3, "becomeLike", "(LPortsmith$Machine;)I"⟩
abbrev cX3_put : ByteArray := prog_5_method_3_code
def yX3_put : MethodName := ⟨RX3, "put", "(IIII)V"⟩
def RX4 : String := "Portsmith$Need"
def TX4 : u_T := fun k => match k with
  | 0 => ("Portsmith$Need", "pack", "I", true)
  | 1 => ("Portsmith$Need", "range", "LPortsmith$Range;", true)
  | 2 => ("Portsmith$Need", "features", "I", true)
  | 3 => ("Portsmith$Need", "platforms", "I", true)
  | 4 => ("Portsmith$Need", "own", "I", true)
  | _ => ("Portsmith$Need", "metBy", "I", false)
def tyX4 : Nat → FieldType := fun k => match k with
  | 0 => .int
  | 1 => .object "Portsmith$Range"
  | 2 => .int
  | 3 => .int
  | 4 => .int
  | _ => .int
abbrev wsX40 : List Cond := u_ws RX4 TX4 6
theorem nmX4 : ∀ a, a < 6 → ∀ b, b < 6 → a ≠ b → (TX4 a).2.1 ≠ (TX4 b).2.1 := by decide +kernel
theorem tyX4_ok : ∀ k, k < 6 → parseFieldDescriptor (TX4 k).2.2.1 = some (tyX4 k) := by decide +kernel
abbrev cX4_init : ByteArray := prog_6_method_1_code
def yX4_init : MethodName := ⟨RX4, "<init>", "(ILPortsmith$Range;III)V"⟩
def RX5 : String := "Portsmith$Pack"
def TX5 : u_T := fun k => match k with
  | 0 => ("Portsmith$Pack", "scheme", "I", false)
  | 1 => ("Portsmith$Pack", "versions", "[LPortsmith$Version;", true)
  | _ => ("Portsmith$Pack", "count", "I", false)
def tyX5 : Nat → FieldType := fun k => match k with
  | 0 => .int
  | 1 => .array (.object "Portsmith$Version")
  | _ => .int
abbrev wsX50 : List Cond := u_ws RX5 TX5 3
theorem nmX5 : ∀ a, a < 3 → ∀ b, b < 3 → a ≠ b → (TX5 a).2.1 ≠ (TX5 b).2.1 := by decide +kernel
theorem tyX5_ok : ∀ k, k < 3 → parseFieldDescriptor (TX5 k).2.2.1 = some (tyX5 k) := by decide +kernel
abbrev cX5_init : ByteArray := prog_7_method_1_code
def yX5_init : MethodName := ⟨RX5, "<init>", "()V"⟩
abbrev cX5_order : ByteArray := prog_7_method_2_code
def yX5_order : MethodName := ⟨RX5, "order", "(II)I"⟩
def RX6 : String := "Portsmith$Range"
def TX6 : u_T := fun k => match k with
  | 0 => ("Portsmith$Range", "tests", "[LPortsmith$Test;", true)
  | _ => ("Portsmith$Range", "count", "I", false)
def tyX6 : Nat → FieldType := fun k => match k with
  | 0 => .array (.object "Portsmith$Test")
  | _ => .int
abbrev wsX60 : List Cond := u_ws RX6 TX6 2
theorem nmX6 : ∀ a, a < 2 → ∀ b, b < 2 → a ≠ b → (TX6 a).2.1 ≠ (TX6 b).2.1 := by decide +kernel
theorem tyX6_ok : ∀ k, k < 2 → parseFieldDescriptor (TX6 k).2.2.1 = some (tyX6 k) := by decide +kernel
abbrev cX6_init : ByteArray := prog_8_method_1_code
def yX6_init : MethodName := ⟨RX6, "<init>", "()V"⟩
abbrev cX6_add : ByteArray := prog_8_method_2_code
def yX6_add : MethodName := ⟨RX6, "add", "(LPortsmith$Test;)V"⟩
abbrev cX6_includes : ByteArray := prog_8_method_3_code
def yX6_includes : MethodName := ⟨RX6, "includes", "(II)Z"⟩
def RX7 : String := "Portsmith$Solver"
def TX7 : u_T := fun k => match k with
  | 0 => ("Portsmith$Solver", "packs", "[LPortsmith$Pack;", false)
  | 1 => ("Portsmith$Solver", "wishes", "[LPortsmith$Need;", false)
  | 2 => ("Portsmith$Solver", "wishCount", "I", false)
  | 3 => ("Portsmith$Solver", "platformBit", "I", false)
  | 4 => ("Portsmith$Solver", "enemies", "[I", true)
  | 5 => ("Portsmith$Solver", "counting", "[I", true)
  | 6 => ("Portsmith$Solver", "permitted", "I", false)
  | 7 => ("Portsmith$Solver", "asked", "I", false)
  | 8 => ("Portsmith$Solver", "goal", "I", false)
  | 9 => ("Portsmith$Solver", "open", "[I", true)
  | 10 => ("Portsmith$Solver", "chosen", "[I", true)
  | 11 => ("Portsmith$Solver", "choice", "I", false)
  | 12 => ("Portsmith$Solver", "reached", "I", false)
  | 13 => ("Portsmith$Solver", "featuresOn", "I", false)
  | 14 => ("Portsmith$Solver", "found", "I", false)
  | 15 => ("Portsmith$Solver", "best", "[I", true)
  | 16 => ("Portsmith$Solver", "bestChanges", "I", false)
  | _ => ("Portsmith$Solver", "bestSize", "I", false)
def tyX7 : Nat → FieldType := fun k => match k with
  | 0 => .array (.object "Portsmith$Pack")
  | 1 => .array (.object "Portsmith$Need")
  | 2 => .int
  | 3 => .int
  | 4 => .array .int
  | 5 => .array .int
  | 6 => .int
  | 7 => .int
  | 8 => .int
  | 9 => .array .int
  | 10 => .array .int
  | 11 => .int
  | 12 => .int
  | 13 => .int
  | 14 => .int
  | 15 => .array .int
  | 16 => .int
  | _ => .int
abbrev wsX70 : List Cond := u_ws RX7 TX7 18
theorem nmX7 : ∀ a, a < 18 → ∀ b, b < 18 → a ≠ b → (TX7 a).2.1 ≠ (TX7 b).2.1 := by decide +kernel
theorem tyX7_ok : ∀ k, k < 18 → parseFieldDescriptor (TX7 k).2.2.1 = some (tyX7 k) := by decide +kernel
abbrev cX7_init : ByteArray := prog_9_method_1_code
def yX7_init : MethodName := ⟨RX7, "<init>", "()V"⟩
abbrev cX7_bitOf : ByteArray := prog_9_method_2_code
def yX7_bitOf : MethodName := ⟨RX7, "bitOf", "(II)I"⟩
abbrev cX7_bitsOf : ByteArray := prog_9_method_3_code
def yX7_bitsOf : MethodName := ⟨RX7, "bitsOf", "(I)I"⟩
abbrev cX7_study : ByteArray := prog_9_method_4_code
def yX7_study : MethodName := ⟨RX7, "study", "([LPortsmith$Pack;[LPortsmith$Need;II)V"⟩
abbrev cX7_part : ByteArray := prog_9_method_5_code
def yX7_part : MethodName := ⟨RX7, "part", "(III)V"⟩
abbrev cX7_meeting : ByteArray := prog_9_method_6_code
def yX7_meeting : MethodName := ⟨RX7, "meeting", "(LPortsmith$Need;)I"⟩
abbrev cX7_permit : ByteArray := prog_9_method_7_code
def yX7_permit : MethodName := ⟨RX7, "permit", "(I[II)V"⟩
abbrev cX7_seek : ByteArray := prog_9_method_8_code
def yX7_seek : MethodName := ⟨RX7, "seek", "(II)I"⟩
abbrev cX7_isClosure : ByteArray := prog_9_method_9_code
def yX7_isClosure : MethodName := ⟨RX7, "isClosure", "(I[I)Z"⟩
abbrev cX7_withinReach : ByteArray := prog_9_method_10_code
def yX7_withinReach : MethodName := ⟨RX7, "withinReach", "()I"⟩
abbrev cX7_leadingTo : ByteArray := prog_9_method_11_code
def yX7_leadingTo : MethodName := ⟨RX7, "leadingTo", "(LPortsmith$Version;)I"⟩
abbrev cX7_search : ByteArray := prog_9_method_12_code
def yX7_search : MethodName := ⟨RX7, "search", "(III)V"⟩
abbrev cX7_branch : ByteArray := prog_9_method_13_code
def yX7_branch : MethodName := ⟨RX7, "branch", "(IIII)V"⟩
abbrev cX7_greatest : ByteArray := prog_9_method_14_code
def yX7_greatest : MethodName := ⟨RX7, "greatest", "(II)I"⟩
abbrev cX7_isSettled : ByteArray := prog_9_method_15_code
def yX7_isSettled : MethodName := ⟨RX7, "isSettled", "(II)Z"⟩
abbrev cX7_record : ByteArray := prog_9_method_16_code
def yX7_record : MethodName := ⟨RX7, "record", "(II)V"⟩
abbrev cX7_areMet : ByteArray := prog_9_method_17_code
def yX7_areMet : MethodName := ⟨RX7, "areMet", "(II)Z"⟩
abbrev cX7_isReached : ByteArray := prog_9_method_18_code
def yX7_isReached : MethodName := ⟨RX7, "isReached", "(I)Z"⟩
abbrev cX7_hasNeedsMet : ByteArray := prog_9_method_19_code
def yX7_hasNeedsMet : MethodName := ⟨RX7, "hasNeedsMet", "(II)Z"⟩
abbrev cX7_isMet : ByteArray := prog_9_method_20_code
def yX7_isMet : MethodName := ⟨RX7, "isMet", "(LPortsmith$Need;I)Z"⟩
def RX8 : String := "Portsmith$Tape"
def TX8 : u_T := fun k => match k with
  | 0 => ("Portsmith$Tape", "text", "[C", true)
  | 1 => ("Portsmith$Tape", "length", "I", false)
  | 2 => ("Portsmith$Tape", "place", "I", false)
  | _ => ("Portsmith$Tape", "isFaulty", "Z", false)
def tyX8 : Nat → FieldType := fun k => match k with
  | 0 => .array .char
  | 1 => .int
  | 2 => .int
  | _ => .boolean
abbrev wsX80 : List Cond := u_ws RX8 TX8 4
theorem nmX8 : ∀ a, a < 4 → ∀ b, b < 4 → a ≠ b → (TX8 a).2.1 ≠ (TX8 b).2.1 := by decide +kernel
theorem tyX8_ok : ∀ k, k < 4 → parseFieldDescriptor (TX8 k).2.2.1 = some (tyX8 k) := by decide +kernel
abbrev cX8_init : ByteArray := prog_10_method_1_code
def yX8_init : MethodName := ⟨RX8, "<init>", "()V"⟩
abbrev cX8_append : ByteArray := prog_10_method_2_code
def yX8_append : MethodName := ⟨RX8, "append", "(C)V"⟩
abbrev cX8_clear : ByteArray := prog_10_method_3_code
def yX8_clear : MethodName := ⟨RX8, "clear", "()V"⟩
abbrev cX8_faultPlace : ByteArray := prog_10_method_4_code
def yX8_faultPlace : MethodName := ⟨RX8, "faultPlace", "()I"⟩
abbrev cX8_readRange : ByteArray := prog_10_method_5_code
def yX8_readRange : MethodName := ⟨RX8, "readRange", "()LPortsmith$Range;"⟩
abbrev cX8_readTest : ByteArray := prog_10_method_6_code
def yX8_readTest : MethodName := ⟨RX8, "readTest", "(Z)LPortsmith$Test;"⟩
abbrev cX8_readKind : ByteArray := prog_10_method_7_code
def yX8_readKind : MethodName := ⟨RX8, "readKind", "()I"⟩
abbrev cX8_readDigit : ByteArray := prog_10_method_8_code
def yX8_readDigit : MethodName := ⟨RX8, "readDigit", "()I"⟩
abbrev cX8_takes : ByteArray := prog_10_method_9_code
def yX8_takes : MethodName := ⟨RX8, "takes", "(C)Z"⟩
def RX9 : String := "Portsmith$Test"
def TX9 : u_T := fun k => match k with
  | 0 => ("Portsmith$Test", "digits", "I", true)
  | 1 => ("Portsmith$Test", "opensPart", "Z", true)
  | 2 => ("Portsmith$Test", "from", "[I", true)
  | _ => ("Portsmith$Test", "below", "[I", true)
def tyX9 : Nat → FieldType := fun k => match k with
  | 0 => .int
  | 1 => .boolean
  | 2 => .array .int
  | _ => .array .int
abbrev wsX90 : List Cond := u_ws RX9 TX9 4
theorem nmX9 : ∀ a, a < 4 → ∀ b, b < 4 → a ≠ b → (TX9 a).2.1 ≠ (TX9 b).2.1 := by decide +kernel
theorem tyX9_ok : ∀ k, k < 4 → parseFieldDescriptor (TX9 k).2.2.1 = some (tyX9 k) := by decide +kernel
abbrev cX9_init : ByteArray := prog_11_method_1_code
def yX9_init : MethodName := ⟨RX9, "<init>", "(IIZZ)V"⟩
abbrev cX9_digitsOf : ByteArray := prog_11_method_2_code
def yX9_digitsOf : MethodName := ⟨RX9, "digitsOf", "(I)I"⟩
abbrev cX9_rank : ByteArray := prog_11_method_3_code
def yX9_rank : MethodName := ⟨RX9, "rank", "(II)I"⟩
abbrev cX9_next : ByteArray := prog_11_method_4_code
def yX9_next : MethodName := ⟨RX9, "next", "(IIZ)I"⟩
abbrev cX9_tellsPreviewOf : ByteArray := prog_11_method_5_code
def yX9_tellsPreviewOf : MethodName := ⟨RX9, "tellsPreviewOf", "(I)Z"⟩
def RX10 : String := "Portsmith$Version"
def TX10 : u_T := fun k => match k with
  | 0 => ("Portsmith$Version", "digits", "I", true)
  | 1 => ("Portsmith$Version", "features", "I", true)
  | 2 => ("Portsmith$Version", "licence", "I", true)
  | 3 => ("Portsmith$Version", "content", "I", true)
  | 4 => ("Portsmith$Version", "isYanked", "Z", false)
  | 5 => ("Portsmith$Version", "isStored", "Z", false)
  | 6 => ("Portsmith$Version", "needs", "[LPortsmith$Need;", true)
  | 7 => ("Portsmith$Version", "needCount", "I", false)
  | 8 => ("Portsmith$Version", "conflicts", "[LPortsmith$Need;", true)
  | 9 => ("Portsmith$Version", "conflictCount", "I", false)
  | 10 => ("Portsmith$Version", "providedPacks", "[I", true)
  | 11 => ("Portsmith$Version", "providedDigits", "[I", true)
  | 12 => ("Portsmith$Version", "providedCount", "I", false)
  | 13 => ("Portsmith$Version", "filePaths", "[I", true)
  | 14 => ("Portsmith$Version", "fileContents", "[I", true)
  | 15 => ("Portsmith$Version", "areConfigurations", "[Z", true)
  | 16 => ("Portsmith$Version", "fileCount", "I", false)
  | _ => ("Portsmith$Version", "told", "[I", true)
def tyX10 : Nat → FieldType := fun k => match k with
  | 0 => .int
  | 1 => .int
  | 2 => .int
  | 3 => .int
  | 4 => .boolean
  | 5 => .boolean
  | 6 => .array (.object "Portsmith$Need")
  | 7 => .int
  | 8 => .array (.object "Portsmith$Need")
  | 9 => .int
  | 10 => .array .int
  | 11 => .array .int
  | 12 => .int
  | 13 => .array .int
  | 14 => .array .int
  | 15 => .array .boolean
  | 16 => .int
  | _ => .array .int
abbrev wsX100 : List Cond := u_ws RX10 TX10 18
theorem nmX10 : ∀ a, a < 18 → ∀ b, b < 18 → a ≠ b → (TX10 a).2.1 ≠ (TX10 b).2.1 := by decide +kernel
theorem tyX10_ok : ∀ k, k < 18 → parseFieldDescriptor (TX10 k).2.2.1 = some (tyX10 k) := by decide +kernel
abbrev cX10_init : ByteArray := prog_12_method_1_code
def yX10_init : MethodName := ⟨RX10, "<init>", "(IIII)V"⟩
abbrev cX10_givenBy : ByteArray := prog_12_method_2_code
def yX10_givenBy : MethodName := ⟨RX10, "givenBy", "(I)I"⟩
abbrev cX10_provides : ByteArray := prog_12_method_3_code
def yX10_provides : MethodName := ⟨RX10, "provides", "(ILPortsmith$Range;I)Z"⟩
abbrev cX10_hasFileAt : ByteArray := prog_12_method_4_code
def yX10_hasFileAt : MethodName := ⟨RX10, "hasFileAt", "(I)Z"⟩
abbrev cX10_addFile : ByteArray := prog_12_method_5_code
def yX10_addFile : MethodName := ⟨RX10, "addFile", "(IIZ)V"⟩
def RX11 : String := "Portsmith"
def TX11 : u_T := fun k => match k with
  | 0 => ("Portsmith", "tape", "LPortsmith$Tape;", true)
  | 1 => ("Portsmith", "packs", "[LPortsmith$Pack;", true)
  | 2 => ("Portsmith", "wishes", "[LPortsmith$Need;", true)
  | 3 => ("Portsmith", "wishCount", "I", false)
  | 4 => ("Portsmith", "licences", "I", false)
  | 5 => ("Portsmith", "advisories", "[LPortsmith$Advisory;", true)
  | 6 => ("Portsmith", "advisoryCount", "I", false)
  | 7 => ("Portsmith", "locks", "[[I", true)
  | 8 => ("Portsmith", "proposals", "[[I", true)
  | 9 => ("Portsmith", "isProposed", "[Z", true)
  | 10 => ("Portsmith", "solver", "LPortsmith$Solver;", true)
  | 11 => ("Portsmith", "minute", "I", false)
  | 12 => ("Portsmith", "roleKeys", "I", false)
  | 13 => ("Portsmith", "roleThreshold", "I", false)
  | 14 => ("Portsmith", "latestIndex", "I", false)
  | 15 => ("Portsmith", "isShut", "[Z", true)
  | 16 => ("Portsmith", "lieCounts", "[I", true)
  | _ => ("Portsmith", "installer", "LPortsmith$Installer;", true)
def tyX11 : Nat → FieldType := fun k => match k with
  | 0 => .object "Portsmith$Tape"
  | 1 => .array (.object "Portsmith$Pack")
  | 2 => .array (.object "Portsmith$Need")
  | 3 => .int
  | 4 => .int
  | 5 => .array (.object "Portsmith$Advisory")
  | 6 => .int
  | 7 => .array (.array .int)
  | 8 => .array (.array .int)
  | 9 => .array .boolean
  | 10 => .object "Portsmith$Solver"
  | 11 => .int
  | 12 => .int
  | 13 => .int
  | 14 => .int
  | 15 => .array .boolean
  | 16 => .array .int
  | _ => .object "Portsmith$Installer"
abbrev wsX110 : List Cond := u_ws RX11 TX11 18
theorem nmX11 : ∀ a, a < 18 → ∀ b, b < 18 → a ≠ b → (TX11 a).2.1 ≠ (TX11 b).2.1 := by decide +kernel
theorem tyX11_ok : ∀ k, k < 18 → parseFieldDescriptor (TX11 k).2.2.1 = some (tyX11 k) := by decide +kernel
abbrev cX11_init : ByteArray := prog_1_method_1_code
def yX11_init : MethodName := ⟨RX11, "<init>", "()V"⟩
abbrev cX11_type : ByteArray := prog_1_method_2_code
def yX11_type : MethodName := ⟨RX11, "type", "(JI)I"⟩
abbrev cX11_wipe : ByteArray := prog_1_method_3_code
def yX11_wipe : MethodName := ⟨RX11, "wipe", "()I"⟩
abbrev cX11_fault : ByteArray := prog_1_method_4_code
def yX11_fault : MethodName := ⟨RX11, "fault", "()I"⟩
abbrev cX11_scheme : ByteArray := prog_1_method_5_code
def yX11_scheme : MethodName := ⟨RX11, "scheme", "(II)I"⟩
abbrev cX11_version : ByteArray := prog_1_method_6_code
def yX11_version : MethodName := ⟨RX11, "version", "(IIIII)I"⟩
abbrev cX11_need : ByteArray := prog_1_method_7_code
def yX11_need : MethodName := ⟨RX11, "need", "(IIIIII)I"⟩
abbrev cX11_conflict : ByteArray := prog_1_method_8_code
def yX11_conflict : MethodName := ⟨RX11, "conflict", "(III)I"⟩
abbrev cX11_provide : ByteArray := prog_1_method_9_code
def yX11_provide : MethodName := ⟨RX11, "provide", "(IIII)I"⟩
abbrev cX11_yank : ByteArray := prog_1_method_10_code
def yX11_yank : MethodName := ⟨RX11, "yank", "(IIZ)Z"⟩
abbrev cX11_compare : ByteArray := prog_1_method_11_code
def yX11_compare : MethodName := ⟨RX11, "compare", "(III)I"⟩
abbrev cX11_within : ByteArray := prog_1_method_12_code
def yX11_within : MethodName := ⟨RX11, "within", "(I)I"⟩
abbrev cX11_wish : ByteArray := prog_1_method_13_code
def yX11_wish : MethodName := ⟨RX11, "wish", "(II)I"⟩
abbrev cX11_unwish : ByteArray := prog_1_method_14_code
def yX11_unwish : MethodName := ⟨RX11, "unwish", "()I"⟩
abbrev cX11_policy : ByteArray := prog_1_method_15_code
def yX11_policy : MethodName := ⟨RX11, "policy", "(I)I"⟩
abbrev cX11_solve : ByteArray := prog_1_method_16_code
def yX11_solve : MethodName := ⟨RX11, "solve", "(II)I"⟩
abbrev cX11_proposed : ByteArray := prog_1_method_17_code
def yX11_proposed : MethodName := ⟨RX11, "proposed", "(II)I"⟩
abbrev cX11_closures : ByteArray := prog_1_method_18_code
def yX11_closures : MethodName := ⟨RX11, "closures", "(I)I"⟩
abbrev cX11_story : ByteArray := prog_1_method_19_code
def yX11_story : MethodName := ⟨RX11, "story", "(I)I"⟩
abbrev cX11_lock : ByteArray := prog_1_method_20_code
def yX11_lock : MethodName := ⟨RX11, "lock", "(I)I"⟩
abbrev cX11_locked : ByteArray := prog_1_method_21_code
def yX11_locked : MethodName := ⟨RX11, "locked", "(II)I"⟩
abbrev cX11_holds : ByteArray := prog_1_method_22_code
def yX11_holds : MethodName := ⟨RX11, "holds", "(I)Z"⟩
abbrev cX11_advise : ByteArray := prog_1_method_23_code
def yX11_advise : MethodName := ⟨RX11, "advise", "(II)I"⟩
abbrev cX11_advised : ByteArray := prog_1_method_24_code
def yX11_advised : MethodName := ⟨RX11, "advised", "(II)I"⟩
abbrev cX11_pass : ByteArray := prog_1_method_25_code
def yX11_pass : MethodName := ⟨RX11, "pass", "(I)I"⟩
abbrev cX11_role : ByteArray := prog_1_method_26_code
def yX11_role : MethodName := ⟨RX11, "role", "(III)Z"⟩
abbrev cX11_index : ByteArray := prog_1_method_27_code
def yX11_index : MethodName := ⟨RX11, "index", "(III)I"⟩
abbrev cX11_mirror : ByteArray := prog_1_method_28_code
def yX11_mirror : MethodName := ⟨RX11, "mirror", "(IIII)I"⟩
abbrev cX11_shut : ByteArray := prog_1_method_29_code
def yX11_shut : MethodName := ⟨RX11, "shut", "(IZ)Z"⟩
abbrev cX11_fetch : ByteArray := prog_1_method_30_code
def yX11_fetch : MethodName := ⟨RX11, "fetch", "(II)I"⟩
abbrev cX11_lies : ByteArray := prog_1_method_31_code
def yX11_lies : MethodName := ⟨RX11, "lies", "(I)I"⟩
abbrev cX11_file : ByteArray := prog_1_method_32_code
def yX11_file : MethodName := ⟨RX11, "file", "(IIIIZ)I"⟩
abbrev cX11_divert : ByteArray := prog_1_method_33_code
def yX11_divert : MethodName := ⟨RX11, "divert", "(III)I"⟩
abbrev cX11_install : ByteArray := prog_1_method_34_code
def yX11_install : MethodName := ⟨RX11, "install", "(II)I"⟩
abbrev cX11_steps : ByteArray := prog_1_method_35_code
def yX11_steps : MethodName := ⟨RX11, "steps", "()I"⟩
abbrev cX11_edit : ByteArray := prog_1_method_36_code
def yX11_edit : MethodName := ⟨RX11, "edit", "(II)I"⟩
abbrev cX11_path : ByteArray := prog_1_method_37_code
def yX11_path : MethodName := ⟨RX11, "path", "(II)I"⟩
abbrev cX11_installed : ByteArray := prog_1_method_38_code
def yX11_installed : MethodName := ⟨RX11, "installed", "(I)I"⟩
abbrev cX11_aside : ByteArray := prog_1_method_39_code
def yX11_aside : MethodName := ⟨RX11, "aside", "()I"⟩
abbrev cX11_run : ByteArray := prog_1_method_40_code
def yX11_run : MethodName := ⟨RX11, "run", "(IZ)Z"⟩
abbrev cX11_rollback : ByteArray := prog_1_method_41_code
def yX11_rollback : MethodName := ⟨RX11, "rollback", "(I)I"⟩
abbrev cX11_collect : ByteArray := prog_1_method_42_code
def yX11_collect : MethodName := ⟨RX11, "collect", "()I"⟩
abbrev cX11_generation : ByteArray := prog_1_method_43_code
def yX11_generation : MethodName := ⟨RX11, "generation", "()I"⟩
abbrev cX11_generations : ByteArray := prog_1_method_44_code
def yX11_generations : MethodName := ⟨RX11, "generations", "()I"⟩
abbrev cX11_signAt : ByteArray := prog_1_method_45_code
def yX11_signAt : MethodName := ⟨RX11, "signAt", "(JI)I"⟩
abbrev cX11_checkPack : ByteArray := prog_1_method_46_code
def yX11_checkPack : MethodName := ⟨RX11, "checkPack", "(I)V"⟩
abbrev cX11_checkVersion : ByteArray := prog_1_method_47_code
def yX11_checkVersion : MethodName := ⟨RX11, "checkVersion", "(II)V"⟩
abbrev cX11_checkPlatform : ByteArray := prog_1_method_48_code
def yX11_checkPlatform : MethodName := ⟨RX11, "checkPlatform", "(I)V"⟩
abbrev cX11_checkMirror : ByteArray := prog_1_method_49_code
def yX11_checkMirror : MethodName := ⟨RX11, "checkMirror", "(I)V"⟩
abbrev cX11_checkRange : ByteArray := prog_1_method_50_code
def yX11_checkRange : MethodName := ⟨RX11, "checkRange", "(III)V"⟩
abbrev cX11_checkOwnFeature : ByteArray := prog_1_method_51_code
def yX11_checkOwnFeature : MethodName := ⟨RX11, "checkOwnFeature", "(I)V"⟩
abbrev cX11_checkOther : ByteArray := prog_1_method_52_code
def yX11_checkOther : MethodName := ⟨RX11, "checkOther", "(II)V"⟩
abbrev cX11_checkRoom : ByteArray := prog_1_method_53_code
def yX11_checkRoom : MethodName := ⟨RX11, "checkRoom", "(II)V"⟩
abbrev cX11_tapeAsRange : ByteArray := prog_1_method_54_code
def yX11_tapeAsRange : MethodName := ⟨RX11, "tapeAsRange", "()LPortsmith$Range;"⟩
abbrev cX11_keptGeneration : ByteArray := prog_1_method_55_code
def yX11_keptGeneration : MethodName := ⟨RX11, "keptGeneration", "(I)LPortsmith$Generation;"⟩
abbrev cX11_isIncluded : ByteArray := prog_1_method_56_code
def yX11_isIncluded : MethodName := ⟨RX11, "isIncluded", "(LPortsmith$Range;II)Z"⟩
abbrev cX11_allWishes : ByteArray := prog_1_method_57_code
def yX11_allWishes : MethodName := ⟨RX11, "allWishes", "()I"⟩
abbrev cX11_prepareSolver : ByteArray := prog_1_method_58_code
def yX11_prepareSolver : MethodName := ⟨RX11, "prepareSolver", "(II)V"⟩
def RX12 : String := "PortsmithModel"
def TX12 : u_T := fun k => match k with
  | 0 => ("PortsmithModel", "thrown", "I", false)
  | 1 => ("PortsmithModel", "schemes", "[I", true)
  | 2 => ("PortsmithModel", "versions", "[I", true)
  | 3 => ("PortsmithModel", "numbers", "[I", true)
  | 4 => ("PortsmithModel", "features", "[I", true)
  | 5 => ("PortsmithModel", "licences", "[I", true)
  | 6 => ("PortsmithModel", "contents", "[I", true)
  | 7 => ("PortsmithModel", "areYanked", "[Z", true)
  | 8 => ("PortsmithModel", "needs", "[I", true)
  | 9 => ("PortsmithModel", "needPacks", "[I", true)
  | 10 => ("PortsmithModel", "needFeatures", "[I", true)
  | 11 => ("PortsmithModel", "needPlatforms", "[I", true)
  | 12 => ("PortsmithModel", "needOwn", "[I", true)
  | 13 => ("PortsmithModel", "conflicts", "[I", true)
  | 14 => ("PortsmithModel", "conflictPacks", "[I", true)
  | 15 => ("PortsmithModel", "provides", "[I", true)
  | 16 => ("PortsmithModel", "providePacks", "[I", true)
  | 17 => ("PortsmithModel", "provideNumbers", "[I", true)
  | 18 => ("PortsmithModel", "wishes", "I", false)
  | 19 => ("PortsmithModel", "wishPacks", "[I", true)
  | 20 => ("PortsmithModel", "wishFeatures", "[I", true)
  | 21 => ("PortsmithModel", "advisories", "I", false)
  | 22 => ("PortsmithModel", "advicePacks", "[I", true)
  | 23 => ("PortsmithModel", "severities", "[I", true)
  | 24 => ("PortsmithModel", "texts", "[I", true)
  | 25 => ("PortsmithModel", "lengths", "[I", true)
  | 26 => ("PortsmithModel", "policy", "I", false)
  | 27 => ("PortsmithModel", "proposals", "[I", true)
  | 28 => ("PortsmithModel", "areProposed", "[Z", true)
  | 29 => ("PortsmithModel", "locks", "[I", true)
  | 30 => ("PortsmithModel", "holding", "[I", true)
  | 31 => ("PortsmithModel", "holdingProvided", "[J", true)
  | 32 => ("PortsmithModel", "order", "[I", true)
  | 33 => ("PortsmithModel", "choice", "[I", true)
  | 34 => ("PortsmithModel", "on", "[I", true)
  | 35 => ("PortsmithModel", "best", "[I", true)
  | 36 => ("PortsmithModel", "minute", "I", false)
  | 37 => ("PortsmithModel", "roleKeys", "I", false)
  | 38 => ("PortsmithModel", "threshold", "I", false)
  | 39 => ("PortsmithModel", "lastIndex", "I", false)
  | 40 => ("PortsmithModel", "given", "[I", true)
  | 41 => ("PortsmithModel", "areShut", "[Z", true)
  | 42 => ("PortsmithModel", "areStored", "[Z", true)
  | 43 => ("PortsmithModel", "lies", "[I", true)
  | 44 => ("PortsmithModel", "files", "[I", true)
  | 45 => ("PortsmithModel", "filePaths", "[I", true)
  | 46 => ("PortsmithModel", "fileContents", "[I", true)
  | 47 => ("PortsmithModel", "areConfigurations", "[Z", true)
  | 48 => ("PortsmithModel", "divertedFor", "[I", true)
  | 49 => ("PortsmithModel", "divertedTo", "[I", true)
  | 50 => ("PortsmithModel", "machine", "[I", true)
  | 51 => ("PortsmithModel", "comes", "[I", true)
  | 52 => ("PortsmithModel", "steps", "I", false)
  | 53 => ("PortsmithModel", "aside", "I", false)
  | 54 => ("PortsmithModel", "made", "I", false)
  | 55 => ("PortsmithModel", "current", "I", false)
  | 56 => ("PortsmithModel", "kept", "I", false)
  | 57 => ("PortsmithModel", "keptNumbers", "[I", true)
  | 58 => ("PortsmithModel", "areRunning", "[Z", true)
  | 59 => ("PortsmithModel", "keptData", "[I", true)
  | 60 => ("PortsmithModel", "spot", "I", false)
  | 61 => ("PortsmithModel", "source", "I", false)
  | 62 => ("PortsmithModel", "sign", "I", false)
  | 63 => ("PortsmithModel", "told", "[I", true)
  | _ => ("PortsmithModel", "toldMany", "I", false)
def tyX12 : Nat → FieldType := fun k => match k with
  | 0 => .int
  | 1 => .array .int
  | 2 => .array .int
  | 3 => .array .int
  | 4 => .array .int
  | 5 => .array .int
  | 6 => .array .int
  | 7 => .array .boolean
  | 8 => .array .int
  | 9 => .array .int
  | 10 => .array .int
  | 11 => .array .int
  | 12 => .array .int
  | 13 => .array .int
  | 14 => .array .int
  | 15 => .array .int
  | 16 => .array .int
  | 17 => .array .int
  | 18 => .int
  | 19 => .array .int
  | 20 => .array .int
  | 21 => .int
  | 22 => .array .int
  | 23 => .array .int
  | 24 => .array .int
  | 25 => .array .int
  | 26 => .int
  | 27 => .array .int
  | 28 => .array .boolean
  | 29 => .array .int
  | 30 => .array .int
  | 31 => .array .long
  | 32 => .array .int
  | 33 => .array .int
  | 34 => .array .int
  | 35 => .array .int
  | 36 => .int
  | 37 => .int
  | 38 => .int
  | 39 => .int
  | 40 => .array .int
  | 41 => .array .boolean
  | 42 => .array .boolean
  | 43 => .array .int
  | 44 => .array .int
  | 45 => .array .int
  | 46 => .array .int
  | 47 => .array .boolean
  | 48 => .array .int
  | 49 => .array .int
  | 50 => .array .int
  | 51 => .array .int
  | 52 => .int
  | 53 => .int
  | 54 => .int
  | 55 => .int
  | 56 => .int
  | 57 => .array .int
  | 58 => .array .boolean
  | 59 => .array .int
  | 60 => .int
  | 61 => .int
  | 62 => .int
  | 63 => .array .int
  | _ => .int
abbrev wsX120 : List Cond := u_ws RX12 TX12 65
theorem nmX12 : ∀ a, a < 65 → ∀ b, b < 65 → a ≠ b → (TX12 a).2.1 ≠ (TX12 b).2.1 := by decide +kernel
theorem tyX12_ok : ∀ k, k < 65 → parseFieldDescriptor (TX12 k).2.2.1 = some (tyX12 k) := by decide +kernel
abbrev cX12_init : ByteArray := prog_14_method_1_code
def yX12_init : MethodName := ⟨RX12, "<init>", "()V"⟩
abbrev cX12_thrown : ByteArray := prog_14_method_2_code
def yX12_thrown : MethodName := ⟨RX12, "thrown", "()I"⟩
abbrev cX12_may : ByteArray := prog_14_method_3_code
def yX12_may : MethodName := ⟨RX12, "may", "(I)Z"⟩
abbrev cX12_in : ByteArray := prog_14_method_4_code
def yX12_in : MethodName := ⟨RX12, "in", "(III)Z"⟩
abbrev cX12_isIn : ByteArray := prog_14_method_5_code
def yX12_isIn : MethodName := ⟨RX12, "isIn", "(II)Z"⟩
abbrev cX12_isPack : ByteArray := prog_14_method_6_code
def yX12_isPack : MethodName := ⟨RX12, "isPack", "(I)Z"⟩
abbrev cX12_isVersion : ByteArray := prog_14_method_7_code
def yX12_isVersion : MethodName := ⟨RX12, "isVersion", "(II)Z"⟩
abbrev cX12_size : ByteArray := prog_14_method_8_code
def yX12_size : MethodName := ⟨RX12, "size", "(I)I"⟩
abbrev cX12_type : ByteArray := prog_14_method_9_code
def yX12_type : MethodName := ⟨RX12, "type", "(JI)I"⟩
abbrev cX12_wipe : ByteArray := prog_14_method_10_code
def yX12_wipe : MethodName := ⟨RX12, "wipe", "()I"⟩
abbrev cX12_next : ByteArray := prog_14_method_11_code
def yX12_next : MethodName := ⟨RX12, "next", "()I"⟩
abbrev cX12_isDigit : ByteArray := prog_14_method_12_code
def yX12_isDigit : MethodName := ⟨RX12, "isDigit", "()Z"⟩
abbrev cX12_readsDigit : ByteArray := prog_14_method_13_code
def yX12_readsDigit : MethodName := ⟨RX12, "readsDigit", "(I)Z"⟩
abbrev cX12_takes : ByteArray := prog_14_method_14_code
def yX12_takes : MethodName := ⟨RX12, "takes", "(I)Z"⟩
abbrev cX12_readsVersion : ByteArray := prog_14_method_15_code
def yX12_readsVersion : MethodName := ⟨RX12, "readsVersion", "()Z"⟩
abbrev cX12_readsTest : ByteArray := prog_14_method_16_code
def yX12_readsTest : MethodName := ⟨RX12, "readsTest", "()Z"⟩
abbrev cX12_faultOf : ByteArray := prog_14_method_17_code
def yX12_faultOf : MethodName := ⟨RX12, "faultOf", "(I)I"⟩
abbrev cX12_fault : ByteArray := prog_14_method_18_code
def yX12_fault : MethodName := ⟨RX12, "fault", "()I"⟩
abbrev cX12_key : ByteArray := prog_14_method_19_code
def yX12_key : MethodName := ⟨RX12, "key", "(IIIIII)I"⟩
abbrev cX12_keyOf : ByteArray := prog_14_method_20_code
def yX12_keyOf : MethodName := ⟨RX12, "keyOf", "(II)I"⟩
abbrev cX12_isTestOf : ByteArray := prog_14_method_21_code
def yX12_isTestOf : MethodName := ⟨RX12, "isTestOf", "(II)Z"⟩
abbrev cX12_isOfPreview : ByteArray := prog_14_method_22_code
def yX12_isOfPreview : MethodName := ⟨RX12, "isOfPreview", "(I)Z"⟩
abbrev cX12_isRangeOf : ByteArray := prog_14_method_23_code
def yX12_isRangeOf : MethodName := ⟨RX12, "isRangeOf", "(III)Z"⟩
abbrev cX12_keeps : ByteArray := prog_14_method_24_code
def yX12_keeps : MethodName := ⟨RX12, "keeps", "(I)V"⟩
abbrev cX12_isTyped : ByteArray := prog_14_method_25_code
def yX12_isTyped : MethodName := ⟨RX12, "isTyped", "()Z"⟩
abbrev cX12_scheme : ByteArray := prog_14_method_26_code
def yX12_scheme : MethodName := ⟨RX12, "scheme", "(II)I"⟩
abbrev cX12_version : ByteArray := prog_14_method_27_code
def yX12_version : MethodName := ⟨RX12, "version", "(IIIII)I"⟩
abbrev cX12_need : ByteArray := prog_14_method_28_code
def yX12_need : MethodName := ⟨RX12, "need", "(IIIIII)I"⟩
abbrev cX12_conflict : ByteArray := prog_14_method_29_code
def yX12_conflict : MethodName := ⟨RX12, "conflict", "(III)I"⟩
abbrev cX12_provide : ByteArray := prog_14_method_30_code
def yX12_provide : MethodName := ⟨RX12, "provide", "(IIII)I"⟩
abbrev cX12_yank : ByteArray := prog_14_method_31_code
def yX12_yank : MethodName := ⟨RX12, "yank", "(IIZ)Z"⟩
abbrev cX12_compares : ByteArray := prog_14_method_32_code
def yX12_compares : MethodName := ⟨RX12, "compares", "(III)I"⟩
abbrev cX12_compare : ByteArray := prog_14_method_33_code
def yX12_compare : MethodName := ⟨RX12, "compare", "(III)I"⟩
abbrev cX12_versionsOf : ByteArray := prog_14_method_34_code
def yX12_versionsOf : MethodName := ⟨RX12, "versionsOf", "(II)I"⟩
abbrev cX12_within : ByteArray := prog_14_method_35_code
def yX12_within : MethodName := ⟨RX12, "within", "(I)I"⟩
abbrev cX12_wish : ByteArray := prog_14_method_36_code
def yX12_wish : MethodName := ⟨RX12, "wish", "(II)I"⟩
abbrev cX12_unwish : ByteArray := prog_14_method_37_code
def yX12_unwish : MethodName := ⟨RX12, "unwish", "()I"⟩
abbrev cX12_policy : ByteArray := prog_14_method_38_code
def yX12_policy : MethodName := ⟨RX12, "policy", "(I)I"⟩
abbrev cX12_laysRange : ByteArray := prog_14_method_39_code
def yX12_laysRange : MethodName := ⟨RX12, "laysRange", "(II)V"⟩
abbrev cX12_laysRanges : ByteArray := prog_14_method_40_code
def yX12_laysRanges : MethodName := ⟨RX12, "laysRanges", "()V"⟩
abbrev cX12_meeters : ByteArray := prog_14_method_41_code
def yX12_meeters : MethodName := ⟨RX12, "meeters", "(III)I"⟩
abbrev cX12_asks : ByteArray := prog_14_method_42_code
def yX12_asks : MethodName := ⟨RX12, "asks", "(II)V"⟩
abbrev cX12_isActive : ByteArray := prog_14_method_43_code
def yX12_isActive : MethodName := ⟨RX12, "isActive", "(III)Z"⟩
abbrev cX12_state : ByteArray := prog_14_method_44_code
def yX12_state : MethodName := ⟨RX12, "state", "(I)I"⟩
abbrev cX12_reaches : ByteArray := prog_14_method_45_code
def yX12_reaches : MethodName := ⟨RX12, "reaches", "(II)I"⟩
abbrev cX12_hasConflict : ByteArray := prog_14_method_46_code
def yX12_hasConflict : MethodName := ⟨RX12, "hasConflict", "(I)Z"⟩
abbrev cX12_isClosure : ByteArray := prog_14_method_47_code
def yX12_isClosure : MethodName := ⟨RX12, "isClosure", "(III)Z"⟩
abbrev cX12_chooses : ByteArray := prog_14_method_48_code
def yX12_chooses : MethodName := ⟨RX12, "chooses", "(I)Z"⟩
abbrev cX12_changes : ByteArray := prog_14_method_49_code
def yX12_changes : MethodName := ⟨RX12, "changes", "(II)I"⟩
abbrev cX12_chosenMany : ByteArray := prog_14_method_50_code
def yX12_chosenMany : MethodName := ⟨RX12, "chosenMany", "()I"⟩
abbrev cX12_solves : ByteArray := prog_14_method_51_code
def yX12_solves : MethodName := ⟨RX12, "solves", "(II)I"⟩
abbrev cX12_isPlatform : ByteArray := prog_14_method_52_code
def yX12_isPlatform : MethodName := ⟨RX12, "isPlatform", "(I)Z"⟩
abbrev cX12_solve : ByteArray := prog_14_method_53_code
def yX12_solve : MethodName := ⟨RX12, "solve", "(II)I"⟩
abbrev cX12_proposed : ByteArray := prog_14_method_54_code
def yX12_proposed : MethodName := ⟨RX12, "proposed", "(II)I"⟩
abbrev cX12_closures : ByteArray := prog_14_method_55_code
def yX12_closures : MethodName := ⟨RX12, "closures", "(I)I"⟩
abbrev cX12_hasClosure : ByteArray := prog_14_method_56_code
def yX12_hasClosure : MethodName := ⟨RX12, "hasClosure", "(II)Z"⟩
abbrev cX12_story : ByteArray := prog_14_method_57_code
def yX12_story : MethodName := ⟨RX12, "story", "(I)I"⟩
abbrev cX12_lock : ByteArray := prog_14_method_58_code
def yX12_lock : MethodName := ⟨RX12, "lock", "(I)I"⟩
abbrev cX12_locked : ByteArray := prog_14_method_59_code
def yX12_locked : MethodName := ⟨RX12, "locked", "(II)I"⟩
abbrev cX12_holds : ByteArray := prog_14_method_60_code
def yX12_holds : MethodName := ⟨RX12, "holds", "(I)Z"⟩
abbrev cX12_isLockClosure : ByteArray := prog_14_method_61_code
def yX12_isLockClosure : MethodName := ⟨RX12, "isLockClosure", "(I)Z"⟩
abbrev cX12_advise : ByteArray := prog_14_method_62_code
def yX12_advise : MethodName := ⟨RX12, "advise", "(II)I"⟩
abbrev cX12_advised : ByteArray := prog_14_method_63_code
def yX12_advised : MethodName := ⟨RX12, "advised", "(II)I"⟩
abbrev cX12_pass : ByteArray := prog_14_method_64_code
def yX12_pass : MethodName := ⟨RX12, "pass", "(I)I"⟩
abbrev cX12_role : ByteArray := prog_14_method_65_code
def yX12_role : MethodName := ⟨RX12, "role", "(III)Z"⟩
abbrev cX12_index : ByteArray := prog_14_method_66_code
def yX12_index : MethodName := ⟨RX12, "index", "(III)I"⟩
abbrev cX12_isMirror : ByteArray := prog_14_method_67_code
def yX12_isMirror : MethodName := ⟨RX12, "isMirror", "(I)Z"⟩
abbrev cX12_gives : ByteArray := prog_14_method_68_code
def yX12_gives : MethodName := ⟨RX12, "gives", "(II)I"⟩
abbrev cX12_mirror : ByteArray := prog_14_method_69_code
def yX12_mirror : MethodName := ⟨RX12, "mirror", "(IIII)I"⟩
abbrev cX12_shut : ByteArray := prog_14_method_70_code
def yX12_shut : MethodName := ⟨RX12, "shut", "(IZ)Z"⟩
abbrev cX12_fetch : ByteArray := prog_14_method_71_code
def yX12_fetch : MethodName := ⟨RX12, "fetch", "(II)I"⟩
abbrev cX12_lies : ByteArray := prog_14_method_72_code
def yX12_lies : MethodName := ⟨RX12, "lies", "(I)I"⟩
abbrev cX12_hasFile : ByteArray := prog_14_method_73_code
def yX12_hasFile : MethodName := ⟨RX12, "hasFile", "(II)Z"⟩
abbrev cX12_file : ByteArray := prog_14_method_74_code
def yX12_file : MethodName := ⟨RX12, "file", "(IIIIZ)I"⟩
abbrev cX12_divert : ByteArray := prog_14_method_75_code
def yX12_divert : MethodName := ⟨RX12, "divert", "(III)I"⟩
abbrev cX12_placeOf : ByteArray := prog_14_method_76_code
def yX12_placeOf : MethodName := ⟨RX12, "placeOf", "(II)I"⟩
abbrev cX12_laysFiles : ByteArray := prog_14_method_77_code
def yX12_laysFiles : MethodName := ⟨RX12, "laysFiles", "(I)I"⟩
abbrev cX12_goner : ByteArray := prog_14_method_78_code
def yX12_goner : MethodName := ⟨RX12, "goner", "()I"⟩
abbrev cX12_drops : ByteArray := prog_14_method_79_code
def yX12_drops : MethodName := ⟨RX12, "drops", "(I)V"⟩
abbrev cX12_fileComes : ByteArray := prog_14_method_80_code
def yX12_fileComes : MethodName := ⟨RX12, "fileComes", "(II)V"⟩
abbrev cX12_installs : ByteArray := prog_14_method_81_code
def yX12_installs : MethodName := ⟨RX12, "installs", "(I)V"⟩
abbrev cX12_install : ByteArray := prog_14_method_82_code
def yX12_install : MethodName := ⟨RX12, "install", "(II)I"⟩
abbrev cX12_steps : ByteArray := prog_14_method_83_code
def yX12_steps : MethodName := ⟨RX12, "steps", "()I"⟩
abbrev cX12_edit : ByteArray := prog_14_method_84_code
def yX12_edit : MethodName := ⟨RX12, "edit", "(II)I"⟩
abbrev cX12_path : ByteArray := prog_14_method_85_code
def yX12_path : MethodName := ⟨RX12, "path", "(II)I"⟩
abbrev cX12_installed : ByteArray := prog_14_method_86_code
def yX12_installed : MethodName := ⟨RX12, "installed", "(I)I"⟩
abbrev cX12_aside : ByteArray := prog_14_method_87_code
def yX12_aside : MethodName := ⟨RX12, "aside", "()I"⟩
abbrev cX12_placeKept : ByteArray := prog_14_method_88_code
def yX12_placeKept : MethodName := ⟨RX12, "placeKept", "(I)I"⟩
abbrev cX12_run : ByteArray := prog_14_method_89_code
def yX12_run : MethodName := ⟨RX12, "run", "(IZ)Z"⟩
abbrev cX12_rollback : ByteArray := prog_14_method_90_code
def yX12_rollback : MethodName := ⟨RX12, "rollback", "(I)I"⟩
abbrev cX12_collect : ByteArray := prog_14_method_91_code
def yX12_collect : MethodName := ⟨RX12, "collect", "()I"⟩
abbrev cX12_generation : ByteArray := prog_14_method_92_code
def yX12_generation : MethodName := ⟨RX12, "generation", "()I"⟩
abbrev cX12_generations : ByteArray := prog_14_method_93_code
def yX12_generations : MethodName := ⟨RX12, "generations", "()I"⟩
def RJ6 : String := "java/lang/Integer"
abbrev cJ6_compare_7cf53 : ByteArray := prog_19_method_40_code
def yJ6_compare_7cf53 : MethodName := ⟨RJ6, "compare", "(II)I"⟩
abbrev cJ6_bitCount_0f7a4 : ByteArray := prog_19_method_49_code
def yJ6_bitCount_0f7a4 : MethodName := ⟨RJ6, "bitCount", "(I)I"⟩
def RJ9 : String := "java/lang/Math"
abbrev cJ9_min_7cf53 : ByteArray := prog_20_method_69_code
def yJ9_min_7cf53 : MethodName := ⟨RJ9, "min", "(II)I"⟩
def RJ0 : String := "java/lang/String"
def RL : String := "PortsmithLaw"
abbrev cL_type : ByteArray := method_3_code
def yL_type : MethodName := ⟨RL, "type", "(LPortsmith;JI[J)I"⟩
abbrev cL_scheme : ByteArray := method_4_code
def yL_scheme : MethodName := ⟨RL, "scheme", "(LPortsmith;II[J)I"⟩
abbrev cL_version : ByteArray := method_5_code
def yL_version : MethodName := ⟨RL, "version", "(LPortsmith;IIIII[J)I"⟩
abbrev cL_need : ByteArray := method_6_code
def yL_need : MethodName := ⟨RL, "need", "(LPortsmith;IIIIII[J)I"⟩
abbrev cL_conflict : ByteArray := method_7_code
def yL_conflict : MethodName := ⟨RL, "conflict", "(LPortsmith;III[J)I"⟩
abbrev cL_provide : ByteArray := method_8_code
def yL_provide : MethodName := ⟨RL, "provide", "(LPortsmith;IIII[J)I"⟩
abbrev cL_yank : ByteArray := method_9_code
def yL_yank : MethodName := ⟨RL, "yank", "(LPortsmith;IIZ[J)I"⟩
abbrev cL_compare : ByteArray := method_10_code
def yL_compare : MethodName := ⟨RL, "compare", "(LPortsmith;III[J)I"⟩
abbrev cL_within : ByteArray := method_11_code
def yL_within : MethodName := ⟨RL, "within", "(LPortsmith;I[J)I"⟩
abbrev cL_wish : ByteArray := method_12_code
def yL_wish : MethodName := ⟨RL, "wish", "(LPortsmith;II[J)I"⟩
abbrev cL_policy : ByteArray := method_13_code
def yL_policy : MethodName := ⟨RL, "policy", "(LPortsmith;I[J)I"⟩
abbrev cL_solve : ByteArray := method_14_code
def yL_solve : MethodName := ⟨RL, "solve", "(LPortsmith;II[J)I"⟩
abbrev cL_proposed : ByteArray := method_15_code
def yL_proposed : MethodName := ⟨RL, "proposed", "(LPortsmith;II[J)I"⟩
abbrev cL_closures : ByteArray := method_16_code
def yL_closures : MethodName := ⟨RL, "closures", "(LPortsmith;I[J)I"⟩
abbrev cL_story : ByteArray := method_17_code
def yL_story : MethodName := ⟨RL, "story", "(LPortsmith;I[J)I"⟩
abbrev cL_lock : ByteArray := method_18_code
def yL_lock : MethodName := ⟨RL, "lock", "(LPortsmith;I[J)I"⟩
abbrev cL_locked : ByteArray := method_19_code
def yL_locked : MethodName := ⟨RL, "locked", "(LPortsmith;II[J)I"⟩
abbrev cL_holds : ByteArray := method_20_code
def yL_holds : MethodName := ⟨RL, "holds", "(LPortsmith;I[J)I"⟩
abbrev cL_advise : ByteArray := method_21_code
def yL_advise : MethodName := ⟨RL, "advise", "(LPortsmith;II[J)I"⟩
abbrev cL_advised : ByteArray := method_22_code
def yL_advised : MethodName := ⟨RL, "advised", "(LPortsmith;II[J)I"⟩
abbrev cL_pass : ByteArray := method_23_code
def yL_pass : MethodName := ⟨RL, "pass", "(LPortsmith;I[J)I"⟩
abbrev cL_role : ByteArray := method_24_code
def yL_role : MethodName := ⟨RL, "role", "(LPortsmith;III[J)I"⟩
abbrev cL_index : ByteArray := method_25_code
def yL_index : MethodName := ⟨RL, "index", "(LPortsmith;III[J)I"⟩
abbrev cL_mirror : ByteArray := method_26_code
def yL_mirror : MethodName := ⟨RL, "mirror", "(LPortsmith;IIII[J)I"⟩
abbrev cL_shut : ByteArray := method_27_code
def yL_shut : MethodName := ⟨RL, "shut", "(LPortsmith;IZ[J)I"⟩
abbrev cL_fetch : ByteArray := method_28_code
def yL_fetch : MethodName := ⟨RL, "fetch", "(LPortsmith;II[J)I"⟩
abbrev cL_lies : ByteArray := method_29_code
def yL_lies : MethodName := ⟨RL, "lies", "(LPortsmith;I[J)I"⟩
abbrev cL_file : ByteArray := method_30_code
def yL_file : MethodName := ⟨RL, "file", "(LPortsmith;IIIIZ[J)I"⟩
abbrev cL_divert : ByteArray := method_31_code
def yL_divert : MethodName := ⟨RL, "divert", "(LPortsmith;III[J)I"⟩
abbrev cL_install : ByteArray := method_32_code
def yL_install : MethodName := ⟨RL, "install", "(LPortsmith;II[J)I"⟩
abbrev cL_edit : ByteArray := method_33_code
def yL_edit : MethodName := ⟨RL, "edit", "(LPortsmith;II[J)I"⟩
abbrev cL_path : ByteArray := method_34_code
def yL_path : MethodName := ⟨RL, "path", "(LPortsmith;II[J)I"⟩
abbrev cL_installed : ByteArray := method_35_code
def yL_installed : MethodName := ⟨RL, "installed", "(LPortsmith;I[J)I"⟩
abbrev cL_run : ByteArray := method_36_code
def yL_run : MethodName := ⟨RL, "run", "(LPortsmith;IZ[J)I"⟩
abbrev cL_rollback : ByteArray := method_37_code
def yL_rollback : MethodName := ⟨RL, "rollback", "(LPortsmith;I[J)I"⟩
abbrev cL_law : ByteArray := code
def yL_law : MethodName := ⟨RL, "law", "([I)Z"⟩
abbrev vwCl : List vw_C := [(RX0, TX0, 3), (RX1, TX1, 3), (RX2, TX2, 10), (RX3, TX3, 4), (RX4, TX4, 6), (RX5, TX5, 3), (RX6, TX6, 2), (RX7, TX7, 18), (RX8, TX8, 4), (RX9, TX9, 4), (RX10, TX10, 18), (RX11, TX11, 18), (RX12, TX12, 65)]
