-- ===== PART A: goes FIRST, ahead of the names: the tables' words, and 'selects' of the private methods out of them =====
/-- a private method of a class that the tables say can be made, by its rows of tables_1 -/
def lw_okq (q : MethodName × Nat) : Prop := (q.1.cls ≠ "java/lang/invoke/MethodHandle" ∧ q.1.cls ≠ "java/lang/invoke/VarHandle") ∧ Cond.instantiable q.1.cls q.2 ∈ tables_1 ∧ Cond.privateMethod q.1 ∈ tables_1 ∧ Cond.instanceMethod q.1 ∈ tables_1
theorem lw_p0 : lw_okq (⟨"SlateHalves", "holding", "()LSlateHalves$Hill;"⟩, 15) := ⟨⟨by decide +kernel, by decide +kernel⟩, List.mem_of_getElem? (i := 24) (by decide +kernel), List.mem_of_getElem? (i := 405) (by decide +kernel), List.mem_of_getElem? (i := 406) (by decide +kernel)⟩
theorem lw_p1 : lw_okq (⟨"SlateHalves", "valueOf", "(LSlateHalves$Block;I)I"⟩, 15) := ⟨⟨by decide +kernel, by decide +kernel⟩, List.mem_of_getElem? (i := 24) (by decide +kernel), List.mem_of_getElem? (i := 429) (by decide +kernel), List.mem_of_getElem? (i := 430) (by decide +kernel)⟩
theorem lw_p2 : lw_okq (⟨"SlateHalves$Valuer", "fillBest", "(I)V"⟩, 7) := ⟨⟨by decide +kernel, by decide +kernel⟩, List.mem_of_getElem? (i := 231) (by decide +kernel), List.mem_of_getElem? (i := 463) (by decide +kernel), List.mem_of_getElem? (i := 464) (by decide +kernel)⟩
theorem lw_p3 : lw_okq (⟨"SlateHalves$Valuer", "cleanSum", "(II)I"⟩, 7) := ⟨⟨by decide +kernel, by decide +kernel⟩, List.mem_of_getElem? (i := 231) (by decide +kernel), List.mem_of_getElem? (i := 485) (by decide +kernel), List.mem_of_getElem? (i := 486) (by decide +kernel)⟩
theorem lw_p4 : lw_okq (⟨"SlateHalves$Valuer", "fewestBehind", "(I)I"⟩, 7) := ⟨⟨by decide +kernel, by decide +kernel⟩, List.mem_of_getElem? (i := 231) (by decide +kernel), List.mem_of_getElem? (i := 498) (by decide +kernel), List.mem_of_getElem? (i := 499) (by decide +kernel)⟩
theorem lw_p5 : lw_okq (⟨"SlateHalves$Valuer", "behind", "([III)I"⟩, 7) := ⟨⟨by decide +kernel, by decide +kernel⟩, List.mem_of_getElem? (i := 231) (by decide +kernel), List.mem_of_getElem? (i := 502) (by decide +kernel), List.mem_of_getElem? (i := 503) (by decide +kernel)⟩
theorem lw_p6 : lw_okq (⟨"SlateHalves", "isCleanBlow", "(LSlateHalves$Block;II)Z"⟩, 15) := ⟨⟨by decide +kernel, by decide +kernel⟩, List.mem_of_getElem? (i := 24) (by decide +kernel), List.mem_of_getElem? (i := 531) (by decide +kernel), List.mem_of_getElem? (i := 532) (by decide +kernel)⟩
theorem lw_p7 : lw_okq (⟨"SlateHalves", "worthIn", "(LSlateHalves$Yard;LSlateHalves$Block;)I"⟩, 15) := ⟨⟨by decide +kernel, by decide +kernel⟩, List.mem_of_getElem? (i := 24) (by decide +kernel), List.mem_of_getElem? (i := 563) (by decide +kernel), List.mem_of_getElem? (i := 564) (by decide +kernel)⟩
theorem lw_p8 : lw_okq (⟨"SlateHalves$HillReader", "takeClause", "()Z"⟩, 4) := ⟨⟨by decide +kernel, by decide +kernel⟩, List.mem_of_getElem? (i := 190) (by decide +kernel), List.mem_of_getElem? (i := 586) (by decide +kernel), List.mem_of_getElem? (i := 587) (by decide +kernel)⟩
theorem lw_p9 : lw_okq (⟨"SlateHalves$HillReader", "takeWord", "()I"⟩, 4) := ⟨⟨by decide +kernel, by decide +kernel⟩, List.mem_of_getElem? (i := 190) (by decide +kernel), List.mem_of_getElem? (i := 590) (by decide +kernel), List.mem_of_getElem? (i := 591) (by decide +kernel)⟩
theorem lw_p10 : lw_okq (⟨"SlateHalves$HillReader", "sameSigns", "(Ljava/lang/String;)I"⟩, 4) := ⟨⟨by decide +kernel, by decide +kernel⟩, List.mem_of_getElem? (i := 190) (by decide +kernel), List.mem_of_getElem? (i := 602) (by decide +kernel), List.mem_of_getElem? (i := 603) (by decide +kernel)⟩
theorem lw_p11 : lw_okq (⟨"SlateHalves$HillReader", "takeSign", "(I)Z"⟩, 4) := ⟨⟨by decide +kernel, by decide +kernel⟩, List.mem_of_getElem? (i := 190) (by decide +kernel), List.mem_of_getElem? (i := 655) (by decide +kernel), List.mem_of_getElem? (i := 656) (by decide +kernel)⟩
theorem lw_p12 : lw_okq (⟨"SlateHalves$HillReader", "sign", "()I"⟩, 4) := ⟨⟨by decide +kernel, by decide +kernel⟩, List.mem_of_getElem? (i := 190) (by decide +kernel), List.mem_of_getElem? (i := 659) (by decide +kernel), List.mem_of_getElem? (i := 660) (by decide +kernel)⟩
theorem lw_p13 : lw_okq (⟨"SlateHalves$HillReader", "takeNumber", "()I"⟩, 4) := ⟨⟨by decide +kernel, by decide +kernel⟩, List.mem_of_getElem? (i := 190) (by decide +kernel), List.mem_of_getElem? (i := 663) (by decide +kernel), List.mem_of_getElem? (i := 664) (by decide +kernel)⟩
theorem lw_p14 : lw_okq (⟨"SlateHalves$HillReader", "takeEither", "(I)Z"⟩, 4) := ⟨⟨by decide +kernel, by decide +kernel⟩, List.mem_of_getElem? (i := 190) (by decide +kernel), List.mem_of_getElem? (i := 668) (by decide +kernel), List.mem_of_getElem? (i := 669) (by decide +kernel)⟩
theorem lw_p15 : lw_okq (⟨"SlateHalves$HillReader", "takeBoth", "(I)Z"⟩, 4) := ⟨⟨by decide +kernel, by decide +kernel⟩, List.mem_of_getElem? (i := 190) (by decide +kernel), List.mem_of_getElem? (i := 672) (by decide +kernel), List.mem_of_getElem? (i := 673) (by decide +kernel)⟩
def lw_privs_1 : List (MethodName × Nat) := [(⟨"SlateHalves", "holding", "()LSlateHalves$Hill;"⟩, 15), (⟨"SlateHalves", "valueOf", "(LSlateHalves$Block;I)I"⟩, 15), (⟨"SlateHalves$Valuer", "fillBest", "(I)V"⟩, 7), (⟨"SlateHalves$Valuer", "cleanSum", "(II)I"⟩, 7), (⟨"SlateHalves$Valuer", "fewestBehind", "(I)I"⟩, 7), (⟨"SlateHalves$Valuer", "behind", "([III)I"⟩, 7), (⟨"SlateHalves", "isCleanBlow", "(LSlateHalves$Block;II)Z"⟩, 15), (⟨"SlateHalves", "worthIn", "(LSlateHalves$Yard;LSlateHalves$Block;)I"⟩, 15), (⟨"SlateHalves$HillReader", "takeClause", "()Z"⟩, 4), (⟨"SlateHalves$HillReader", "takeWord", "()I"⟩, 4), (⟨"SlateHalves$HillReader", "sameSigns", "(Ljava/lang/String;)I"⟩, 4), (⟨"SlateHalves$HillReader", "takeSign", "(I)Z"⟩, 4), (⟨"SlateHalves$HillReader", "sign", "()I"⟩, 4), (⟨"SlateHalves$HillReader", "takeNumber", "()I"⟩, 4), (⟨"SlateHalves$HillReader", "takeEither", "(I)Z"⟩, 4), (⟨"SlateHalves$HillReader", "takeBoth", "(I)Z"⟩, 4)]
theorem lw_r1 : ∀ q ∈ lw_privs_1, lw_okq q := List.forall_mem_cons.mpr ⟨lw_p0, List.forall_mem_cons.mpr ⟨lw_p1, List.forall_mem_cons.mpr ⟨lw_p2, List.forall_mem_cons.mpr ⟨lw_p3, List.forall_mem_cons.mpr ⟨lw_p4, List.forall_mem_cons.mpr ⟨lw_p5, List.forall_mem_cons.mpr ⟨lw_p6, List.forall_mem_cons.mpr ⟨lw_p7, List.forall_mem_cons.mpr ⟨lw_p8, List.forall_mem_cons.mpr ⟨lw_p9, List.forall_mem_cons.mpr ⟨lw_p10, List.forall_mem_cons.mpr ⟨lw_p11, List.forall_mem_cons.mpr ⟨lw_p12, List.forall_mem_cons.mpr ⟨lw_p13, List.forall_mem_cons.mpr ⟨lw_p14, List.forall_mem_cons.mpr ⟨lw_p15, fun _ h => absurd h List.not_mem_nil⟩⟩⟩⟩⟩⟩⟩⟩⟩⟩⟩⟩⟩⟩⟩⟩
theorem lw_p16 : lw_okq (⟨"SlateHalves$HillReader", "takePart", "(I)Z"⟩, 4) := ⟨⟨by decide +kernel, by decide +kernel⟩, List.mem_of_getElem? (i := 190) (by decide +kernel), List.mem_of_getElem? (i := 676) (by decide +kernel), List.mem_of_getElem? (i := 677) (by decide +kernel)⟩
theorem lw_p17 : lw_okq (⟨"SlateHalves$HillReader", "takeTest", "()Z"⟩, 4) := ⟨⟨by decide +kernel, by decide +kernel⟩, List.mem_of_getElem? (i := 190) (by decide +kernel), List.mem_of_getElem? (i := 680) (by decide +kernel), List.mem_of_getElem? (i := 681) (by decide +kernel)⟩
theorem lw_p18 : lw_okq (⟨"SlateHalves$HillReader", "takeOneOf", "(Ljava/lang/String;)I"⟩, 4) := ⟨⟨by decide +kernel, by decide +kernel⟩, List.mem_of_getElem? (i := 190) (by decide +kernel), List.mem_of_getElem? (i := 685) (by decide +kernel), List.mem_of_getElem? (i := 686) (by decide +kernel)⟩
theorem lw_p19 : lw_okq (⟨"SlateHalves", "bestOfAll", "(LSlateHalves$Yard;)I"⟩, 15) := ⟨⟨by decide +kernel, by decide +kernel⟩, List.mem_of_getElem? (i := 24) (by decide +kernel), List.mem_of_getElem? (i := 755) (by decide +kernel), List.mem_of_getElem? (i := 756) (by decide +kernel)⟩
theorem lw_p20 : lw_okq (⟨"SlateHalves", "bestIn", "(LSlateHalves$Yard;LSlateHalves$Block;)I"⟩, 15) := ⟨⟨by decide +kernel, by decide +kernel⟩, List.mem_of_getElem? (i := 24) (by decide +kernel), List.mem_of_getElem? (i := 759) (by decide +kernel), List.mem_of_getElem? (i := 760) (by decide +kernel)⟩
theorem lw_p21 : lw_okq (⟨"SlateHalves", "lookAhead", "(I)V"⟩, 15) := ⟨⟨by decide +kernel, by decide +kernel⟩, List.mem_of_getElem? (i := 24) (by decide +kernel), List.mem_of_getElem? (i := 778) (by decide +kernel), List.mem_of_getElem? (i := 779) (by decide +kernel)⟩
theorem lw_p22 : lw_okq (⟨"SlateHalves", "planOrder", "()V"⟩, 15) := ⟨⟨by decide +kernel, by decide +kernel⟩, List.mem_of_getElem? (i := 24) (by decide +kernel), List.mem_of_getElem? (i := 796) (by decide +kernel), List.mem_of_getElem? (i := 797) (by decide +kernel)⟩
theorem lw_p23 : lw_okq (⟨"SlateHalves$Planner", "mostOf", "(I)I"⟩, 5) := ⟨⟨by decide +kernel, by decide +kernel⟩, List.mem_of_getElem? (i := 261) (by decide +kernel), List.mem_of_getElem? (i := 812) (by decide +kernel), List.mem_of_getElem? (i := 813) (by decide +kernel)⟩
theorem lw_p24 : lw_okq (⟨"SlateHalves$Planner", "sumWith", "(II)I"⟩, 5) := ⟨⟨by decide +kernel, by decide +kernel⟩, List.mem_of_getElem? (i := 261) (by decide +kernel), List.mem_of_getElem? (i := 816) (by decide +kernel), List.mem_of_getElem? (i := 817) (by decide +kernel)⟩
theorem lw_p25 : lw_okq (⟨"SlateHalves$Planner", "firstOf", "(I)I"⟩, 5) := ⟨⟨by decide +kernel, by decide +kernel⟩, List.mem_of_getElem? (i := 261) (by decide +kernel), List.mem_of_getElem? (i := 822) (by decide +kernel), List.mem_of_getElem? (i := 823) (by decide +kernel)⟩
theorem lw_p26 : lw_okq (⟨"SlateHalves", "lossOf", "(LSlateHalves$Block;)I"⟩, 15) := ⟨⟨by decide +kernel, by decide +kernel⟩, List.mem_of_getElem? (i := 24) (by decide +kernel), List.mem_of_getElem? (i := 830) (by decide +kernel), List.mem_of_getElem? (i := 831) (by decide +kernel)⟩
theorem lw_p27 : lw_okq (⟨"SlateHalves", "fitting", "(IIIZ)I"⟩, 15) := ⟨⟨by decide +kernel, by decide +kernel⟩, List.mem_of_getElem? (i := 24) (by decide +kernel), List.mem_of_getElem? (i := 850) (by decide +kernel), List.mem_of_getElem? (i := 851) (by decide +kernel)⟩
theorem lw_p28 : lw_okq (⟨"SlateHalves", "isAllSeenSo", "()Z"⟩, 15) := ⟨⟨by decide +kernel, by decide +kernel⟩, List.mem_of_getElem? (i := 24) (by decide +kernel), List.mem_of_getElem? (i := 855) (by decide +kernel), List.mem_of_getElem? (i := 856) (by decide +kernel)⟩
theorem lw_p29 : lw_okq (⟨"SlateHalves", "goRow", "(ILSlateHalves$Block;)I"⟩, 15) := ⟨⟨by decide +kernel, by decide +kernel⟩, List.mem_of_getElem? (i := 24) (by decide +kernel), List.mem_of_getElem? (i := 883) (by decide +kernel), List.mem_of_getElem? (i := 884) (by decide +kernel)⟩
theorem lw_p30 : lw_okq (⟨"SlateHalves$Acts", "ringsFrom", "(II)I"⟩, 5) := ⟨⟨by decide +kernel, by decide +kernel⟩, List.mem_of_getElem? (i := 287) (by decide +kernel), List.mem_of_getElem? (i := 934) (by decide +kernel), List.mem_of_getElem? (i := 935) (by decide +kernel)⟩
theorem lw_p31 : lw_okq (⟨"SlateHalves$Acts", "begin", "(I)V"⟩, 5) := ⟨⟨by decide +kernel, by decide +kernel⟩, List.mem_of_getElem? (i := 287) (by decide +kernel), List.mem_of_getElem? (i := 938) (by decide +kernel), List.mem_of_getElem? (i := 939) (by decide +kernel)⟩
def lw_privs_2 : List (MethodName × Nat) := [(⟨"SlateHalves$HillReader", "takePart", "(I)Z"⟩, 4), (⟨"SlateHalves$HillReader", "takeTest", "()Z"⟩, 4), (⟨"SlateHalves$HillReader", "takeOneOf", "(Ljava/lang/String;)I"⟩, 4), (⟨"SlateHalves", "bestOfAll", "(LSlateHalves$Yard;)I"⟩, 15), (⟨"SlateHalves", "bestIn", "(LSlateHalves$Yard;LSlateHalves$Block;)I"⟩, 15), (⟨"SlateHalves", "lookAhead", "(I)V"⟩, 15), (⟨"SlateHalves", "planOrder", "()V"⟩, 15), (⟨"SlateHalves$Planner", "mostOf", "(I)I"⟩, 5), (⟨"SlateHalves$Planner", "sumWith", "(II)I"⟩, 5), (⟨"SlateHalves$Planner", "firstOf", "(I)I"⟩, 5), (⟨"SlateHalves", "lossOf", "(LSlateHalves$Block;)I"⟩, 15), (⟨"SlateHalves", "fitting", "(IIIZ)I"⟩, 15), (⟨"SlateHalves", "isAllSeenSo", "()Z"⟩, 15), (⟨"SlateHalves", "goRow", "(ILSlateHalves$Block;)I"⟩, 15), (⟨"SlateHalves$Acts", "ringsFrom", "(II)I"⟩, 5), (⟨"SlateHalves$Acts", "begin", "(I)V"⟩, 5)]
theorem lw_r2 : ∀ q ∈ lw_privs_2, lw_okq q := List.forall_mem_cons.mpr ⟨lw_p16, List.forall_mem_cons.mpr ⟨lw_p17, List.forall_mem_cons.mpr ⟨lw_p18, List.forall_mem_cons.mpr ⟨lw_p19, List.forall_mem_cons.mpr ⟨lw_p20, List.forall_mem_cons.mpr ⟨lw_p21, List.forall_mem_cons.mpr ⟨lw_p22, List.forall_mem_cons.mpr ⟨lw_p23, List.forall_mem_cons.mpr ⟨lw_p24, List.forall_mem_cons.mpr ⟨lw_p25, List.forall_mem_cons.mpr ⟨lw_p26, List.forall_mem_cons.mpr ⟨lw_p27, List.forall_mem_cons.mpr ⟨lw_p28, List.forall_mem_cons.mpr ⟨lw_p29, List.forall_mem_cons.mpr ⟨lw_p30, List.forall_mem_cons.mpr ⟨lw_p31, fun _ h => absurd h List.not_mem_nil⟩⟩⟩⟩⟩⟩⟩⟩⟩⟩⟩⟩⟩⟩⟩⟩
theorem lw_p32 : lw_okq (⟨"SlateHalves$Acts", "splitsFrom", "(II)I"⟩, 5) := ⟨⟨by decide +kernel, by decide +kernel⟩, List.mem_of_getElem? (i := 287) (by decide +kernel), List.mem_of_getElem? (i := 942) (by decide +kernel), List.mem_of_getElem? (i := 943) (by decide +kernel)⟩
theorem lw_p33 : lw_okq (⟨"SlateHalves$Acts", "tellsFrom", "(II)I"⟩, 5) := ⟨⟨by decide +kernel, by decide +kernel⟩, List.mem_of_getElem? (i := 287) (by decide +kernel), List.mem_of_getElem? (i := 946) (by decide +kernel), List.mem_of_getElem? (i := 947) (by decide +kernel)⟩
theorem lw_p34 : lw_okq (⟨"SlateHalvesModel", "in", "(III)Z"⟩, 75) := ⟨⟨by decide +kernel, by decide +kernel⟩, List.mem_of_getElem? (i := 996) (by decide +kernel), List.mem_of_getElem? (i := 1233) (by decide +kernel), List.mem_of_getElem? (i := 1234) (by decide +kernel)⟩
theorem lw_p35 : lw_okq (⟨"SlateHalvesModel", "isBlock", "(I)Z"⟩, 75) := ⟨⟨by decide +kernel, by decide +kernel⟩, List.mem_of_getElem? (i := 996) (by decide +kernel), List.mem_of_getElem? (i := 1241) (by decide +kernel), List.mem_of_getElem? (i := 1242) (by decide +kernel)⟩
theorem lw_p36 : lw_okq (⟨"SlateHalvesModel", "goesText", "(I)Z"⟩, 75) := ⟨⟨by decide +kernel, by decide +kernel⟩, List.mem_of_getElem? (i := 996) (by decide +kernel), List.mem_of_getElem? (i := 1257) (by decide +kernel), List.mem_of_getElem? (i := 1258) (by decide +kernel)⟩
theorem lw_p37 : lw_okq (⟨"SlateHalvesModel", "takesClause", "(I)Z"⟩, 75) := ⟨⟨by decide +kernel, by decide +kernel⟩, List.mem_of_getElem? (i := 996) (by decide +kernel), List.mem_of_getElem? (i := 1261) (by decide +kernel), List.mem_of_getElem? (i := 1262) (by decide +kernel)⟩
theorem lw_p38 : lw_okq (⟨"SlateHalvesModel", "takesHead", "(I)Z"⟩, 75) := ⟨⟨by decide +kernel, by decide +kernel⟩, List.mem_of_getElem? (i := 996) (by decide +kernel), List.mem_of_getElem? (i := 1265) (by decide +kernel), List.mem_of_getElem? (i := 1266) (by decide +kernel)⟩
theorem lw_p39 : lw_okq (⟨"SlateHalvesModel", "next", "()I"⟩, 75) := ⟨⟨by decide +kernel, by decide +kernel⟩, List.mem_of_getElem? (i := 996) (by decide +kernel), List.mem_of_getElem? (i := 1269) (by decide +kernel), List.mem_of_getElem? (i := 1270) (by decide +kernel)⟩
theorem lw_p40 : lw_okq (⟨"SlateHalvesModel", "takesWord", "(II)Z"⟩, 75) := ⟨⟨by decide +kernel, by decide +kernel⟩, List.mem_of_getElem? (i := 996) (by decide +kernel), List.mem_of_getElem? (i := 1273) (by decide +kernel), List.mem_of_getElem? (i := 1274) (by decide +kernel)⟩
theorem lw_p41 : lw_okq (⟨"SlateHalvesModel", "takes", "(I)Z"⟩, 75) := ⟨⟨by decide +kernel, by decide +kernel⟩, List.mem_of_getElem? (i := 996) (by decide +kernel), List.mem_of_getElem? (i := 1277) (by decide +kernel), List.mem_of_getElem? (i := 1278) (by decide +kernel)⟩
theorem lw_p42 : lw_okq (⟨"SlateHalvesModel", "takesNumber", "()Z"⟩, 75) := ⟨⟨by decide +kernel, by decide +kernel⟩, List.mem_of_getElem? (i := 996) (by decide +kernel), List.mem_of_getElem? (i := 1281) (by decide +kernel), List.mem_of_getElem? (i := 1282) (by decide +kernel)⟩
theorem lw_p43 : lw_okq (⟨"SlateHalvesModel", "isDigit", "()Z"⟩, 75) := ⟨⟨by decide +kernel, by decide +kernel⟩, List.mem_of_getElem? (i := 996) (by decide +kernel), List.mem_of_getElem? (i := 1285) (by decide +kernel), List.mem_of_getElem? (i := 1286) (by decide +kernel)⟩
theorem lw_p44 : lw_okq (⟨"SlateHalvesModel", "takesE", "(I)Z"⟩, 75) := ⟨⟨by decide +kernel, by decide +kernel⟩, List.mem_of_getElem? (i := 996) (by decide +kernel), List.mem_of_getElem? (i := 1289) (by decide +kernel), List.mem_of_getElem? (i := 1290) (by decide +kernel)⟩
theorem lw_p45 : lw_okq (⟨"SlateHalvesModel", "takesTest", "()Z"⟩, 75) := ⟨⟨by decide +kernel, by decide +kernel⟩, List.mem_of_getElem? (i := 996) (by decide +kernel), List.mem_of_getElem? (i := 1293) (by decide +kernel), List.mem_of_getElem? (i := 1294) (by decide +kernel)⟩
theorem lw_p46 : lw_okq (⟨"SlateHalvesModel", "place", "(I)I"⟩, 75) := ⟨⟨by decide +kernel, by decide +kernel⟩, List.mem_of_getElem? (i := 996) (by decide +kernel), List.mem_of_getElem? (i := 1297) (by decide +kernel), List.mem_of_getElem? (i := 1298) (by decide +kernel)⟩
theorem lw_p47 : lw_okq (⟨"SlateHalvesModel", "emits", "(I)V"⟩, 75) := ⟨⟨by decide +kernel, by decide +kernel⟩, List.mem_of_getElem? (i := 996) (by decide +kernel), List.mem_of_getElem? (i := 1301) (by decide +kernel), List.mem_of_getElem? (i := 1302) (by decide +kernel)⟩
def lw_privs_3 : List (MethodName × Nat) := [(⟨"SlateHalves$Acts", "splitsFrom", "(II)I"⟩, 5), (⟨"SlateHalves$Acts", "tellsFrom", "(II)I"⟩, 5), (⟨"SlateHalvesModel", "in", "(III)Z"⟩, 75), (⟨"SlateHalvesModel", "isBlock", "(I)Z"⟩, 75), (⟨"SlateHalvesModel", "goesText", "(I)Z"⟩, 75), (⟨"SlateHalvesModel", "takesClause", "(I)Z"⟩, 75), (⟨"SlateHalvesModel", "takesHead", "(I)Z"⟩, 75), (⟨"SlateHalvesModel", "next", "()I"⟩, 75), (⟨"SlateHalvesModel", "takesWord", "(II)Z"⟩, 75), (⟨"SlateHalvesModel", "takes", "(I)Z"⟩, 75), (⟨"SlateHalvesModel", "takesNumber", "()Z"⟩, 75), (⟨"SlateHalvesModel", "isDigit", "()Z"⟩, 75), (⟨"SlateHalvesModel", "takesE", "(I)Z"⟩, 75), (⟨"SlateHalvesModel", "takesTest", "()Z"⟩, 75), (⟨"SlateHalvesModel", "place", "(I)I"⟩, 75), (⟨"SlateHalvesModel", "emits", "(I)V"⟩, 75)]
theorem lw_r3 : ∀ q ∈ lw_privs_3, lw_okq q := List.forall_mem_cons.mpr ⟨lw_p32, List.forall_mem_cons.mpr ⟨lw_p33, List.forall_mem_cons.mpr ⟨lw_p34, List.forall_mem_cons.mpr ⟨lw_p35, List.forall_mem_cons.mpr ⟨lw_p36, List.forall_mem_cons.mpr ⟨lw_p37, List.forall_mem_cons.mpr ⟨lw_p38, List.forall_mem_cons.mpr ⟨lw_p39, List.forall_mem_cons.mpr ⟨lw_p40, List.forall_mem_cons.mpr ⟨lw_p41, List.forall_mem_cons.mpr ⟨lw_p42, List.forall_mem_cons.mpr ⟨lw_p43, List.forall_mem_cons.mpr ⟨lw_p44, List.forall_mem_cons.mpr ⟨lw_p45, List.forall_mem_cons.mpr ⟨lw_p46, List.forall_mem_cons.mpr ⟨lw_p47, fun _ h => absurd h List.not_mem_nil⟩⟩⟩⟩⟩⟩⟩⟩⟩⟩⟩⟩⟩⟩⟩⟩
theorem lw_p48 : lw_okq (⟨"SlateHalvesModel", "whole", "()V"⟩, 75) := ⟨⟨by decide +kernel, by decide +kernel⟩, List.mem_of_getElem? (i := 996) (by decide +kernel), List.mem_of_getElem? (i := 1305) (by decide +kernel), List.mem_of_getElem? (i := 1306) (by decide +kernel)⟩
theorem lw_p49 : lw_okq (⟨"SlateHalvesModel", "settle", "(I)V"⟩, 75) := ⟨⟨by decide +kernel, by decide +kernel⟩, List.mem_of_getElem? (i := 996) (by decide +kernel), List.mem_of_getElem? (i := 1309) (by decide +kernel), List.mem_of_getElem? (i := 1310) (by decide +kernel)⟩
theorem lw_p50 : lw_okq (⟨"SlateHalvesModel", "price", "(I)I"⟩, 75) := ⟨⟨by decide +kernel, by decide +kernel⟩, List.mem_of_getElem? (i := 996) (by decide +kernel), List.mem_of_getElem? (i := 1317) (by decide +kernel), List.mem_of_getElem? (i := 1318) (by decide +kernel)⟩
theorem lw_p51 : lw_okq (⟨"SlateHalvesModel", "begin", "()I"⟩, 75) := ⟨⟨by decide +kernel, by decide +kernel⟩, List.mem_of_getElem? (i := 996) (by decide +kernel), List.mem_of_getElem? (i := 1321) (by decide +kernel), List.mem_of_getElem? (i := 1322) (by decide +kernel)⟩
theorem lw_p52 : lw_okq (⟨"SlateHalvesModel", "behind", "()I"⟩, 75) := ⟨⟨by decide +kernel, by decide +kernel⟩, List.mem_of_getElem? (i := 996) (by decide +kernel), List.mem_of_getElem? (i := 1325) (by decide +kernel), List.mem_of_getElem? (i := 1326) (by decide +kernel)⟩
theorem lw_p53 : lw_okq (⟨"SlateHalvesModel", "holds", "(II)Z"⟩, 75) := ⟨⟨by decide +kernel, by decide +kernel⟩, List.mem_of_getElem? (i := 996) (by decide +kernel), List.mem_of_getElem? (i := 1329) (by decide +kernel), List.mem_of_getElem? (i := 1330) (by decide +kernel)⟩
theorem lw_p54 : lw_okq (⟨"SlateHalvesModel", "factOf", "(II)I"⟩, 75) := ⟨⟨by decide +kernel, by decide +kernel⟩, List.mem_of_getElem? (i := 996) (by decide +kernel), List.mem_of_getElem? (i := 1333) (by decide +kernel), List.mem_of_getElem? (i := 1334) (by decide +kernel)⟩
theorem lw_p55 : lw_okq (⟨"SlateHalvesModel", "least0", "(I)I"⟩, 75) := ⟨⟨by decide +kernel, by decide +kernel⟩, List.mem_of_getElem? (i := 996) (by decide +kernel), List.mem_of_getElem? (i := 1337) (by decide +kernel), List.mem_of_getElem? (i := 1338) (by decide +kernel)⟩
theorem lw_p56 : lw_okq (⟨"SlateHalvesModel", "grip", "(I)I"⟩, 75) := ⟨⟨by decide +kernel, by decide +kernel⟩, List.mem_of_getElem? (i := 996) (by decide +kernel), List.mem_of_getElem? (i := 1341) (by decide +kernel), List.mem_of_getElem? (i := 1342) (by decide +kernel)⟩
theorem lw_p57 : lw_okq (⟨"SlateHalvesModel", "dries", "(I)I"⟩, 75) := ⟨⟨by decide +kernel, by decide +kernel⟩, List.mem_of_getElem? (i := 996) (by decide +kernel), List.mem_of_getElem? (i := 1345) (by decide +kernel), List.mem_of_getElem? (i := 1346) (by decide +kernel)⟩
theorem lw_p58 : lw_okq (⟨"SlateHalvesModel", "lastOf", "(II)I"⟩, 75) := ⟨⟨by decide +kernel, by decide +kernel⟩, List.mem_of_getElem? (i := 996) (by decide +kernel), List.mem_of_getElem? (i := 1349) (by decide +kernel), List.mem_of_getElem? (i := 1350) (by decide +kernel)⟩
theorem lw_p59 : lw_okq (⟨"SlateHalvesModel", "worthOf", "(II)I"⟩, 75) := ⟨⟨by decide +kernel, by decide +kernel⟩, List.mem_of_getElem? (i := 996) (by decide +kernel), List.mem_of_getElem? (i := 1353) (by decide +kernel), List.mem_of_getElem? (i := 1354) (by decide +kernel)⟩
theorem lw_p60 : lw_okq (⟨"SlateHalvesModel", "thin", "()I"⟩, 75) := ⟨⟨by decide +kernel, by decide +kernel⟩, List.mem_of_getElem? (i := 996) (by decide +kernel), List.mem_of_getElem? (i := 1357) (by decide +kernel), List.mem_of_getElem? (i := 1358) (by decide +kernel)⟩
theorem lw_p61 : lw_okq (⟨"SlateHalvesModel", "greater", "(II)I"⟩, 75) := ⟨⟨by decide +kernel, by decide +kernel⟩, List.mem_of_getElem? (i := 996) (by decide +kernel), List.mem_of_getElem? (i := 1361) (by decide +kernel), List.mem_of_getElem? (i := 1362) (by decide +kernel)⟩
theorem lw_p62 : lw_okq (⟨"SlateHalvesModel", "most", "()I"⟩, 75) := ⟨⟨by decide +kernel, by decide +kernel⟩, List.mem_of_getElem? (i := 996) (by decide +kernel), List.mem_of_getElem? (i := 1365) (by decide +kernel), List.mem_of_getElem? (i := 1366) (by decide +kernel)⟩
theorem lw_p63 : lw_okq (⟨"SlateHalvesModel", "laid", "(II)I"⟩, 75) := ⟨⟨by decide +kernel, by decide +kernel⟩, List.mem_of_getElem? (i := 996) (by decide +kernel), List.mem_of_getElem? (i := 1369) (by decide +kernel), List.mem_of_getElem? (i := 1370) (by decide +kernel)⟩
def lw_privs_4 : List (MethodName × Nat) := [(⟨"SlateHalvesModel", "whole", "()V"⟩, 75), (⟨"SlateHalvesModel", "settle", "(I)V"⟩, 75), (⟨"SlateHalvesModel", "price", "(I)I"⟩, 75), (⟨"SlateHalvesModel", "begin", "()I"⟩, 75), (⟨"SlateHalvesModel", "behind", "()I"⟩, 75), (⟨"SlateHalvesModel", "holds", "(II)Z"⟩, 75), (⟨"SlateHalvesModel", "factOf", "(II)I"⟩, 75), (⟨"SlateHalvesModel", "least0", "(I)I"⟩, 75), (⟨"SlateHalvesModel", "grip", "(I)I"⟩, 75), (⟨"SlateHalvesModel", "dries", "(I)I"⟩, 75), (⟨"SlateHalvesModel", "lastOf", "(II)I"⟩, 75), (⟨"SlateHalvesModel", "worthOf", "(II)I"⟩, 75), (⟨"SlateHalvesModel", "thin", "()I"⟩, 75), (⟨"SlateHalvesModel", "greater", "(II)I"⟩, 75), (⟨"SlateHalvesModel", "most", "()I"⟩, 75), (⟨"SlateHalvesModel", "laid", "(II)I"⟩, 75)]
theorem lw_r4 : ∀ q ∈ lw_privs_4, lw_okq q := List.forall_mem_cons.mpr ⟨lw_p48, List.forall_mem_cons.mpr ⟨lw_p49, List.forall_mem_cons.mpr ⟨lw_p50, List.forall_mem_cons.mpr ⟨lw_p51, List.forall_mem_cons.mpr ⟨lw_p52, List.forall_mem_cons.mpr ⟨lw_p53, List.forall_mem_cons.mpr ⟨lw_p54, List.forall_mem_cons.mpr ⟨lw_p55, List.forall_mem_cons.mpr ⟨lw_p56, List.forall_mem_cons.mpr ⟨lw_p57, List.forall_mem_cons.mpr ⟨lw_p58, List.forall_mem_cons.mpr ⟨lw_p59, List.forall_mem_cons.mpr ⟨lw_p60, List.forall_mem_cons.mpr ⟨lw_p61, List.forall_mem_cons.mpr ⟨lw_p62, List.forall_mem_cons.mpr ⟨lw_p63, fun _ h => absurd h List.not_mem_nil⟩⟩⟩⟩⟩⟩⟩⟩⟩⟩⟩⟩⟩⟩⟩⟩
theorem lw_p64 : lw_okq (⟨"SlateHalvesModel", "lay", "(I)V"⟩, 75) := ⟨⟨by decide +kernel, by decide +kernel⟩, List.mem_of_getElem? (i := 996) (by decide +kernel), List.mem_of_getElem? (i := 1373) (by decide +kernel), List.mem_of_getElem? (i := 1374) (by decide +kernel)⟩
theorem lw_p65 : lw_okq (⟨"SlateHalvesModel", "isClean", "(III)Z"⟩, 75) := ⟨⟨by decide +kernel, by decide +kernel⟩, List.mem_of_getElem? (i := 996) (by decide +kernel), List.mem_of_getElem? (i := 1377) (by decide +kernel), List.mem_of_getElem? (i := 1378) (by decide +kernel)⟩
theorem lw_p66 : lw_okq (⟨"SlateHalvesModel", "isNear", "(III)Z"⟩, 75) := ⟨⟨by decide +kernel, by decide +kernel⟩, List.mem_of_getElem? (i := 996) (by decide +kernel), List.mem_of_getElem? (i := 1381) (by decide +kernel), List.mem_of_getElem? (i := 1382) (by decide +kernel)⟩
theorem lw_p67 : lw_okq (⟨"SlateHalvesModel", "layBlow", "(III)V"⟩, 75) := ⟨⟨by decide +kernel, by decide +kernel⟩, List.mem_of_getElem? (i := 996) (by decide +kernel), List.mem_of_getElem? (i := 1385) (by decide +kernel), List.mem_of_getElem? (i := 1386) (by decide +kernel)⟩
theorem lw_p68 : lw_okq (⟨"SlateHalvesModel", "blow", "(I)I"⟩, 75) := ⟨⟨by decide +kernel, by decide +kernel⟩, List.mem_of_getElem? (i := 996) (by decide +kernel), List.mem_of_getElem? (i := 1389) (by decide +kernel), List.mem_of_getElem? (i := 1390) (by decide +kernel)⟩
theorem lw_p69 : lw_okq (⟨"SlateHalvesModel", "allBest", "()I"⟩, 75) := ⟨⟨by decide +kernel, by decide +kernel⟩, List.mem_of_getElem? (i := 996) (by decide +kernel), List.mem_of_getElem? (i := 1397) (by decide +kernel), List.mem_of_getElem? (i := 1398) (by decide +kernel)⟩
theorem lw_p70 : lw_okq (⟨"SlateHalvesModel", "best", "(I)I"⟩, 75) := ⟨⟨by decide +kernel, by decide +kernel⟩, List.mem_of_getElem? (i := 996) (by decide +kernel), List.mem_of_getElem? (i := 1401) (by decide +kernel), List.mem_of_getElem? (i := 1402) (by decide +kernel)⟩
theorem lw_p71 : lw_okq (⟨"SlateHalvesModel", "isDays", "(I)Z"⟩, 75) := ⟨⟨by decide +kernel, by decide +kernel⟩, List.mem_of_getElem? (i := 996) (by decide +kernel), List.mem_of_getElem? (i := 1422) (by decide +kernel), List.mem_of_getElem? (i := 1423) (by decide +kernel)⟩
theorem lw_p72 : lw_okq (⟨"SlateHalvesModel", "goDays", "(I)V"⟩, 75) := ⟨⟨by decide +kernel, by decide +kernel⟩, List.mem_of_getElem? (i := 996) (by decide +kernel), List.mem_of_getElem? (i := 1426) (by decide +kernel), List.mem_of_getElem? (i := 1427) (by decide +kernel)⟩
theorem lw_p73 : lw_okq (⟨"SlateHalvesModel", "goDay", "()V"⟩, 75) := ⟨⟨by decide +kernel, by decide +kernel⟩, List.mem_of_getElem? (i := 996) (by decide +kernel), List.mem_of_getElem? (i := 1430) (by decide +kernel), List.mem_of_getElem? (i := 1431) (by decide +kernel)⟩
theorem lw_p74 : lw_okq (⟨"SlateHalvesModel", "save", "()V"⟩, 75) := ⟨⟨by decide +kernel, by decide +kernel⟩, List.mem_of_getElem? (i := 996) (by decide +kernel), List.mem_of_getElem? (i := 1438) (by decide +kernel), List.mem_of_getElem? (i := 1439) (by decide +kernel)⟩
theorem lw_p75 : lw_okq (⟨"SlateHalvesModel", "putBack", "()V"⟩, 75) := ⟨⟨by decide +kernel, by decide +kernel⟩, List.mem_of_getElem? (i := 996) (by decide +kernel), List.mem_of_getElem? (i := 1442) (by decide +kernel), List.mem_of_getElem? (i := 1443) (by decide +kernel)⟩
theorem lw_p76 : lw_okq (⟨"SlateHalvesModel", "layThen", "()V"⟩, 75) := ⟨⟨by decide +kernel, by decide +kernel⟩, List.mem_of_getElem? (i := 996) (by decide +kernel), List.mem_of_getElem? (i := 1455) (by decide +kernel), List.mem_of_getElem? (i := 1456) (by decide +kernel)⟩
theorem lw_p77 : lw_okq (⟨"SlateHalvesModel", "layTurn", "(I)Z"⟩, 75) := ⟨⟨by decide +kernel, by decide +kernel⟩, List.mem_of_getElem? (i := 996) (by decide +kernel), List.mem_of_getElem? (i := 1459) (by decide +kernel), List.mem_of_getElem? (i := 1460) (by decide +kernel)⟩
theorem lw_p78 : lw_okq (⟨"SlateHalvesModel", "has", "(II)Z"⟩, 75) := ⟨⟨by decide +kernel, by decide +kernel⟩, List.mem_of_getElem? (i := 996) (by decide +kernel), List.mem_of_getElem? (i := 1463) (by decide +kernel), List.mem_of_getElem? (i := 1464) (by decide +kernel)⟩
theorem lw_p79 : lw_okq (⟨"SlateHalvesModel", "isSeen", "(I)Z"⟩, 75) := ⟨⟨by decide +kernel, by decide +kernel⟩, List.mem_of_getElem? (i := 996) (by decide +kernel), List.mem_of_getElem? (i := 1485) (by decide +kernel), List.mem_of_getElem? (i := 1486) (by decide +kernel)⟩
def lw_privs_5 : List (MethodName × Nat) := [(⟨"SlateHalvesModel", "lay", "(I)V"⟩, 75), (⟨"SlateHalvesModel", "isClean", "(III)Z"⟩, 75), (⟨"SlateHalvesModel", "isNear", "(III)Z"⟩, 75), (⟨"SlateHalvesModel", "layBlow", "(III)V"⟩, 75), (⟨"SlateHalvesModel", "blow", "(I)I"⟩, 75), (⟨"SlateHalvesModel", "allBest", "()I"⟩, 75), (⟨"SlateHalvesModel", "best", "(I)I"⟩, 75), (⟨"SlateHalvesModel", "isDays", "(I)Z"⟩, 75), (⟨"SlateHalvesModel", "goDays", "(I)V"⟩, 75), (⟨"SlateHalvesModel", "goDay", "()V"⟩, 75), (⟨"SlateHalvesModel", "save", "()V"⟩, 75), (⟨"SlateHalvesModel", "putBack", "()V"⟩, 75), (⟨"SlateHalvesModel", "layThen", "()V"⟩, 75), (⟨"SlateHalvesModel", "layTurn", "(I)Z"⟩, 75), (⟨"SlateHalvesModel", "has", "(II)Z"⟩, 75), (⟨"SlateHalvesModel", "isSeen", "(I)Z"⟩, 75)]
theorem lw_r5 : ∀ q ∈ lw_privs_5, lw_okq q := List.forall_mem_cons.mpr ⟨lw_p64, List.forall_mem_cons.mpr ⟨lw_p65, List.forall_mem_cons.mpr ⟨lw_p66, List.forall_mem_cons.mpr ⟨lw_p67, List.forall_mem_cons.mpr ⟨lw_p68, List.forall_mem_cons.mpr ⟨lw_p69, List.forall_mem_cons.mpr ⟨lw_p70, List.forall_mem_cons.mpr ⟨lw_p71, List.forall_mem_cons.mpr ⟨lw_p72, List.forall_mem_cons.mpr ⟨lw_p73, List.forall_mem_cons.mpr ⟨lw_p74, List.forall_mem_cons.mpr ⟨lw_p75, List.forall_mem_cons.mpr ⟨lw_p76, List.forall_mem_cons.mpr ⟨lw_p77, List.forall_mem_cons.mpr ⟨lw_p78, List.forall_mem_cons.mpr ⟨lw_p79, fun _ h => absurd h List.not_mem_nil⟩⟩⟩⟩⟩⟩⟩⟩⟩⟩⟩⟩⟩⟩⟩⟩
theorem lw_p80 : lw_okq (⟨"SlateHalvesModel", "lowest", "(III)J"⟩, 75) := ⟨⟨by decide +kernel, by decide +kernel⟩, List.mem_of_getElem? (i := 996) (by decide +kernel), List.mem_of_getElem? (i := 1498) (by decide +kernel), List.mem_of_getElem? (i := 1499) (by decide +kernel)⟩
theorem lw_p81 : lw_okq (⟨"SlateHalvesModel", "divisor", "(II)I"⟩, 75) := ⟨⟨by decide +kernel, by decide +kernel⟩, List.mem_of_getElem? (i := 996) (by decide +kernel), List.mem_of_getElem? (i := 1502) (by decide +kernel), List.mem_of_getElem? (i := 1503) (by decide +kernel)⟩
theorem lw_p82 : lw_okq (⟨"SlateHalvesModel", "isTape", "(I)Z"⟩, 75) := ⟨⟨by decide +kernel, by decide +kernel⟩, List.mem_of_getElem? (i := 996) (by decide +kernel), List.mem_of_getElem? (i := 1530) (by decide +kernel), List.mem_of_getElem? (i := 1531) (by decide +kernel)⟩
theorem lw_p83 : lw_okq (⟨"SlateHalvesModel", "ringsAct", "(II)I"⟩, 75) := ⟨⟨by decide +kernel, by decide +kernel⟩, List.mem_of_getElem? (i := 996) (by decide +kernel), List.mem_of_getElem? (i := 1546) (by decide +kernel), List.mem_of_getElem? (i := 1547) (by decide +kernel)⟩
theorem lw_p84 : lw_okq (⟨"SlateHalvesModel", "body", "(I)V"⟩, 75) := ⟨⟨by decide +kernel, by decide +kernel⟩, List.mem_of_getElem? (i := 996) (by decide +kernel), List.mem_of_getElem? (i := 1550) (by decide +kernel), List.mem_of_getElem? (i := 1551) (by decide +kernel)⟩
theorem lw_p85 : lw_okq (⟨"SlateHalvesModel", "blockRings", "(II)I"⟩, 75) := ⟨⟨by decide +kernel, by decide +kernel⟩, List.mem_of_getElem? (i := 996) (by decide +kernel), List.mem_of_getElem? (i := 1554) (by decide +kernel), List.mem_of_getElem? (i := 1555) (by decide +kernel)⟩
theorem lw_p86 : lw_okq (⟨"SlateHalvesModel", "splitsAct", "(II)I"⟩, 75) := ⟨⟨by decide +kernel, by decide +kernel⟩, List.mem_of_getElem? (i := 996) (by decide +kernel), List.mem_of_getElem? (i := 1558) (by decide +kernel), List.mem_of_getElem? (i := 1559) (by decide +kernel)⟩
theorem lw_p87 : lw_okq (⟨"SlateHalvesModel", "fineSplits", "(II)I"⟩, 75) := ⟨⟨by decide +kernel, by decide +kernel⟩, List.mem_of_getElem? (i := 996) (by decide +kernel), List.mem_of_getElem? (i := 1562) (by decide +kernel), List.mem_of_getElem? (i := 1563) (by decide +kernel)⟩
theorem lw_p88 : lw_okq (⟨"SlateHalvesModel", "blockSplits", "(II)I"⟩, 75) := ⟨⟨by decide +kernel, by decide +kernel⟩, List.mem_of_getElem? (i := 996) (by decide +kernel), List.mem_of_getElem? (i := 1566) (by decide +kernel), List.mem_of_getElem? (i := 1567) (by decide +kernel)⟩
theorem lw_p89 : lw_okq (⟨"SlateHalvesModel", "tellsAct", "(II)I"⟩, 75) := ⟨⟨by decide +kernel, by decide +kernel⟩, List.mem_of_getElem? (i := 996) (by decide +kernel), List.mem_of_getElem? (i := 1570) (by decide +kernel), List.mem_of_getElem? (i := 1571) (by decide +kernel)⟩
theorem lw_p90 : lw_okq (⟨"SlateHalvesModel", "blockTells", "(II)I"⟩, 75) := ⟨⟨by decide +kernel, by decide +kernel⟩, List.mem_of_getElem? (i := 996) (by decide +kernel), List.mem_of_getElem? (i := 1574) (by decide +kernel), List.mem_of_getElem? (i := 1575) (by decide +kernel)⟩
theorem lw_p91 : lw_okq (⟨"SlateHalvesModel", "narrow", "(IJ)J"⟩, 75) := ⟨⟨by decide +kernel, by decide +kernel⟩, List.mem_of_getElem? (i := 996) (by decide +kernel), List.mem_of_getElem? (i := 1598) (by decide +kernel), List.mem_of_getElem? (i := 1599) (by decide +kernel)⟩
def lw_privs_6 : List (MethodName × Nat) := [(⟨"SlateHalvesModel", "lowest", "(III)J"⟩, 75), (⟨"SlateHalvesModel", "divisor", "(II)I"⟩, 75), (⟨"SlateHalvesModel", "isTape", "(I)Z"⟩, 75), (⟨"SlateHalvesModel", "ringsAct", "(II)I"⟩, 75), (⟨"SlateHalvesModel", "body", "(I)V"⟩, 75), (⟨"SlateHalvesModel", "blockRings", "(II)I"⟩, 75), (⟨"SlateHalvesModel", "splitsAct", "(II)I"⟩, 75), (⟨"SlateHalvesModel", "fineSplits", "(II)I"⟩, 75), (⟨"SlateHalvesModel", "blockSplits", "(II)I"⟩, 75), (⟨"SlateHalvesModel", "tellsAct", "(II)I"⟩, 75), (⟨"SlateHalvesModel", "blockTells", "(II)I"⟩, 75), (⟨"SlateHalvesModel", "narrow", "(IJ)J"⟩, 75)]
theorem lw_r6 : ∀ q ∈ lw_privs_6, lw_okq q := List.forall_mem_cons.mpr ⟨lw_p80, List.forall_mem_cons.mpr ⟨lw_p81, List.forall_mem_cons.mpr ⟨lw_p82, List.forall_mem_cons.mpr ⟨lw_p83, List.forall_mem_cons.mpr ⟨lw_p84, List.forall_mem_cons.mpr ⟨lw_p85, List.forall_mem_cons.mpr ⟨lw_p86, List.forall_mem_cons.mpr ⟨lw_p87, List.forall_mem_cons.mpr ⟨lw_p88, List.forall_mem_cons.mpr ⟨lw_p89, List.forall_mem_cons.mpr ⟨lw_p90, List.forall_mem_cons.mpr ⟨lw_p91, fun _ h => absurd h List.not_mem_nil⟩⟩⟩⟩⟩⟩⟩⟩⟩⟩⟩⟩
def lw_privs : List (MethodName × Nat) := lw_privs_1 ++ (lw_privs_2 ++ (lw_privs_3 ++ (lw_privs_4 ++ (lw_privs_5 ++ (lw_privs_6)))))
def lw_tbl : List Cond := k2_sels lw_privs ++ tables_1
theorem lw_privs_ok : ∀ q ∈ lw_privs, lw_okq q := by
  show ∀ q ∈ lw_privs_1 ++ (lw_privs_2 ++ (lw_privs_3 ++ (lw_privs_4 ++ (lw_privs_5 ++ (lw_privs_6))))), lw_okq q
  exact List.forall_mem_append.mpr ⟨lw_r1, List.forall_mem_append.mpr ⟨lw_r2, List.forall_mem_append.mpr ⟨lw_r3, List.forall_mem_append.mpr ⟨lw_r4, List.forall_mem_append.mpr ⟨lw_r5, lw_r6⟩⟩⟩⟩⟩
/-! classes: names, fields, types (starting text: claim/NAMES.whole.lean.txt) -/
def RX0 : String := "SlateHalves$Acts"
def TX0 : u_T := fun k => match k with
  | 0 => ("SlateHalves$Acts", "bodies", "[I", true)
  | 1 => ("SlateHalves$Acts", "ran", "I", false)
  | 2 => ("SlateHalves$Acts", "kind", "I", false)
  | 3 => ("SlateHalves$Acts", "v", "I", false)
  | _ => ("SlateHalves$Acts", "number", "I", false)
def tyX0 : Nat → FieldType := fun k => match k with
  | 0 => .array .int
  | 1 => .int
  | 2 => .int
  | 3 => .int
  | _ => .int
theorem nmX0 : ∀ a, a < 5 → ∀ b, b < 5 → a ≠ b → (TX0 a).2.1 ≠ (TX0 b).2.1 := by decide +kernel
theorem tyX0_ok : ∀ k, k < 5 → parseFieldDescriptor (TX0 k).2.2.1 = some (tyX0 k) := by decide +kernel
def RX1 : String := "SlateHalves$Block"
def TX1 : u_T := fun k => match k with
  | 0 => ("SlateHalves$Block", "number", "I", true)
  | 1 => ("SlateHalves$Block", "kind", "I", false)
  | 2 => ("SlateHalves$Block", "v", "I", false)
  | 3 => ("SlateHalves$Block", "thick", "I", false)
  | 4 => ("SlateHalves$Block", "dry", "I", false)
  | 5 => ("SlateHalves$Block", "split", "I", false)
  | _ => ("SlateHalves$Block", "row", "[I", true)
def tyX1 : Nat → FieldType := fun k => match k with
  | 0 => .int
  | 1 => .int
  | 2 => .int
  | 3 => .int
  | 4 => .int
  | 5 => .int
  | _ => .array .int
theorem nmX1 : ∀ a, a < 7 → ∀ b, b < 7 → a ≠ b → (TX1 a).2.1 ≠ (TX1 b).2.1 := by decide +kernel
theorem tyX1_ok : ∀ k, k < 7 → parseFieldDescriptor (TX1 k).2.2.1 = some (tyX1 k) := by decide +kernel
def RX2 : String := "SlateHalves$Blows"
def TX2 : u_T := fun k => match k with
  | 0 => ("SlateHalves$Blows", "kind", "I", false)
  | 1 => ("SlateHalves$Blows", "grip", "I", false)
  | 2 => ("SlateHalves$Blows", "lean", "I", false)
  | _ => ("SlateHalves$Blows", "mark", "I", false)
def tyX2 : Nat → FieldType := fun k => match k with
  | 0 => .int
  | 1 => .int
  | 2 => .int
  | _ => .int
theorem nmX2 : ∀ a, a < 4 → ∀ b, b < 4 → a ≠ b → (TX2 a).2.1 ≠ (TX2 b).2.1 := by decide +kernel
theorem tyX2_ok : ∀ k, k < 4 → parseFieldDescriptor (TX2 k).2.2.1 = some (tyX2 k) := by decide +kernel
def RX3 : String := "SlateHalves$Hill"
def TX3 : u_T := fun k => match k with
  | 0 => ("SlateHalves$Hill", "steps", "[I", true)
  | 1 => ("SlateHalves$Hill", "stepCount", "I", false)
  | 2 => ("SlateHalves$Hill", "thin", "I", false)
  | 3 => ("SlateHalves$Hill", "thick", "I", false)
  | _ => ("SlateHalves$Hill", "wind", "I", false)
def tyX3 : Nat → FieldType := fun k => match k with
  | 0 => .array .int
  | 1 => .int
  | 2 => .int
  | 3 => .int
  | _ => .int
theorem nmX3 : ∀ a, a < 5 → ∀ b, b < 5 → a ≠ b → (TX3 a).2.1 ≠ (TX3 b).2.1 := by decide +kernel
theorem tyX3_ok : ∀ k, k < 5 → parseFieldDescriptor (TX3 k).2.2.1 = some (tyX3 k) := by decide +kernel
def RX4 : String := "SlateHalves$HillReader"
def TX4 : u_T := fun k => match k with
  | 0 => ("SlateHalves$HillReader", "text", "[B", false)
  | 1 => ("SlateHalves$HillReader", "length", "I", false)
  | 2 => ("SlateHalves$HillReader", "place", "I", false)
  | _ => ("SlateHalves$HillReader", "hill", "LSlateHalves$Hill;", false)
def tyX4 : Nat → FieldType := fun k => match k with
  | 0 => .array .byte
  | 1 => .int
  | 2 => .int
  | _ => .object "SlateHalves$Hill"
theorem nmX4 : ∀ a, a < 4 → ∀ b, b < 4 → a ≠ b → (TX4 a).2.1 ≠ (TX4 b).2.1 := by decide +kernel
theorem tyX4_ok : ∀ k, k < 4 → parseFieldDescriptor (TX4 k).2.2.1 = some (tyX4 k) := by decide +kernel
def RX5 : String := "SlateHalves$Planner"
def TX5 : u_T := fun k => match k with
  | 0 => ("SlateHalves$Planner", "worths", "[I", true)
  | 1 => ("SlateHalves$Planner", "placed", "[I", true)
  | 2 => ("SlateHalves$Planner", "length", "I", false)
  | 3 => ("SlateHalves$Planner", "total", "I", false)
  | _ => ("SlateHalves$Planner", "most", "[I", true)
def tyX5 : Nat → FieldType := fun k => match k with
  | 0 => .array .int
  | 1 => .array .int
  | 2 => .int
  | 3 => .int
  | _ => .array .int
theorem nmX5 : ∀ a, a < 5 → ∀ b, b < 5 → a ≠ b → (TX5 a).2.1 ≠ (TX5 b).2.1 := by decide +kernel
theorem tyX5_ok : ∀ k, k < 5 → parseFieldDescriptor (TX5 k).2.2.1 = some (tyX5 k) := by decide +kernel
def RX6 : String := "SlateHalves$Rows"
def TX6 : u_T := fun k => match k with
  | 0 => ("SlateHalves$Rows", "limit", "I", true)
  | 1 => ("SlateHalves$Rows", "first", "[I", true)
  | 2 => ("SlateHalves$Rows", "second", "[I", true)
  | 3 => ("SlateHalves$Rows", "third", "[I", true)
  | _ => ("SlateHalves$Rows", "size", "I", false)
def tyX6 : Nat → FieldType := fun k => match k with
  | 0 => .int
  | 1 => .array .int
  | 2 => .array .int
  | 3 => .array .int
  | _ => .int
theorem nmX6 : ∀ a, a < 5 → ∀ b, b < 5 → a ≠ b → (TX6 a).2.1 ≠ (TX6 b).2.1 := by decide +kernel
theorem tyX6_ok : ∀ k, k < 5 → parseFieldDescriptor (TX6 k).2.2.1 = some (tyX6 k) := by decide +kernel
def RX7 : String := "SlateHalves$Scene"
def TX7 : u_T := fun k => match k with
  | 0 => ("SlateHalves$Scene", "yard", "LSlateHalves$Yard;", true)
  | 1 => ("SlateHalves$Scene", "seen", "LSlateHalves$Rows;", true)
  | 2 => ("SlateHalves$Scene", "week", "LSlateHalves$Rows;", true)
  | _ => ("SlateHalves$Scene", "book", "LSlateHalves$Rows;", true)
def tyX7 : Nat → FieldType := fun k => match k with
  | 0 => .object "SlateHalves$Yard"
  | 1 => .object "SlateHalves$Rows"
  | 2 => .object "SlateHalves$Rows"
  | _ => .object "SlateHalves$Rows"
theorem nmX7 : ∀ a, a < 4 → ∀ b, b < 4 → a ≠ b → (TX7 a).2.1 ≠ (TX7 b).2.1 := by decide +kernel
theorem tyX7_ok : ∀ k, k < 4 → parseFieldDescriptor (TX7 k).2.2.1 = some (tyX7 k) := by decide +kernel
def RX8 : String := "SlateHalves$Tape"
def TX8 : u_T := fun k => match k with
  | 0 => ("SlateHalves$Tape", "items", "[J", true)
  | 1 => ("SlateHalves$Tape", "sort", "I", false)
  | _ => ("SlateHalves$Tape", "size", "I", false)
def tyX8 : Nat → FieldType := fun k => match k with
  | 0 => .array .long
  | 1 => .int
  | _ => .int
theorem nmX8 : ∀ a, a < 3 → ∀ b, b < 3 → a ≠ b → (TX8 a).2.1 ≠ (TX8 b).2.1 := by decide +kernel
theorem tyX8_ok : ∀ k, k < 3 → parseFieldDescriptor (TX8 k).2.2.1 = some (tyX8 k) := by decide +kernel
def RX9 : String := "SlateHalves$Valuer"
def TX9 : u_T := fun k => match k with
  | 0 => ("SlateHalves$Valuer", "blows", "LSlateHalves$Blows;", true)
  | 1 => ("SlateHalves$Valuer", "best", "[I", true)
  | 2 => ("SlateHalves$Valuer", "other", "[I", true)
  | 3 => ("SlateHalves$Valuer", "thin", "I", false)
  | 4 => ("SlateHalves$Valuer", "most", "I", false)
  | 5 => ("SlateHalves$Valuer", "full", "I", false)
  | _ => ("SlateHalves$Valuer", "half", "I", false)
def tyX9 : Nat → FieldType := fun k => match k with
  | 0 => .object "SlateHalves$Blows"
  | 1 => .array .int
  | 2 => .array .int
  | 3 => .int
  | 4 => .int
  | 5 => .int
  | _ => .int
theorem nmX9 : ∀ a, a < 7 → ∀ b, b < 7 → a ≠ b → (TX9 a).2.1 ≠ (TX9 b).2.1 := by decide +kernel
theorem tyX9_ok : ∀ k, k < 7 → parseFieldDescriptor (TX9 k).2.2.1 = some (tyX9 k) := by decide +kernel
def RX10 : String := "SlateHalves$Yard"
def TX10 : u_T := fun k => match k with
  | 0 => ("SlateHalves$Yard", "blocks", "[LSlateHalves$Block;", true)
  | 1 => ("SlateHalves$Yard", "blockCount", "I", false)
  | 2 => ("SlateHalves$Yard", "earned", "I", false)
  | 3 => ("SlateHalves$Yard", "day", "I", false)
  | _ => ("SlateHalves$Yard", "hill", "I", false)
def tyX10 : Nat → FieldType := fun k => match k with
  | 0 => .array (.object "SlateHalves$Block")
  | 1 => .int
  | 2 => .int
  | 3 => .int
  | _ => .int
theorem nmX10 : ∀ a, a < 5 → ∀ b, b < 5 → a ≠ b → (TX10 a).2.1 ≠ (TX10 b).2.1 := by decide +kernel
theorem tyX10_ok : ∀ k, k < 5 → parseFieldDescriptor (TX10 k).2.2.1 = some (tyX10 k) := by decide +kernel
def RX11 : String := "SlateHalves"
def TX11 : u_T := fun k => match k with
  | 0 => ("SlateHalves", "now", "LSlateHalves$Scene;", true)
  | 1 => ("SlateHalves", "kept", "LSlateHalves$Scene;", true)
  | 2 => ("SlateHalves", "isKept", "Z", false)
  | 3 => ("SlateHalves", "later", "LSlateHalves$Yard;", true)
  | 4 => ("SlateHalves", "text", "[B", true)
  | 5 => ("SlateHalves", "textLength", "I", false)
  | 6 => ("SlateHalves", "hills", "[LSlateHalves$Hill;", true)
  | 7 => ("SlateHalves", "hillCount", "I", false)
  | 8 => ("SlateHalves", "noHill", "LSlateHalves$Hill;", true)
  | 9 => ("SlateHalves", "reader", "LSlateHalves$HillReader;", true)
  | 10 => ("SlateHalves", "blows", "LSlateHalves$Blows;", true)
  | 11 => ("SlateHalves", "valuer", "LSlateHalves$Valuer;", true)
  | 12 => ("SlateHalves", "planner", "LSlateHalves$Planner;", true)
  | 13 => ("SlateHalves", "acts", "LSlateHalves$Acts;", true)
  | _ => ("SlateHalves", "tapes", "[LSlateHalves$Tape;", true)
def tyX11 : Nat → FieldType := fun k => match k with
  | 0 => .object "SlateHalves$Scene"
  | 1 => .object "SlateHalves$Scene"
  | 2 => .boolean
  | 3 => .object "SlateHalves$Yard"
  | 4 => .array .byte
  | 5 => .int
  | 6 => .array (.object "SlateHalves$Hill")
  | 7 => .int
  | 8 => .object "SlateHalves$Hill"
  | 9 => .object "SlateHalves$HillReader"
  | 10 => .object "SlateHalves$Blows"
  | 11 => .object "SlateHalves$Valuer"
  | 12 => .object "SlateHalves$Planner"
  | 13 => .object "SlateHalves$Acts"
  | _ => .array (.object "SlateHalves$Tape")
theorem nmX11 : ∀ a, a < 15 → ∀ b, b < 15 → a ≠ b → (TX11 a).2.1 ≠ (TX11 b).2.1 := by decide +kernel
theorem tyX11_ok : ∀ k, k < 15 → parseFieldDescriptor (TX11 k).2.2.1 = some (tyX11 k) := by decide +kernel
def RX12 : String := "SlateHalvesModel"
def TX12 : u_T := fun k => match k with
  | 0 => ("SlateHalvesModel", "blocks", "I", false)
  | 1 => ("SlateHalvesModel", "days", "I", false)
  | 2 => ("SlateHalvesModel", "earned", "I", false)
  | 3 => ("SlateHalvesModel", "kind", "[I", true)
  | 4 => ("SlateHalvesModel", "v", "[I", true)
  | 5 => ("SlateHalvesModel", "thick", "[I", true)
  | 6 => ("SlateHalvesModel", "dried", "[I", true)
  | 7 => ("SlateHalvesModel", "splits", "[I", true)
  | 8 => ("SlateHalvesModel", "rows", "[I", true)
  | 9 => ("SlateHalvesModel", "hills", "I", false)
  | 10 => ("SlateHalvesModel", "the", "I", false)
  | 11 => ("SlateHalvesModel", "fed", "I", false)
  | 12 => ("SlateHalvesModel", "at", "I", false)
  | 13 => ("SlateHalvesModel", "digits", "I", false)
  | 14 => ("SlateHalvesModel", "text", "[I", true)
  | 15 => ("SlateHalvesModel", "clauses", "[I", true)
  | 16 => ("SlateHalvesModel", "word", "[I", true)
  | 17 => ("SlateHalvesModel", "number", "[I", true)
  | 18 => ("SlateHalvesModel", "from", "[I", true)
  | 19 => ("SlateHalvesModel", "to", "[I", true)
  | 20 => ("SlateHalvesModel", "sign", "[I", true)
  | 21 => ("SlateHalvesModel", "waits", "[I", true)
  | 22 => ("SlateHalvesModel", "signs", "I", false)
  | 23 => ("SlateHalvesModel", "waiting", "I", false)
  | 24 => ("SlateHalvesModel", "open", "I", false)
  | 25 => ("SlateHalvesModel", "letters", "[I", true)
  | 26 => ("SlateHalvesModel", "pile", "[Z", true)
  | 27 => ("SlateHalvesModel", "bestOf", "[I", true)
  | 28 => ("SlateHalvesModel", "fewOf", "[I", true)
  | 29 => ("SlateHalvesModel", "manyOf", "[I", true)
  | 30 => ("SlateHalvesModel", "halvesOf", "[I", true)
  | 31 => ("SlateHalvesModel", "keptDays", "I", false)
  | 32 => ("SlateHalvesModel", "keptThick", "[I", true)
  | 33 => ("SlateHalvesModel", "keptDried", "[I", true)
  | 34 => ("SlateHalvesModel", "then", "[I", true)
  | 35 => ("SlateHalvesModel", "turn", "[I", true)
  | 36 => ("SlateHalvesModel", "bestTurn", "[I", true)
  | 37 => ("SlateHalvesModel", "there", "I", false)
  | 38 => ("SlateHalvesModel", "seen", "I", false)
  | 39 => ("SlateHalvesModel", "seenX", "[I", true)
  | 40 => ("SlateHalvesModel", "seenT", "[I", true)
  | 41 => ("SlateHalvesModel", "seenClean", "[Z", true)
  | 42 => ("SlateHalvesModel", "weeks", "I", false)
  | 43 => ("SlateHalvesModel", "books", "I", false)
  | 44 => ("SlateHalvesModel", "weekWhat", "[I", true)
  | 45 => ("SlateHalvesModel", "weekWho", "[I", true)
  | 46 => ("SlateHalvesModel", "bookWho", "[I", true)
  | 47 => ("SlateHalvesModel", "bookThick", "[I", true)
  | 48 => ("SlateHalvesModel", "hasImage", "Z", false)
  | 49 => ("SlateHalvesModel", "imageThe", "I", false)
  | 50 => ("SlateHalvesModel", "imageBlocks", "I", false)
  | 51 => ("SlateHalvesModel", "imageDays", "I", false)
  | 52 => ("SlateHalvesModel", "imageEarned", "I", false)
  | 53 => ("SlateHalvesModel", "imageSeen", "I", false)
  | 54 => ("SlateHalvesModel", "imageWeeks", "I", false)
  | 55 => ("SlateHalvesModel", "imageBooks", "I", false)
  | 56 => ("SlateHalvesModel", "imageKind", "[I", true)
  | 57 => ("SlateHalvesModel", "imageV", "[I", true)
  | 58 => ("SlateHalvesModel", "imageThick", "[I", true)
  | 59 => ("SlateHalvesModel", "imageDried", "[I", true)
  | 60 => ("SlateHalvesModel", "imageSplits", "[I", true)
  | 61 => ("SlateHalvesModel", "imageRows", "[I", true)
  | 62 => ("SlateHalvesModel", "imageX", "[I", true)
  | 63 => ("SlateHalvesModel", "imageT", "[I", true)
  | 64 => ("SlateHalvesModel", "imageWhat", "[I", true)
  | 65 => ("SlateHalvesModel", "imageWho", "[I", true)
  | 66 => ("SlateHalvesModel", "imageBookWho", "[I", true)
  | 67 => ("SlateHalvesModel", "imageBookThick", "[I", true)
  | 68 => ("SlateHalvesModel", "imageClean", "[Z", true)
  | 69 => ("SlateHalvesModel", "ran", "I", false)
  | 70 => ("SlateHalvesModel", "bodies", "[I", true)
  | 71 => ("SlateHalvesModel", "sort", "[I", true)
  | 72 => ("SlateHalvesModel", "length", "[I", true)
  | 73 => ("SlateHalvesModel", "item", "[J", true)
  | _ => ("SlateHalvesModel", "aside", "[J", true)
def tyX12 : Nat → FieldType := fun k => match k with
  | 0 => .int
  | 1 => .int
  | 2 => .int
  | 3 => .array .int
  | 4 => .array .int
  | 5 => .array .int
  | 6 => .array .int
  | 7 => .array .int
  | 8 => .array .int
  | 9 => .int
  | 10 => .int
  | 11 => .int
  | 12 => .int
  | 13 => .int
  | 14 => .array .int
  | 15 => .array .int
  | 16 => .array .int
  | 17 => .array .int
  | 18 => .array .int
  | 19 => .array .int
  | 20 => .array .int
  | 21 => .array .int
  | 22 => .int
  | 23 => .int
  | 24 => .int
  | 25 => .array .int
  | 26 => .array .boolean
  | 27 => .array .int
  | 28 => .array .int
  | 29 => .array .int
  | 30 => .array .int
  | 31 => .int
  | 32 => .array .int
  | 33 => .array .int
  | 34 => .array .int
  | 35 => .array .int
  | 36 => .array .int
  | 37 => .int
  | 38 => .int
  | 39 => .array .int
  | 40 => .array .int
  | 41 => .array .boolean
  | 42 => .int
  | 43 => .int
  | 44 => .array .int
  | 45 => .array .int
  | 46 => .array .int
  | 47 => .array .int
  | 48 => .boolean
  | 49 => .int
  | 50 => .int
  | 51 => .int
  | 52 => .int
  | 53 => .int
  | 54 => .int
  | 55 => .int
  | 56 => .array .int
  | 57 => .array .int
  | 58 => .array .int
  | 59 => .array .int
  | 60 => .array .int
  | 61 => .array .int
  | 62 => .array .int
  | 63 => .array .int
  | 64 => .array .int
  | 65 => .array .int
  | 66 => .array .int
  | 67 => .array .int
  | 68 => .array .boolean
  | 69 => .int
  | 70 => .array .int
  | 71 => .array .int
  | 72 => .array .int
  | 73 => .array .long
  | _ => .array .long
theorem nmX12 : ∀ a, a < 75 → ∀ b, b < 75 → a ≠ b → (TX12 a).2.1 ≠ (TX12 b).2.1 := by decide +kernel
theorem tyX12_ok : ∀ k, k < 75 → parseFieldDescriptor (TX12 k).2.2.1 = some (tyX12 k) := by decide +kernel
abbrev vwCl : List vw_C := [(RX0, TX0, 5), (RX1, TX1, 7), (RX2, TX2, 4), (RX3, TX3, 5), (RX4, TX4, 4), (RX5, TX5, 5), (RX6, TX6, 5), (RX7, TX7, 4), (RX8, TX8, 3), (RX9, TX9, 7), (RX10, TX10, 5), (RX11, TX11, 15), (RX12, TX12, 75)]
