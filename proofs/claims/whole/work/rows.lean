section
-- ===== PART A: goes FIRST, ahead of the names: the tables' words, and 'selects' of the private methods out of them =====
/-- a private method of a class that the tables say can be made, by its rows of tables_1 -/
def lw_okq (q : MethodName × Nat) : Prop := (q.1.cls ≠ "java/lang/invoke/MethodHandle" ∧ q.1.cls ≠ "java/lang/invoke/VarHandle") ∧ Cond.instantiable q.1.cls q.2 ∈ tables_1 ∧ Cond.privateMethod q.1 ∈ tables_1 ∧ Cond.instanceMethod q.1 ∈ tables_1
theorem lw_p0 : lw_okq (⟨"SlateHalves", "holding", "()LSlateHalves$Hill;"⟩, 15) := ⟨⟨by decide +kernel, by decide +kernel⟩, List.mem_of_getElem? (i := 24) (by decide +kernel), List.mem_of_getElem? (i := 405) (by decide +kernel), List.mem_of_getElem? (i := 406) (by decide +kernel)⟩
theorem lw_p1 : lw_okq (⟨"SlateHalves", "valueOf", "(LSlateHalves$Block;I)I"⟩, 15) := ⟨⟨by decide +kernel, by decide +kernel⟩, List.mem_of_getElem? (i := 24) (by decide +kernel), List.mem_of_getElem? (i := 429) (by decide +kernel), List.mem_of_getElem? (i := 430) (by decide +kernel)⟩
theorem lw_p2 : lw_okq (⟨"SlateHalves$Valuer", "fillBest", "(I)V"⟩, 7) := ⟨⟨by decide +kernel, by decide +kernel⟩, List.mem_of_getElem? (i := 231) (by decide +kernel), List.mem_of_getElem? (i := 463) (by decide +kernel), List.mem_of_getElem? (i := 464) (by decide +kernel)⟩
theorem lw_p3 : lw_okq (⟨"SlateHalves$Valuer", "cleanSum", "(II)I"⟩, 7) := ⟨⟨by decide +kernel, by decide +kernel⟩, List.mem_of_getElem? (i := 231) (by decide +kernel), List.mem_of_getElem? (i := 485) (by decide +kernel), List.mem_of_getElem? (i := 486) (by decide +kernel)⟩
theorem lw_p4 : lw_okq (⟨"SlateHalves$Valuer", "fewestBehind", "(I)I"⟩, 7) := ⟨⟨by decide +kernel, by decide +kernel⟩, List.mem_of_getElem? (i := 231) (by decide +kernel), List.mem_of_getElem? (i := 498) (by decide +kernel), List.mem_of_getElem? (i := 499) (by decide +kernel)⟩
theorem lw_p5 : lw_okq (⟨"SlateHalves$Valuer", "behind", "([III)I"⟩, 7) := ⟨⟨by decide +kernel, by decide +kernel⟩, List.mem_of_getElem? (i := 231) (by decide +kernel), List.mem_of_getElem? (i := 502) (by decide +kernel), List.mem_of_getElem? (i := 503) (by decide +kernel)⟩
theorem lw_p6 : lw_okq (⟨"SlateHalves", "isCleanBlow", "(LSlateHalves$Block;II)Z"⟩, 15) := ⟨⟨by decide +kernel, by decide +kernel⟩, List.mem_of_getElem? (i := 24) (by decide +kernel), List.mem_of_getElem? (i := 531) (by decide +kernel), List.mem_of_getElem? (i := 532) (by decide +kernel)⟩
theorem lw_p7 : lw_okq (⟨"SlateHalves", "worthIn", "(LSlateHalves$Yard;LSlateHalves$Block;)I"⟩, 15) := ⟨⟨by decide +kernel, by decide +kernel⟩, List.mem_of_getElem? (i := 24) (by decide +kernel), List.mem_of_getElem? (i := 563) (by decide +kernel), List.mem_of_getElem? (i := 564) (by decide +kernel)⟩
theorem lw_p8 : lw_okq (⟨"SlateHalves$HillReader", "takeClause", "()Z"⟩, 4) := ⟨⟨by decide +kernel, by decide +kernel⟩, List.mem_of_getElem? (i := 190) (by decide +kernel), List.mem_of_getElem? (i := 586) (by decide +kernel), List.mem_of_getElem? (i := 587) (by decide +kernel)⟩
theorem lw_p9 : lw_okq (⟨"SlateHalves$HillReader", "takeWord", "()I"⟩, 4) := ⟨⟨by decide +kernel, by decide +kernel⟩, List.mem_of_getElem? (i := 190) (by decide +kernel), List.mem_of_getElem? (i := 590) (by decide +kernel), List.mem_of_getElem? (i := 591) (by decide +kernel)⟩
theorem lw_p10 : lw_okq (⟨"SlateHalves$HillReader", "sameSigns", "(Ljava/lang/String;)I"⟩, 4) := ⟨⟨by decide +kernel, by decide +kernel⟩, List.mem_of_getElem? (i := 190) (by decide +kernel), List.mem_of_getElem? (i := 602) (by decide +kernel), List.mem_of_getElem? (i := 603) (by decide +kernel)⟩
theorem lw_p11 : lw_okq (⟨"SlateHalves$HillReader", "takeSign", "(I)Z"⟩, 4) := ⟨⟨by decide +kernel, by decide +kernel⟩, List.mem_of_getElem? (i := 190) (by decide +kernel), List.mem_of_getElem? (i := 655) (by decide +kernel), List.mem_of_getElem? (i := 656) (by decide +kernel)⟩
theorem lw_p12 : lw_okq (⟨"SlateHalves$HillReader", "sign", "()I"⟩, 4) := ⟨⟨by decide +kernel, by decide +kernel⟩, List.mem_of_getElem? (i := 190) (by decide +kernel), List.mem_of_getElem? (i := 659) (by decide +kernel), List.mem_of_getElem? (i := 660) (by decide +kernel)⟩
theorem lw_p13 : lw_okq (⟨"SlateHalves$HillReader", "takeNumber", "()I"⟩, 4) := ⟨⟨by decide +kernel, by decide +kernel⟩, List.mem_of_getElem? (i := 190) (by decide +kernel), List.mem_of_getElem? (i := 663) (by decide +kernel), List.mem_of_getElem? (i := 664) (by decide +kernel)⟩
theorem lw_p14 : lw_okq (⟨"SlateHalves$HillReader", "takeEither", "(I)Z"⟩, 4) := ⟨⟨by decide +kernel, by decide +kernel⟩, List.mem_of_getElem? (i := 190) (by decide +kernel), List.mem_of_getElem? (i := 668) (by decide +kernel), List.mem_of_getElem? (i := 669) (by decide +kernel)⟩
theorem lw_p15 : lw_okq (⟨"SlateHalves$HillReader", "takeBoth", "(I)Z"⟩, 4) := ⟨⟨by decide +kernel, by decide +kernel⟩, List.mem_of_getElem? (i := 190) (by decide +kernel), List.mem_of_getElem? (i := 672) (by decide +kernel), List.mem_of_getElem? (i := 673) (by decide +kernel)⟩
def lw_privs_1 : List (MethodName × Nat) := [(⟨"SlateHalves", "holding", "()LSlateHalves$Hill;"⟩, 15), (⟨"SlateHalves", "valueOf", "(LSlateHalves$Block;I)I"⟩, 15), (⟨"SlateHalves$Valuer", "fillBest", "(I)V"⟩, 7), (⟨"SlateHalves$Valuer", "cleanSum", "(II)I"⟩, 7), (⟨"SlateHalves$Valuer", "fewestBehind", "(I)I"⟩, 7), (⟨"SlateHalves$Valuer", "behind", "([III)I"⟩, 7), (⟨"SlateHalves", "isCleanBlow", "(LSlateHalves$Block;II)Z"⟩, 15), (⟨"SlateHalves", "worthIn", "(LSlateHalves$Yard;LSlateHalves$Block;)I"⟩, 15), (⟨"SlateHalves$HillReader", "takeClause", "()Z"⟩, 4), (⟨"SlateHalves$HillReader", "takeWord", "()I"⟩, 4), (⟨"SlateHalves$HillReader", "sameSigns", "(Ljava/lang/String;)I"⟩, 4), (⟨"SlateHalves$HillReader", "takeSign", "(I)Z"⟩, 4), (⟨"SlateHalves$HillReader", "sign", "()I"⟩, 4), (⟨"SlateHalves$HillReader", "takeNumber", "()I"⟩, 4), (⟨"SlateHalves$HillReader", "takeEither", "(I)Z"⟩, 4), (⟨"SlateHalves$HillReader", "takeBoth", "(I)Z"⟩, 4)]
theorem lw_r1 : ∀ q ∈ lw_privs_1, lw_okq q := List.forall_mem_cons.mpr ⟨lw_p0, List.forall_mem_cons.mpr ⟨lw_p1, List.forall_mem_cons.mpr ⟨lw_p2, List.forall_mem_cons.mpr ⟨lw_p3, List.forall_mem_cons.mpr ⟨lw_p4, List.forall_mem_cons.mpr ⟨lw_p5, List.forall_mem_cons.mpr ⟨lw_p6, List.forall_mem_cons.mpr ⟨lw_p7, List.forall_mem_cons.mpr ⟨lw_p8, List.forall_mem_cons.mpr ⟨lw_p9, List.forall_mem_cons.mpr ⟨lw_p10, List.forall_mem_cons.mpr ⟨lw_p11, List.forall_mem_cons.mpr ⟨lw_p12, List.forall_mem_cons.mpr ⟨lw_p13, List.forall_mem_cons.mpr ⟨lw_p14, List.forall_mem_cons.mpr ⟨lw_p15, fun _ h => absurd h List.not_mem_nil⟩⟩⟩⟩⟩⟩⟩⟩⟩⟩⟩⟩⟩⟩⟩⟩
theorem lw_p16 : lw_okq (⟨"SlateHalves$HillReader", "takePart", "(I)Z"⟩, 4) := ⟨⟨by decide +kernel, by decide +kernel⟩, List.mem_of_getElem? (i := 190) (by decide +kernel), List.mem_of_getElem? (i := 676) (by decide +kernel), List.mem_of_getElem? (i := 677) (by decide +kernel)⟩
theorem lw_p17 : lw_okq (⟨"SlateHalves$HillReader", "takeTest", "()Z"⟩, 4) := ⟨⟨by decide +kernel, by decide +kernel⟩, List.mem_of_getElem? (i := 190) (by decide +kernel), List.mem_of_getElem? (i := 680) (by decide +kernel), List.mem_of_getElem? (i := 681) (by decide +kernel)⟩
theorem lw_p18 : lw_okq (⟨"SlateHalves$HillReader", "takeOneOf", "(Ljava/lang/String;)I"⟩, 4) := ⟨⟨by decide +kernel, by decide +kernel⟩, List.mem_of_getElem? (i := 190) (by decide +kernel), List.mem_of_getElem? (i := 685) (by decide +kernel), List.mem_of_getElem? (i := 686) (by decide +kernel)⟩
theorem lw_p19 : lw_okq (⟨"SlateHalves", "bestOfAll", "(LSlateHalves$Yard;)I"⟩, 15) := ⟨⟨by decide +kernel, by decide +kernel⟩, List.mem_of_getElem? (i := 24) (by decide +kernel), List.mem_of_getElem? (i := 755) (by decide +kernel), List.mem_of_getElem? (i := 756) (by decide +kernel)⟩
theorem lw_p20 : lw_okq (⟨"SlateHalves", "bestIn", "(LSlateHalves$Yard;LSlateHalves$Block;)I"⟩, 15) := ⟨⟨by decide +kernel, by decide +kernel⟩, List.mem_of_getElem? (i := 24) (by decide +kernel), List.mem_of_getElem? (i := 759) (by decide +kernel), List.mem_of_getElem? (i := 760) (by decide +kernel)⟩
theorem lw_p21 : lw_okq (⟨"SlateHalves", "lookAhead", "(I)V"⟩, 15) := ⟨⟨by decide +kernel, by decide +kernel⟩, List.mem_of_getElem? (i := 24) (by decide +kernel), List.mem_of_getElem? (i := 778) (by decide +kernel), List.mem_of_getElem? (i := 779) (by decide +kernel)⟩
theorem lw_p22 : lw_okq (⟨"SlateHalves", "planOrder", "()V"⟩, 15) := ⟨⟨by decide +kernel, by decide +kernel⟩, List.mem_of_getElem? (i := 24) (by decide +kernel), List.mem_of_getElem? (i := 796) (by decide +kernel), List.mem_of_getElem? (i := 797) (by decide +kernel)⟩
theorem lw_p23 : lw_okq (⟨"SlateHalves$Planner", "mostOf", "(I)I"⟩, 5) := ⟨⟨by decide +kernel, by decide +kernel⟩, List.mem_of_getElem? (i := 261) (by decide +kernel), List.mem_of_getElem? (i := 812) (by decide +kernel), List.mem_of_getElem? (i := 813) (by decide +kernel)⟩
theorem lw_p24 : lw_okq (⟨"SlateHalves$Planner", "sumWith", "(II)I"⟩, 5) := ⟨⟨by decide +kernel, by decide +kernel⟩, List.mem_of_getElem? (i := 261) (by decide +kernel), List.mem_of_getElem? (i := 816) (by decide +kernel), List.mem_of_getElem? (i := 817) (by decide +kernel)⟩
theorem lw_p25 : lw_okq (⟨"SlateHalves$Planner", "firstOf", "(I)I"⟩, 5) := ⟨⟨by decide +kernel, by decide +kernel⟩, List.mem_of_getElem? (i := 261) (by decide +kernel), List.mem_of_getElem? (i := 822) (by decide +kernel), List.mem_of_getElem? (i := 823) (by decide +kernel)⟩
theorem lw_p26 : lw_okq (⟨"SlateHalves", "lossOf", "(LSlateHalves$Block;)I"⟩, 15) := ⟨⟨by decide +kernel, by decide +kernel⟩, List.mem_of_getElem? (i := 24) (by decide +kernel), List.mem_of_getElem? (i := 830) (by decide +kernel), List.mem_of_getElem? (i := 831) (by decide +kernel)⟩
theorem lw_p27 : lw_okq (⟨"SlateHalves", "fitting", "(IIIZ)I"⟩, 15) := ⟨⟨by decide +kernel, by decide +kernel⟩, List.mem_of_getElem? (i := 24) (by decide +kernel), List.mem_of_getElem? (i := 850) (by decide +kernel), List.mem_of_getElem? (i := 851) (by decide +kernel)⟩
theorem lw_p28 : lw_okq (⟨"SlateHalves", "isAllSeenSo", "()Z"⟩, 15) := ⟨⟨by decide +kernel, by decide +kernel⟩, List.mem_of_getElem? (i := 24) (by decide +kernel), List.mem_of_getElem? (i := 855) (by decide +kernel), List.mem_of_getElem? (i := 856) (by decide +kernel)⟩
theorem lw_p29 : lw_okq (⟨"SlateHalves", "goRow", "(ILSlateHalves$Block;)I"⟩, 15) := ⟨⟨by decide +kernel, by decide +kernel⟩, List.mem_of_getElem? (i := 24) (by decide +kernel), List.mem_of_getElem? (i := 883) (by decide +kernel), List.mem_of_getElem? (i := 884) (by decide +kernel)⟩
theorem lw_p30 : lw_okq (⟨"SlateHalves$Acts", "ringsFrom", "(II)I"⟩, 5) := ⟨⟨by decide +kernel, by decide +kernel⟩, List.mem_of_getElem? (i := 287) (by decide +kernel), List.mem_of_getElem? (i := 934) (by decide +kernel), List.mem_of_getElem? (i := 935) (by decide +kernel)⟩
theorem lw_p31 : lw_okq (⟨"SlateHalves$Acts", "begin", "(I)V"⟩, 5) := ⟨⟨by decide +kernel, by decide +kernel⟩, List.mem_of_getElem? (i := 287) (by decide +kernel), List.mem_of_getElem? (i := 938) (by decide +kernel), List.mem_of_getElem? (i := 939) (by decide +kernel)⟩
def lw_privs_2 : List (MethodName × Nat) := [(⟨"SlateHalves$HillReader", "takePart", "(I)Z"⟩, 4), (⟨"SlateHalves$HillReader", "takeTest", "()Z"⟩, 4), (⟨"SlateHalves$HillReader", "takeOneOf", "(Ljava/lang/String;)I"⟩, 4), (⟨"SlateHalves", "bestOfAll", "(LSlateHalves$Yard;)I"⟩, 15), (⟨"SlateHalves", "bestIn", "(LSlateHalves$Yard;LSlateHalves$Block;)I"⟩, 15), (⟨"SlateHalves", "lookAhead", "(I)V"⟩, 15), (⟨"SlateHalves", "planOrder", "()V"⟩, 15), (⟨"SlateHalves$Planner", "mostOf", "(I)I"⟩, 5), (⟨"SlateHalves$Planner", "sumWith", "(II)I"⟩, 5), (⟨"SlateHalves$Planner", "firstOf", "(I)I"⟩, 5), (⟨"SlateHalves", "lossOf", "(LSlateHalves$Block;)I"⟩, 15), (⟨"SlateHalves", "fitting", "(IIIZ)I"⟩, 15), (⟨"SlateHalves", "isAllSeenSo", "()Z"⟩, 15), (⟨"SlateHalves", "goRow", "(ILSlateHalves$Block;)I"⟩, 15), (⟨"SlateHalves$Acts", "ringsFrom", "(II)I"⟩, 5), (⟨"SlateHalves$Acts", "begin", "(I)V"⟩, 5)]
theorem lw_r2 : ∀ q ∈ lw_privs_2, lw_okq q := List.forall_mem_cons.mpr ⟨lw_p16, List.forall_mem_cons.mpr ⟨lw_p17, List.forall_mem_cons.mpr ⟨lw_p18, List.forall_mem_cons.mpr ⟨lw_p19, List.forall_mem_cons.mpr ⟨lw_p20, List.forall_mem_cons.mpr ⟨lw_p21, List.forall_mem_cons.mpr ⟨lw_p22, List.forall_mem_cons.mpr ⟨lw_p23, List.forall_mem_cons.mpr ⟨lw_p24, List.forall_mem_cons.mpr ⟨lw_p25, List.forall_mem_cons.mpr ⟨lw_p26, List.forall_mem_cons.mpr ⟨lw_p27, List.forall_mem_cons.mpr ⟨lw_p28, List.forall_mem_cons.mpr ⟨lw_p29, List.forall_mem_cons.mpr ⟨lw_p30, List.forall_mem_cons.mpr ⟨lw_p31, fun _ h => absurd h List.not_mem_nil⟩⟩⟩⟩⟩⟩⟩⟩⟩⟩⟩⟩⟩⟩⟩⟩
theorem lw_p32 : lw_okq (⟨"SlateHalves$Acts", "splitsFrom", "(II)I"⟩, 5) := ⟨⟨by decide +kernel, by decide +kernel⟩, List.mem_of_getElem? (i := 287) (by decide +kernel), List.mem_of_getElem? (i := 942) (by decide +kernel), List.mem_of_getElem? (i := 943) (by decide +kernel)⟩
theorem lw_p33 : lw_okq (⟨"SlateHalves$Acts", "tellsFrom", "(II)I"⟩, 5) := ⟨⟨by decide +kernel, by decide +kernel⟩, List.mem_of_getElem? (i := 287) (by decide +kernel), List.mem_of_getElem? (i := 946) (by decide +kernel), List.mem_of_getElem? (i := 947) (by decide +kernel)⟩
theorem lw_p34 : lw_okq (⟨"SlateHalvesModel", "in", "(III)Z"⟩, 75) := ⟨⟨by decide +kernel, by decide +kernel⟩, List.mem_of_getElem? (i := 996) (by decide +kernel), List.mem_of_getElem? (i := 1233) (by decide +kernel), List.mem_of_getElem? (i := 1234) (by decide +kernel)⟩
theorem lw_p35 : lw_okq (⟨"SlateHalvesModel", "isBlock", "(I)Z"⟩, 75) := ⟨⟨by decide +kernel, by decide +kernel⟩, List.mem_of_getElem? (i := 996) (by decide +kernel), List.mem_of_getElem? (i := 1241) (by decide +kernel), List.mem_of_getElem? (i := 1242) (by decide +kernel)⟩
theorem lw_p36 : lw_okq (⟨"SlateHalvesModel", "goesText", "(I)Z"⟩, 75) := ⟨⟨by decide +kernel, by decide +kernel⟩, List.mem_of_getElem? (i := 996) (by decide +kernel), List.mem_of_getElem? (i := 1257) (by decide +kernel), List.mem_of_getElem? (i := 1258) (by decide +kernel)⟩
theorem lw_p37 : lw_okq (⟨"SlateHalvesModel", "takesClause", "(I)Z"⟩, 75) := ⟨⟨by decide +kernel, by decide +kernel⟩, List.mem_of_getElem? (i := 996) (by decide +kernel), List.mem_of_getElem? (i := 1261) (by decide +kernel), List.mem_of_getElem? (i := 1262) (by decide +kernel)⟩
theorem lw_p38 : lw_okq (⟨"SlateHalvesModel", "takesHead", "(I)Z"⟩, 75) := ⟨⟨by decide +kernel, by decide +kernel⟩, List.mem_of_getElem? (i := 996) (by decide +kernel), List.mem_of_getElem? (i := 1265) (by decide +kernel), List.mem_of_getElem? (i := 1266) (by decide +kernel)⟩
theorem lw_p39 : lw_okq (⟨"SlateHalvesModel", "next", "()I"⟩, 75) := ⟨⟨by decide +kernel, by decide +kernel⟩, List.mem_of_getElem? (i := 996) (by decide +kernel), List.mem_of_getElem? (i := 1269) (by decide +kernel), List.mem_of_getElem? (i := 1270) (by decide +kernel)⟩
theorem lw_p40 : lw_okq (⟨"SlateHalvesModel", "takesWord", "(II)Z"⟩, 75) := ⟨⟨by decide +kernel, by decide +kernel⟩, List.mem_of_getElem? (i := 996) (by decide +kernel), List.mem_of_getElem? (i := 1273) (by decide +kernel), List.mem_of_getElem? (i := 1274) (by decide +kernel)⟩
theorem lw_p41 : lw_okq (⟨"SlateHalvesModel", "takes", "(I)Z"⟩, 75) := ⟨⟨by decide +kernel, by decide +kernel⟩, List.mem_of_getElem? (i := 996) (by decide +kernel), List.mem_of_getElem? (i := 1277) (by decide +kernel), List.mem_of_getElem? (i := 1278) (by decide +kernel)⟩
theorem lw_p42 : lw_okq (⟨"SlateHalvesModel", "takesNumber", "()Z"⟩, 75) := ⟨⟨by decide +kernel, by decide +kernel⟩, List.mem_of_getElem? (i := 996) (by decide +kernel), List.mem_of_getElem? (i := 1281) (by decide +kernel), List.mem_of_getElem? (i := 1282) (by decide +kernel)⟩
theorem lw_p43 : lw_okq (⟨"SlateHalvesModel", "isDigit", "()Z"⟩, 75) := ⟨⟨by decide +kernel, by decide +kernel⟩, List.mem_of_getElem? (i := 996) (by decide +kernel), List.mem_of_getElem? (i := 1285) (by decide +kernel), List.mem_of_getElem? (i := 1286) (by decide +kernel)⟩
theorem lw_p44 : lw_okq (⟨"SlateHalvesModel", "takesE", "(I)Z"⟩, 75) := ⟨⟨by decide +kernel, by decide +kernel⟩, List.mem_of_getElem? (i := 996) (by decide +kernel), List.mem_of_getElem? (i := 1289) (by decide +kernel), List.mem_of_getElem? (i := 1290) (by decide +kernel)⟩
theorem lw_p45 : lw_okq (⟨"SlateHalvesModel", "takesTest", "()Z"⟩, 75) := ⟨⟨by decide +kernel, by decide +kernel⟩, List.mem_of_getElem? (i := 996) (by decide +kernel), List.mem_of_getElem? (i := 1293) (by decide +kernel), List.mem_of_getElem? (i := 1294) (by decide +kernel)⟩
theorem lw_p46 : lw_okq (⟨"SlateHalvesModel", "place", "(I)I"⟩, 75) := ⟨⟨by decide +kernel, by decide +kernel⟩, List.mem_of_getElem? (i := 996) (by decide +kernel), List.mem_of_getElem? (i := 1297) (by decide +kernel), List.mem_of_getElem? (i := 1298) (by decide +kernel)⟩
theorem lw_p47 : lw_okq (⟨"SlateHalvesModel", "emits", "(I)V"⟩, 75) := ⟨⟨by decide +kernel, by decide +kernel⟩, List.mem_of_getElem? (i := 996) (by decide +kernel), List.mem_of_getElem? (i := 1301) (by decide +kernel), List.mem_of_getElem? (i := 1302) (by decide +kernel)⟩
def lw_privs_3 : List (MethodName × Nat) := [(⟨"SlateHalves$Acts", "splitsFrom", "(II)I"⟩, 5), (⟨"SlateHalves$Acts", "tellsFrom", "(II)I"⟩, 5), (⟨"SlateHalvesModel", "in", "(III)Z"⟩, 75), (⟨"SlateHalvesModel", "isBlock", "(I)Z"⟩, 75), (⟨"SlateHalvesModel", "goesText", "(I)Z"⟩, 75), (⟨"SlateHalvesModel", "takesClause", "(I)Z"⟩, 75), (⟨"SlateHalvesModel", "takesHead", "(I)Z"⟩, 75), (⟨"SlateHalvesModel", "next", "()I"⟩, 75), (⟨"SlateHalvesModel", "takesWord", "(II)Z"⟩, 75), (⟨"SlateHalvesModel", "takes", "(I)Z"⟩, 75), (⟨"SlateHalvesModel", "takesNumber", "()Z"⟩, 75), (⟨"SlateHalvesModel", "isDigit", "()Z"⟩, 75), (⟨"SlateHalvesModel", "takesE", "(I)Z"⟩, 75), (⟨"SlateHalvesModel", "takesTest", "()Z"⟩, 75), (⟨"SlateHalvesModel", "place", "(I)I"⟩, 75), (⟨"SlateHalvesModel", "emits", "(I)V"⟩, 75)]
theorem lw_r3 : ∀ q ∈ lw_privs_3, lw_okq q := List.forall_mem_cons.mpr ⟨lw_p32, List.forall_mem_cons.mpr ⟨lw_p33, List.forall_mem_cons.mpr ⟨lw_p34, List.forall_mem_cons.mpr ⟨lw_p35, List.forall_mem_cons.mpr ⟨lw_p36, List.forall_mem_cons.mpr ⟨lw_p37, List.forall_mem_cons.mpr ⟨lw_p38, List.forall_mem_cons.mpr ⟨lw_p39, List.forall_mem_cons.mpr ⟨lw_p40, List.forall_mem_cons.mpr ⟨lw_p41, List.forall_mem_cons.mpr ⟨lw_p42, List.forall_mem_cons.mpr ⟨lw_p43, List.forall_mem_cons.mpr ⟨lw_p44, List.forall_mem_cons.mpr ⟨lw_p45, List.forall_mem_cons.mpr ⟨lw_p46, List.forall_mem_cons.mpr ⟨lw_p47, fun _ h => absurd h List.not_mem_nil⟩⟩⟩⟩⟩⟩⟩⟩⟩⟩⟩⟩⟩⟩⟩⟩
theorem lw_p48 : lw_okq (⟨"SlateHalvesModel", "whole", "()V"⟩, 75) := ⟨⟨by decide +kernel, by decide +kernel⟩, List.mem_of_getElem? (i := 996) (by decide +kernel), List.mem_of_getElem? (i := 1305) (by decide +kernel), List.mem_of_getElem? (i := 1306) (by decide +kernel)⟩
theorem lw_p49 : lw_okq (⟨"SlateHalvesModel", "settle", "(I)V"⟩, 75) := ⟨⟨by decide +kernel, by decide +kernel⟩, List.mem_of_getElem? (i := 996) (by decide +kernel), List.mem_of_getElem? (i := 1309) (by decide +kernel), List.mem_of_getElem? (i := 1310) (by decide +kernel)⟩
theorem lw_p50 : lw_okq (⟨"SlateHalvesModel", "price", "(I)I"⟩, 75) := ⟨⟨by decide +kernel, by decide +kernel⟩, List.mem_of_getElem? (i := 996) (by decide +kernel), List.mem_of_getElem? (i := 1317) (by decide +kernel), List.mem_of_getElem? (i := 1318) (by decide +kernel)⟩
theorem lw_p51 : lw_okq (⟨"SlateHalvesModel", "begin", "()I"⟩, 75) := ⟨⟨by decide +kernel, by decide +kernel⟩, List.mem_of_getElem? (i := 996) (by decide +kernel), List.mem_of_getElem? (i := 1321) (by decide +kernel), List.mem_of_getElem? (i := 1322) (by decide +kernel)⟩
theorem lw_p52 : lw_okq (⟨"SlateHalvesModel", "behind", "()I"⟩, 75) := ⟨⟨by decide +kernel, by decide +kernel⟩, List.mem_of_getElem? (i := 996) (by decide +kernel), List.mem_of_getElem? (i := 1325) (by decide +kernel), List.mem_of_getElem? (i := 1326) (by decide +kernel)⟩
theorem lw_p53 : lw_okq (⟨"SlateHalvesModel", "holds", "(II)Z"⟩, 75) := ⟨⟨by decide +kernel, by decide +kernel⟩, List.mem_of_getElem? (i := 996) (by decide +kernel), List.mem_of_getElem? (i := 1329) (by decide +kernel), List.mem_of_getElem? (i := 1330) (by decide +kernel)⟩
theorem lw_p54 : lw_okq (⟨"SlateHalvesModel", "factOf", "(II)I"⟩, 75) := ⟨⟨by decide +kernel, by decide +kernel⟩, List.mem_of_getElem? (i := 996) (by decide +kernel), List.mem_of_getElem? (i := 1333) (by decide +kernel), List.mem_of_getElem? (i := 1334) (by decide +kernel)⟩
theorem lw_p55 : lw_okq (⟨"SlateHalvesModel", "least0", "(I)I"⟩, 75) := ⟨⟨by decide +kernel, by decide +kernel⟩, List.mem_of_getElem? (i := 996) (by decide +kernel), List.mem_of_getElem? (i := 1337) (by decide +kernel), List.mem_of_getElem? (i := 1338) (by decide +kernel)⟩
theorem lw_p56 : lw_okq (⟨"SlateHalvesModel", "grip", "(I)I"⟩, 75) := ⟨⟨by decide +kernel, by decide +kernel⟩, List.mem_of_getElem? (i := 996) (by decide +kernel), List.mem_of_getElem? (i := 1341) (by decide +kernel), List.mem_of_getElem? (i := 1342) (by decide +kernel)⟩
theorem lw_p57 : lw_okq (⟨"SlateHalvesModel", "dries", "(I)I"⟩, 75) := ⟨⟨by decide +kernel, by decide +kernel⟩, List.mem_of_getElem? (i := 996) (by decide +kernel), List.mem_of_getElem? (i := 1345) (by decide +kernel), List.mem_of_getElem? (i := 1346) (by decide +kernel)⟩
theorem lw_p58 : lw_okq (⟨"SlateHalvesModel", "lastOf", "(II)I"⟩, 75) := ⟨⟨by decide +kernel, by decide +kernel⟩, List.mem_of_getElem? (i := 996) (by decide +kernel), List.mem_of_getElem? (i := 1349) (by decide +kernel), List.mem_of_getElem? (i := 1350) (by decide +kernel)⟩
theorem lw_p59 : lw_okq (⟨"SlateHalvesModel", "worthOf", "(II)I"⟩, 75) := ⟨⟨by decide +kernel, by decide +kernel⟩, List.mem_of_getElem? (i := 996) (by decide +kernel), List.mem_of_getElem? (i := 1353) (by decide +kernel), List.mem_of_getElem? (i := 1354) (by decide +kernel)⟩
theorem lw_p60 : lw_okq (⟨"SlateHalvesModel", "thin", "()I"⟩, 75) := ⟨⟨by decide +kernel, by decide +kernel⟩, List.mem_of_getElem? (i := 996) (by decide +kernel), List.mem_of_getElem? (i := 1357) (by decide +kernel), List.mem_of_getElem? (i := 1358) (by decide +kernel)⟩
theorem lw_p61 : lw_okq (⟨"SlateHalvesModel", "greater", "(II)I"⟩, 75) := ⟨⟨by decide +kernel, by decide +kernel⟩, List.mem_of_getElem? (i := 996) (by decide +kernel), List.mem_of_getElem? (i := 1361) (by decide +kernel), List.mem_of_getElem? (i := 1362) (by decide +kernel)⟩
theorem lw_p62 : lw_okq (⟨"SlateHalvesModel", "most", "()I"⟩, 75) := ⟨⟨by decide +kernel, by decide +kernel⟩, List.mem_of_getElem? (i := 996) (by decide +kernel), List.mem_of_getElem? (i := 1365) (by decide +kernel), List.mem_of_getElem? (i := 1366) (by decide +kernel)⟩
theorem lw_p63 : lw_okq (⟨"SlateHalvesModel", "laid", "(II)I"⟩, 75) := ⟨⟨by decide +kernel, by decide +kernel⟩, List.mem_of_getElem? (i := 996) (by decide +kernel), List.mem_of_getElem? (i := 1369) (by decide +kernel), List.mem_of_getElem? (i := 1370) (by decide +kernel)⟩
def lw_privs_4 : List (MethodName × Nat) := [(⟨"SlateHalvesModel", "whole", "()V"⟩, 75), (⟨"SlateHalvesModel", "settle", "(I)V"⟩, 75), (⟨"SlateHalvesModel", "price", "(I)I"⟩, 75), (⟨"SlateHalvesModel", "begin", "()I"⟩, 75), (⟨"SlateHalvesModel", "behind", "()I"⟩, 75), (⟨"SlateHalvesModel", "holds", "(II)Z"⟩, 75), (⟨"SlateHalvesModel", "factOf", "(II)I"⟩, 75), (⟨"SlateHalvesModel", "least0", "(I)I"⟩, 75), (⟨"SlateHalvesModel", "grip", "(I)I"⟩, 75), (⟨"SlateHalvesModel", "dries", "(I)I"⟩, 75), (⟨"SlateHalvesModel", "lastOf", "(II)I"⟩, 75), (⟨"SlateHalvesModel", "worthOf", "(II)I"⟩, 75), (⟨"SlateHalvesModel", "thin", "()I"⟩, 75), (⟨"SlateHalvesModel", "greater", "(II)I"⟩, 75), (⟨"SlateHalvesModel", "most", "()I"⟩, 75), (⟨"SlateHalvesModel", "laid", "(II)I"⟩, 75)]
theorem lw_r4 : ∀ q ∈ lw_privs_4, lw_okq q := List.forall_mem_cons.mpr ⟨lw_p48, List.forall_mem_cons.mpr ⟨lw_p49, List.forall_mem_cons.mpr ⟨lw_p50, List.forall_mem_cons.mpr ⟨lw_p51, List.forall_mem_cons.mpr ⟨lw_p52, List.forall_mem_cons.mpr ⟨lw_p53, List.forall_mem_cons.mpr ⟨lw_p54, List.forall_mem_cons.mpr ⟨lw_p55, List.forall_mem_cons.mpr ⟨lw_p56, List.forall_mem_cons.mpr ⟨lw_p57, List.forall_mem_cons.mpr ⟨lw_p58, List.forall_mem_cons.mpr ⟨lw_p59, List.forall_mem_cons.mpr ⟨lw_p60, List.forall_mem_cons.mpr ⟨lw_p61, List.forall_mem_cons.mpr ⟨lw_p62, List.forall_mem_cons.mpr ⟨lw_p63, fun _ h => absurd h List.not_mem_nil⟩⟩⟩⟩⟩⟩⟩⟩⟩⟩⟩⟩⟩⟩⟩⟩
theorem lw_p64 : lw_okq (⟨"SlateHalvesModel", "lay", "(I)V"⟩, 75) := ⟨⟨by decide +kernel, by decide +kernel⟩, List.mem_of_getElem? (i := 996) (by decide +kernel), List.mem_of_getElem? (i := 1373) (by decide +kernel), List.mem_of_getElem? (i := 1374) (by decide +kernel)⟩
theorem lw_p65 : lw_okq (⟨"SlateHalvesModel", "isClean", "(III)Z"⟩, 75) := ⟨⟨by decide +kernel, by decide +kernel⟩, List.mem_of_getElem? (i := 996) (by decide +kernel), List.mem_of_getElem? (i := 1377) (by decide +kernel), List.mem_of_getElem? (i := 1378) (by decide +kernel)⟩
theorem lw_p66 : lw_okq (⟨"SlateHalvesModel", "isNear", "(III)Z"⟩, 75) := ⟨⟨by decide +kernel, by decide +kernel⟩, List.mem_of_getElem? (i := 996) (by decide +kernel), List.mem_of_getElem? (i := 1381) (by decide +kernel), List.mem_of_getElem? (i := 1382) (by decide +kernel)⟩
theorem lw_p67 : lw_okq (⟨"SlateHalvesModel", "layBlow", "(III)V"⟩, 75) := ⟨⟨by decide +kernel, by decide +kernel⟩, List.mem_of_getElem? (i := 996) (by decide +kernel), List.mem_of_getElem? (i := 1385) (by decide +kernel), List.mem_of_getElem? (i := 1386) (by decide +kernel)⟩
theorem lw_p68 : lw_okq (⟨"SlateHalvesModel", "blow", "(I)I"⟩, 75) := ⟨⟨by decide +kernel, by decide +kernel⟩, List.mem_of_getElem? (i := 996) (by decide +kernel), List.mem_of_getElem? (i := 1389) (by decide +kernel), List.mem_of_getElem? (i := 1390) (by decide +kernel)⟩
theorem lw_p69 : lw_okq (⟨"SlateHalvesModel", "allBest", "()I"⟩, 75) := ⟨⟨by decide +kernel, by decide +kernel⟩, List.mem_of_getElem? (i := 996) (by decide +kernel), List.mem_of_getElem? (i := 1397) (by decide +kernel), List.mem_of_getElem? (i := 1398) (by decide +kernel)⟩
theorem lw_p70 : lw_okq (⟨"SlateHalvesModel", "best", "(I)I"⟩, 75) := ⟨⟨by decide +kernel, by decide +kernel⟩, List.mem_of_getElem? (i := 996) (by decide +kernel), List.mem_of_getElem? (i := 1401) (by decide +kernel), List.mem_of_getElem? (i := 1402) (by decide +kernel)⟩
theorem lw_p71 : lw_okq (⟨"SlateHalvesModel", "isDays", "(I)Z"⟩, 75) := ⟨⟨by decide +kernel, by decide +kernel⟩, List.mem_of_getElem? (i := 996) (by decide +kernel), List.mem_of_getElem? (i := 1422) (by decide +kernel), List.mem_of_getElem? (i := 1423) (by decide +kernel)⟩
theorem lw_p72 : lw_okq (⟨"SlateHalvesModel", "goDays", "(I)V"⟩, 75) := ⟨⟨by decide +kernel, by decide +kernel⟩, List.mem_of_getElem? (i := 996) (by decide +kernel), List.mem_of_getElem? (i := 1426) (by decide +kernel), List.mem_of_getElem? (i := 1427) (by decide +kernel)⟩
theorem lw_p73 : lw_okq (⟨"SlateHalvesModel", "goDay", "()V"⟩, 75) := ⟨⟨by decide +kernel, by decide +kernel⟩, List.mem_of_getElem? (i := 996) (by decide +kernel), List.mem_of_getElem? (i := 1430) (by decide +kernel), List.mem_of_getElem? (i := 1431) (by decide +kernel)⟩
theorem lw_p74 : lw_okq (⟨"SlateHalvesModel", "save", "()V"⟩, 75) := ⟨⟨by decide +kernel, by decide +kernel⟩, List.mem_of_getElem? (i := 996) (by decide +kernel), List.mem_of_getElem? (i := 1438) (by decide +kernel), List.mem_of_getElem? (i := 1439) (by decide +kernel)⟩
theorem lw_p75 : lw_okq (⟨"SlateHalvesModel", "putBack", "()V"⟩, 75) := ⟨⟨by decide +kernel, by decide +kernel⟩, List.mem_of_getElem? (i := 996) (by decide +kernel), List.mem_of_getElem? (i := 1442) (by decide +kernel), List.mem_of_getElem? (i := 1443) (by decide +kernel)⟩
theorem lw_p76 : lw_okq (⟨"SlateHalvesModel", "layThen", "()V"⟩, 75) := ⟨⟨by decide +kernel, by decide +kernel⟩, List.mem_of_getElem? (i := 996) (by decide +kernel), List.mem_of_getElem? (i := 1455) (by decide +kernel), List.mem_of_getElem? (i := 1456) (by decide +kernel)⟩
theorem lw_p77 : lw_okq (⟨"SlateHalvesModel", "layTurn", "(I)Z"⟩, 75) := ⟨⟨by decide +kernel, by decide +kernel⟩, List.mem_of_getElem? (i := 996) (by decide +kernel), List.mem_of_getElem? (i := 1459) (by decide +kernel), List.mem_of_getElem? (i := 1460) (by decide +kernel)⟩
theorem lw_p78 : lw_okq (⟨"SlateHalvesModel", "has", "(II)Z"⟩, 75) := ⟨⟨by decide +kernel, by decide +kernel⟩, List.mem_of_getElem? (i := 996) (by decide +kernel), List.mem_of_getElem? (i := 1463) (by decide +kernel), List.mem_of_getElem? (i := 1464) (by decide +kernel)⟩
theorem lw_p79 : lw_okq (⟨"SlateHalvesModel", "isSeen", "(I)Z"⟩, 75) := ⟨⟨by decide +kernel, by decide +kernel⟩, List.mem_of_getElem? (i := 996) (by decide +kernel), List.mem_of_getElem? (i := 1485) (by decide +kernel), List.mem_of_getElem? (i := 1486) (by decide +kernel)⟩
def lw_privs_5 : List (MethodName × Nat) := [(⟨"SlateHalvesModel", "lay", "(I)V"⟩, 75), (⟨"SlateHalvesModel", "isClean", "(III)Z"⟩, 75), (⟨"SlateHalvesModel", "isNear", "(III)Z"⟩, 75), (⟨"SlateHalvesModel", "layBlow", "(III)V"⟩, 75), (⟨"SlateHalvesModel", "blow", "(I)I"⟩, 75), (⟨"SlateHalvesModel", "allBest", "()I"⟩, 75), (⟨"SlateHalvesModel", "best", "(I)I"⟩, 75), (⟨"SlateHalvesModel", "isDays", "(I)Z"⟩, 75), (⟨"SlateHalvesModel", "goDays", "(I)V"⟩, 75), (⟨"SlateHalvesModel", "goDay", "()V"⟩, 75), (⟨"SlateHalvesModel", "save", "()V"⟩, 75), (⟨"SlateHalvesModel", "putBack", "()V"⟩, 75), (⟨"SlateHalvesModel", "layThen", "()V"⟩, 75), (⟨"SlateHalvesModel", "layTurn", "(I)Z"⟩, 75), (⟨"SlateHalvesModel", "has", "(II)Z"⟩, 75), (⟨"SlateHalvesModel", "isSeen", "(I)Z"⟩, 75)]
theorem lw_r5 : ∀ q ∈ lw_privs_5, lw_okq q := List.forall_mem_cons.mpr ⟨lw_p64, List.forall_mem_cons.mpr ⟨lw_p65, List.forall_mem_cons.mpr ⟨lw_p66, List.forall_mem_cons.mpr ⟨lw_p67, List.forall_mem_cons.mpr ⟨lw_p68, List.forall_mem_cons.mpr ⟨lw_p69, List.forall_mem_cons.mpr ⟨lw_p70, List.forall_mem_cons.mpr ⟨lw_p71, List.forall_mem_cons.mpr ⟨lw_p72, List.forall_mem_cons.mpr ⟨lw_p73, List.forall_mem_cons.mpr ⟨lw_p74, List.forall_mem_cons.mpr ⟨lw_p75, List.forall_mem_cons.mpr ⟨lw_p76, List.forall_mem_cons.mpr ⟨lw_p77, List.forall_mem_cons.mpr ⟨lw_p78, List.forall_mem_cons.mpr ⟨lw_p79, fun _ h => absurd h List.not_mem_nil⟩⟩⟩⟩⟩⟩⟩⟩⟩⟩⟩⟩⟩⟩⟩⟩
theorem lw_p80 : lw_okq (⟨"SlateHalvesModel", "lowest", "(III)J"⟩, 75) := ⟨⟨by decide +kernel, by decide +kernel⟩, List.mem_of_getElem? (i := 996) (by decide +kernel), List.mem_of_getElem? (i := 1498) (by decide +kernel), List.mem_of_getElem? (i := 1499) (by decide +kernel)⟩
theorem lw_p81 : lw_okq (⟨"SlateHalvesModel", "divisor", "(II)I"⟩, 75) := ⟨⟨by decide +kernel, by decide +kernel⟩, List.mem_of_getElem? (i := 996) (by decide +kernel), List.mem_of_getElem? (i := 1502) (by decide +kernel), List.mem_of_getElem? (i := 1503) (by decide +kernel)⟩
theorem lw_p82 : lw_okq (⟨"SlateHalvesModel", "isTape", "(I)Z"⟩, 75) := ⟨⟨by decide +kernel, by decide +kernel⟩, List.mem_of_getElem? (i := 996) (by decide +kernel), List.mem_of_getElem? (i := 1530) (by decide +kernel), List.mem_of_getElem? (i := 1531) (by decide +kernel)⟩
theorem lw_p83 : lw_okq (⟨"SlateHalvesModel", "ringsAct", "(II)I"⟩, 75) := ⟨⟨by decide +kernel, by decide +kernel⟩, List.mem_of_getElem? (i := 996) (by decide +kernel), List.mem_of_getElem? (i := 1546) (by decide +kernel), List.mem_of_getElem? (i := 1547) (by decide +kernel)⟩
theorem lw_p84 : lw_okq (⟨"SlateHalvesModel", "body", "(I)V"⟩, 75) := ⟨⟨by decide +kernel, by decide +kernel⟩, List.mem_of_getElem? (i := 996) (by decide +kernel), List.mem_of_getElem? (i := 1550) (by decide +kernel), List.mem_of_getElem? (i := 1551) (by decide +kernel)⟩
theorem lw_p85 : lw_okq (⟨"SlateHalvesModel", "blockRings", "(II)I"⟩, 75) := ⟨⟨by decide +kernel, by decide +kernel⟩, List.mem_of_getElem? (i := 996) (by decide +kernel), List.mem_of_getElem? (i := 1554) (by decide +kernel), List.mem_of_getElem? (i := 1555) (by decide +kernel)⟩
theorem lw_p86 : lw_okq (⟨"SlateHalvesModel", "splitsAct", "(II)I"⟩, 75) := ⟨⟨by decide +kernel, by decide +kernel⟩, List.mem_of_getElem? (i := 996) (by decide +kernel), List.mem_of_getElem? (i := 1558) (by decide +kernel), List.mem_of_getElem? (i := 1559) (by decide +kernel)⟩
theorem lw_p87 : lw_okq (⟨"SlateHalvesModel", "fineSplits", "(II)I"⟩, 75) := ⟨⟨by decide +kernel, by decide +kernel⟩, List.mem_of_getElem? (i := 996) (by decide +kernel), List.mem_of_getElem? (i := 1562) (by decide +kernel), List.mem_of_getElem? (i := 1563) (by decide +kernel)⟩
theorem lw_p88 : lw_okq (⟨"SlateHalvesModel", "blockSplits", "(II)I"⟩, 75) := ⟨⟨by decide +kernel, by decide +kernel⟩, List.mem_of_getElem? (i := 996) (by decide +kernel), List.mem_of_getElem? (i := 1566) (by decide +kernel), List.mem_of_getElem? (i := 1567) (by decide +kernel)⟩
theorem lw_p89 : lw_okq (⟨"SlateHalvesModel", "tellsAct", "(II)I"⟩, 75) := ⟨⟨by decide +kernel, by decide +kernel⟩, List.mem_of_getElem? (i := 996) (by decide +kernel), List.mem_of_getElem? (i := 1570) (by decide +kernel), List.mem_of_getElem? (i := 1571) (by decide +kernel)⟩
theorem lw_p90 : lw_okq (⟨"SlateHalvesModel", "blockTells", "(II)I"⟩, 75) := ⟨⟨by decide +kernel, by decide +kernel⟩, List.mem_of_getElem? (i := 996) (by decide +kernel), List.mem_of_getElem? (i := 1574) (by decide +kernel), List.mem_of_getElem? (i := 1575) (by decide +kernel)⟩
theorem lw_p91 : lw_okq (⟨"SlateHalvesModel", "narrow", "(IJ)J"⟩, 75) := ⟨⟨by decide +kernel, by decide +kernel⟩, List.mem_of_getElem? (i := 996) (by decide +kernel), List.mem_of_getElem? (i := 1598) (by decide +kernel), List.mem_of_getElem? (i := 1599) (by decide +kernel)⟩
def lw_privs_6 : List (MethodName × Nat) := [(⟨"SlateHalvesModel", "lowest", "(III)J"⟩, 75), (⟨"SlateHalvesModel", "divisor", "(II)I"⟩, 75), (⟨"SlateHalvesModel", "isTape", "(I)Z"⟩, 75), (⟨"SlateHalvesModel", "ringsAct", "(II)I"⟩, 75), (⟨"SlateHalvesModel", "body", "(I)V"⟩, 75), (⟨"SlateHalvesModel", "blockRings", "(II)I"⟩, 75), (⟨"SlateHalvesModel", "splitsAct", "(II)I"⟩, 75), (⟨"SlateHalvesModel", "fineSplits", "(II)I"⟩, 75), (⟨"SlateHalvesModel", "blockSplits", "(II)I"⟩, 75), (⟨"SlateHalvesModel", "tellsAct", "(II)I"⟩, 75), (⟨"SlateHalvesModel", "blockTells", "(II)I"⟩, 75), (⟨"SlateHalvesModel", "narrow", "(IJ)J"⟩, 75)]
theorem lw_r6 : ∀ q ∈ lw_privs_6, lw_okq q := List.forall_mem_cons.mpr ⟨lw_p80, List.forall_mem_cons.mpr ⟨lw_p81, List.forall_mem_cons.mpr ⟨lw_p82, List.forall_mem_cons.mpr ⟨lw_p83, List.forall_mem_cons.mpr ⟨lw_p84, List.forall_mem_cons.mpr ⟨lw_p85, List.forall_mem_cons.mpr ⟨lw_p86, List.forall_mem_cons.mpr ⟨lw_p87, List.forall_mem_cons.mpr ⟨lw_p88, List.forall_mem_cons.mpr ⟨lw_p89, List.forall_mem_cons.mpr ⟨lw_p90, List.forall_mem_cons.mpr ⟨lw_p91, fun _ h => absurd h List.not_mem_nil⟩⟩⟩⟩⟩⟩⟩⟩⟩⟩⟩⟩
def lw_privs : List (MethodName × Nat) := lw_privs_1 ++ (lw_privs_2 ++ (lw_privs_3 ++ (lw_privs_4 ++ (lw_privs_5 ++ (lw_privs_6)))))
def lw_tbl : List Cond := k2_sels lw_privs ++ tables_1
theorem lw_privs_ok : ∀ q ∈ lw_privs, lw_okq q := by
  show ∀ q ∈ lw_privs_1 ++ (lw_privs_2 ++ (lw_privs_3 ++ (lw_privs_4 ++ (lw_privs_5 ++ (lw_privs_6))))), lw_okq q
  exact List.forall_mem_append.mpr ⟨lw_r1, List.forall_mem_append.mpr ⟨lw_r2, List.forall_mem_append.mpr ⟨lw_r3, List.forall_mem_append.mpr ⟨lw_r4, List.forall_mem_append.mpr ⟨lw_r5, lw_r6⟩⟩⟩⟩⟩
/-! classes: names, fields, types (starting text: claim/NAMES.whole.lean.txt) -/
def RX0 : String := "SlateHalves$Acts"
def TX0 : u_T := fun k => match k with
  | 0 => ("SlateHalves$Acts", "bodies", "[I", true)
  | 1 => ("SlateHalves$Acts", "ran", "I", false)
  | 2 => ("SlateHalves$Acts", "kind", "I", false)
  | 3 => ("SlateHalves$Acts", "v", "I", false)
  | _ => ("SlateHalves$Acts", "number", "I", false)
def tyX0 : Nat → FieldType := fun k => match k with
  | 0 => .array .int
  | 1 => .int
  | 2 => .int
  | 3 => .int
  | _ => .int
theorem nmX0 : ∀ a, a < 5 → ∀ b, b < 5 → a ≠ b → (TX0 a).2.1 ≠ (TX0 b).2.1 := by decide +kernel
theorem tyX0_ok : ∀ k, k < 5 → parseFieldDescriptor (TX0 k).2.2.1 = some (tyX0 k) := by decide +kernel
def RX1 : String := "SlateHalves$Block"
def TX1 : u_T := fun k => match k with
  | 0 => ("SlateHalves$Block", "number", "I", true)
  | 1 => ("SlateHalves$Block", "kind", "I", false)
  | 2 => ("SlateHalves$Block", "v", "I", false)
  | 3 => ("SlateHalves$Block", "thick", "I", false)
  | 4 => ("SlateHalves$Block", "dry", "I", false)
  | 5 => ("SlateHalves$Block", "split", "I", false)
  | _ => ("SlateHalves$Block", "row", "[I", true)
def tyX1 : Nat → FieldType := fun k => match k with
  | 0 => .int
  | 1 => .int
  | 2 => .int
  | 3 => .int
  | 4 => .int
  | 5 => .int
  | _ => .array .int
theorem nmX1 : ∀ a, a < 7 → ∀ b, b < 7 → a ≠ b → (TX1 a).2.1 ≠ (TX1 b).2.1 := by decide +kernel
theorem tyX1_ok : ∀ k, k < 7 → parseFieldDescriptor (TX1 k).2.2.1 = some (tyX1 k) := by decide +kernel
def RX2 : String := "SlateHalves$Blows"
def TX2 : u_T := fun k => match k with
  | 0 => ("SlateHalves$Blows", "kind", "I", false)
  | 1 => ("SlateHalves$Blows", "grip", "I", false)
  | 2 => ("SlateHalves$Blows", "lean", "I", false)
  | _ => ("SlateHalves$Blows", "mark", "I", false)
def tyX2 : Nat → FieldType := fun k => match k with
  | 0 => .int
  | 1 => .int
  | 2 => .int
  | _ => .int
theorem nmX2 : ∀ a, a < 4 → ∀ b, b < 4 → a ≠ b → (TX2 a).2.1 ≠ (TX2 b).2.1 := by decide +kernel
theorem tyX2_ok : ∀ k, k < 4 → parseFieldDescriptor (TX2 k).2.2.1 = some (tyX2 k) := by decide +kernel
def RX3 : String := "SlateHalves$Hill"
def TX3 : u_T := fun k => match k with
  | 0 => ("SlateHalves$Hill", "steps", "[I", true)
  | 1 => ("SlateHalves$Hill", "stepCount", "I", false)
  | 2 => ("SlateHalves$Hill", "thin", "I", false)
  | 3 => ("SlateHalves$Hill", "thick", "I", false)
  | _ => ("SlateHalves$Hill", "wind", "I", false)
def tyX3 : Nat → FieldType := fun k => match k with
  | 0 => .array .int
  | 1 => .int
  | 2 => .int
  | 3 => .int
  | _ => .int
theorem nmX3 : ∀ a, a < 5 → ∀ b, b < 5 → a ≠ b → (TX3 a).2.1 ≠ (TX3 b).2.1 := by decide +kernel
theorem tyX3_ok : ∀ k, k < 5 → parseFieldDescriptor (TX3 k).2.2.1 = some (tyX3 k) := by decide +kernel
def RX4 : String := "SlateHalves$HillReader"
def TX4 : u_T := fun k => match k with
  | 0 => ("SlateHalves$HillReader", "text", "[B", false)
  | 1 => ("SlateHalves$HillReader", "length", "I", false)
  | 2 => ("SlateHalves$HillReader", "place", "I", false)
  | _ => ("SlateHalves$HillReader", "hill", "LSlateHalves$Hill;", false)
def tyX4 : Nat → FieldType := fun k => match k with
  | 0 => .array .byte
  | 1 => .int
  | 2 => .int
  | _ => .object "SlateHalves$Hill"
theorem nmX4 : ∀ a, a < 4 → ∀ b, b < 4 → a ≠ b → (TX4 a).2.1 ≠ (TX4 b).2.1 := by decide +kernel
theorem tyX4_ok : ∀ k, k < 4 → parseFieldDescriptor (TX4 k).2.2.1 = some (tyX4 k) := by decide +kernel
def RX5 : String := "SlateHalves$Planner"
def TX5 : u_T := fun k => match k with
  | 0 => ("SlateHalves$Planner", "worths", "[I", true)
  | 1 => ("SlateHalves$Planner", "placed", "[I", true)
  | 2 => ("SlateHalves$Planner", "length", "I", false)
  | 3 => ("SlateHalves$Planner", "total", "I", false)
  | _ => ("SlateHalves$Planner", "most", "[I", true)
def tyX5 : Nat → FieldType := fun k => match k with
  | 0 => .array .int
  | 1 => .array .int
  | 2 => .int
  | 3 => .int
  | _ => .array .int
theorem nmX5 : ∀ a, a < 5 → ∀ b, b < 5 → a ≠ b → (TX5 a).2.1 ≠ (TX5 b).2.1 := by decide +kernel
theorem tyX5_ok : ∀ k, k < 5 → parseFieldDescriptor (TX5 k).2.2.1 = some (tyX5 k) := by decide +kernel
def RX6 : String := "SlateHalves$Rows"
def TX6 : u_T := fun k => match k with
  | 0 => ("SlateHalves$Rows", "limit", "I", true)
  | 1 => ("SlateHalves$Rows", "first", "[I", true)
  | 2 => ("SlateHalves$Rows", "second", "[I", true)
  | 3 => ("SlateHalves$Rows", "third", "[I", true)
  | _ => ("SlateHalves$Rows", "size", "I", false)
def tyX6 : Nat → FieldType := fun k => match k with
  | 0 => .int
  | 1 => .array .int
  | 2 => .array .int
  | 3 => .array .int
  | _ => .int
theorem nmX6 : ∀ a, a < 5 → ∀ b, b < 5 → a ≠ b → (TX6 a).2.1 ≠ (TX6 b).2.1 := by decide +kernel
theorem tyX6_ok : ∀ k, k < 5 → parseFieldDescriptor (TX6 k).2.2.1 = some (tyX6 k) := by decide +kernel
def RX7 : String := "SlateHalves$Scene"
def TX7 : u_T := fun k => match k with
  | 0 => ("SlateHalves$Scene", "yard", "LSlateHalves$Yard;", true)
  | 1 => ("SlateHalves$Scene", "seen", "LSlateHalves$Rows;", true)
  | 2 => ("SlateHalves$Scene", "week", "LSlateHalves$Rows;", true)
  | _ => ("SlateHalves$Scene", "book", "LSlateHalves$Rows;", true)
def tyX7 : Nat → FieldType := fun k => match k with
  | 0 => .object "SlateHalves$Yard"
  | 1 => .object "SlateHalves$Rows"
  | 2 => .object "SlateHalves$Rows"
  | _ => .object "SlateHalves$Rows"
theorem nmX7 : ∀ a, a < 4 → ∀ b, b < 4 → a ≠ b → (TX7 a).2.1 ≠ (TX7 b).2.1 := by decide +kernel
theorem tyX7_ok : ∀ k, k < 4 → parseFieldDescriptor (TX7 k).2.2.1 = some (tyX7 k) := by decide +kernel
def RX8 : String := "SlateHalves$Tape"
def TX8 : u_T := fun k => match k with
  | 0 => ("SlateHalves$Tape", "items", "[J", true)
  | 1 => ("SlateHalves$Tape", "sort", "I", false)
  | _ => ("SlateHalves$Tape", "size", "I", false)
def tyX8 : Nat → FieldType := fun k => match k with
  | 0 => .array .long
  | 1 => .int
  | _ => .int
theorem nmX8 : ∀ a, a < 3 → ∀ b, b < 3 → a ≠ b → (TX8 a).2.1 ≠ (TX8 b).2.1 := by decide +kernel
theorem tyX8_ok : ∀ k, k < 3 → parseFieldDescriptor (TX8 k).2.2.1 = some (tyX8 k) := by decide +kernel
def RX9 : String := "SlateHalves$Valuer"
def TX9 : u_T := fun k => match k with
  | 0 => ("SlateHalves$Valuer", "blows", "LSlateHalves$Blows;", true)
  | 1 => ("SlateHalves$Valuer", "best", "[I", true)
  | 2 => ("SlateHalves$Valuer", "other", "[I", true)
  | 3 => ("SlateHalves$Valuer", "thin", "I", false)
  | 4 => ("SlateHalves$Valuer", "most", "I", false)
  | 5 => ("SlateHalves$Valuer", "full", "I", false)
  | _ => ("SlateHalves$Valuer", "half", "I", false)
def tyX9 : Nat → FieldType := fun k => match k with
  | 0 => .object "SlateHalves$Blows"
  | 1 => .array .int
  | 2 => .array .int
  | 3 => .int
  | 4 => .int
  | 5 => .int
  | _ => .int
theorem nmX9 : ∀ a, a < 7 → ∀ b, b < 7 → a ≠ b → (TX9 a).2.1 ≠ (TX9 b).2.1 := by decide +kernel
theorem tyX9_ok : ∀ k, k < 7 → parseFieldDescriptor (TX9 k).2.2.1 = some (tyX9 k) := by decide +kernel
def RX10 : String := "SlateHalves$Yard"
def TX10 : u_T := fun k => match k with
  | 0 => ("SlateHalves$Yard", "blocks", "[LSlateHalves$Block;", true)
  | 1 => ("SlateHalves$Yard", "blockCount", "I", false)
  | 2 => ("SlateHalves$Yard", "earned", "I", false)
  | 3 => ("SlateHalves$Yard", "day", "I", false)
  | _ => ("SlateHalves$Yard", "hill", "I", false)
def tyX10 : Nat → FieldType := fun k => match k with
  | 0 => .array (.object "SlateHalves$Block")
  | 1 => .int
  | 2 => .int
  | 3 => .int
  | _ => .int
theorem nmX10 : ∀ a, a < 5 → ∀ b, b < 5 → a ≠ b → (TX10 a).2.1 ≠ (TX10 b).2.1 := by decide +kernel
theorem tyX10_ok : ∀ k, k < 5 → parseFieldDescriptor (TX10 k).2.2.1 = some (tyX10 k) := by decide +kernel
def RX11 : String := "SlateHalves"
def TX11 : u_T := fun k => match k with
  | 0 => ("SlateHalves", "now", "LSlateHalves$Scene;", true)
  | 1 => ("SlateHalves", "kept", "LSlateHalves$Scene;", true)
  | 2 => ("SlateHalves", "isKept", "Z", false)
  | 3 => ("SlateHalves", "later", "LSlateHalves$Yard;", true)
  | 4 => ("SlateHalves", "text", "[B", true)
  | 5 => ("SlateHalves", "textLength", "I", false)
  | 6 => ("SlateHalves", "hills", "[LSlateHalves$Hill;", true)
  | 7 => ("SlateHalves", "hillCount", "I", false)
  | 8 => ("SlateHalves", "noHill", "LSlateHalves$Hill;", true)
  | 9 => ("SlateHalves", "reader", "LSlateHalves$HillReader;", true)
  | 10 => ("SlateHalves", "blows", "LSlateHalves$Blows;", true)
  | 11 => ("SlateHalves", "valuer", "LSlateHalves$Valuer;", true)
  | 12 => ("SlateHalves", "planner", "LSlateHalves$Planner;", true)
  | 13 => ("SlateHalves", "acts", "LSlateHalves$Acts;", true)
  | _ => ("SlateHalves", "tapes", "[LSlateHalves$Tape;", true)
def tyX11 : Nat → FieldType := fun k => match k with
  | 0 => .object "SlateHalves$Scene"
  | 1 => .object "SlateHalves$Scene"
  | 2 => .boolean
  | 3 => .object "SlateHalves$Yard"
  | 4 => .array .byte
  | 5 => .int
  | 6 => .array (.object "SlateHalves$Hill")
  | 7 => .int
  | 8 => .object "SlateHalves$Hill"
  | 9 => .object "SlateHalves$HillReader"
  | 10 => .object "SlateHalves$Blows"
  | 11 => .object "SlateHalves$Valuer"
  | 12 => .object "SlateHalves$Planner"
  | 13 => .object "SlateHalves$Acts"
  | _ => .array (.object "SlateHalves$Tape")
theorem nmX11 : ∀ a, a < 15 → ∀ b, b < 15 → a ≠ b → (TX11 a).2.1 ≠ (TX11 b).2.1 := by decide +kernel
theorem tyX11_ok : ∀ k, k < 15 → parseFieldDescriptor (TX11 k).2.2.1 = some (tyX11 k) := by decide +kernel
def RX12 : String := "SlateHalvesModel"
def TX12 : u_T := fun k => match k with
  | 0 => ("SlateHalvesModel", "blocks", "I", false)
  | 1 => ("SlateHalvesModel", "days", "I", false)
  | 2 => ("SlateHalvesModel", "earned", "I", false)
  | 3 => ("SlateHalvesModel", "kind", "[I", true)
  | 4 => ("SlateHalvesModel", "v", "[I", true)
  | 5 => ("SlateHalvesModel", "thick", "[I", true)
  | 6 => ("SlateHalvesModel", "dried", "[I", true)
  | 7 => ("SlateHalvesModel", "splits", "[I", true)
  | 8 => ("SlateHalvesModel", "rows", "[I", true)
  | 9 => ("SlateHalvesModel", "hills", "I", false)
  | 10 => ("SlateHalvesModel", "the", "I", false)
  | 11 => ("SlateHalvesModel", "fed", "I", false)
  | 12 => ("SlateHalvesModel", "at", "I", false)
  | 13 => ("SlateHalvesModel", "digits", "I", false)
  | 14 => ("SlateHalvesModel", "text", "[I", true)
  | 15 => ("SlateHalvesModel", "clauses", "[I", true)
  | 16 => ("SlateHalvesModel", "word", "[I", true)
  | 17 => ("SlateHalvesModel", "number", "[I", true)
  | 18 => ("SlateHalvesModel", "from", "[I", true)
  | 19 => ("SlateHalvesModel", "to", "[I", true)
  | 20 => ("SlateHalvesModel", "sign", "[I", true)
  | 21 => ("SlateHalvesModel", "waits", "[I", true)
  | 22 => ("SlateHalvesModel", "signs", "I", false)
  | 23 => ("SlateHalvesModel", "waiting", "I", false)
  | 24 => ("SlateHalvesModel", "open", "I", false)
  | 25 => ("SlateHalvesModel", "letters", "[I", true)
  | 26 => ("SlateHalvesModel", "pile", "[Z", true)
  | 27 => ("SlateHalvesModel", "bestOf", "[I", true)
  | 28 => ("SlateHalvesModel", "fewOf", "[I", true)
  | 29 => ("SlateHalvesModel", "manyOf", "[I", true)
  | 30 => ("SlateHalvesModel", "halvesOf", "[I", true)
  | 31 => ("SlateHalvesModel", "keptDays", "I", false)
  | 32 => ("SlateHalvesModel", "keptThick", "[I", true)
  | 33 => ("SlateHalvesModel", "keptDried", "[I", true)
  | 34 => ("SlateHalvesModel", "then", "[I", true)
  | 35 => ("SlateHalvesModel", "turn", "[I", true)
  | 36 => ("SlateHalvesModel", "bestTurn", "[I", true)
  | 37 => ("SlateHalvesModel", "there", "I", false)
  | 38 => ("SlateHalvesModel", "seen", "I", false)
  | 39 => ("SlateHalvesModel", "seenX", "[I", true)
  | 40 => ("SlateHalvesModel", "seenT", "[I", true)
  | 41 => ("SlateHalvesModel", "seenClean", "[Z", true)
  | 42 => ("SlateHalvesModel", "weeks", "I", false)
  | 43 => ("SlateHalvesModel", "books", "I", false)
  | 44 => ("SlateHalvesModel", "weekWhat", "[I", true)
  | 45 => ("SlateHalvesModel", "weekWho", "[I", true)
  | 46 => ("SlateHalvesModel", "bookWho", "[I", true)
  | 47 => ("SlateHalvesModel", "bookThick", "[I", true)
  | 48 => ("SlateHalvesModel", "hasImage", "Z", false)
  | 49 => ("SlateHalvesModel", "imageThe", "I", false)
  | 50 => ("SlateHalvesModel", "imageBlocks", "I", false)
  | 51 => ("SlateHalvesModel", "imageDays", "I", false)
  | 52 => ("SlateHalvesModel", "imageEarned", "I", false)
  | 53 => ("SlateHalvesModel", "imageSeen", "I", false)
  | 54 => ("SlateHalvesModel", "imageWeeks", "I", false)
  | 55 => ("SlateHalvesModel", "imageBooks", "I", false)
  | 56 => ("SlateHalvesModel", "imageKind", "[I", true)
  | 57 => ("SlateHalvesModel", "imageV", "[I", true)
  | 58 => ("SlateHalvesModel", "imageThick", "[I", true)
  | 59 => ("SlateHalvesModel", "imageDried", "[I", true)
  | 60 => ("SlateHalvesModel", "imageSplits", "[I", true)
  | 61 => ("SlateHalvesModel", "imageRows", "[I", true)
  | 62 => ("SlateHalvesModel", "imageX", "[I", true)
  | 63 => ("SlateHalvesModel", "imageT", "[I", true)
  | 64 => ("SlateHalvesModel", "imageWhat", "[I", true)
  | 65 => ("SlateHalvesModel", "imageWho", "[I", true)
  | 66 => ("SlateHalvesModel", "imageBookWho", "[I", true)
  | 67 => ("SlateHalvesModel", "imageBookThick", "[I", true)
  | 68 => ("SlateHalvesModel", "imageClean", "[Z", true)
  | 69 => ("SlateHalvesModel", "ran", "I", false)
  | 70 => ("SlateHalvesModel", "bodies", "[I", true)
  | 71 => ("SlateHalvesModel", "sort", "[I", true)
  | 72 => ("SlateHalvesModel", "length", "[I", true)
  | 73 => ("SlateHalvesModel", "item", "[J", true)
  | _ => ("SlateHalvesModel", "aside", "[J", true)
def tyX12 : Nat → FieldType := fun k => match k with
  | 0 => .int
  | 1 => .int
  | 2 => .int
  | 3 => .array .int
  | 4 => .array .int
  | 5 => .array .int
  | 6 => .array .int
  | 7 => .array .int
  | 8 => .array .int
  | 9 => .int
  | 10 => .int
  | 11 => .int
  | 12 => .int
  | 13 => .int
  | 14 => .array .int
  | 15 => .array .int
  | 16 => .array .int
  | 17 => .array .int
  | 18 => .array .int
  | 19 => .array .int
  | 20 => .array .int
  | 21 => .array .int
  | 22 => .int
  | 23 => .int
  | 24 => .int
  | 25 => .array .int
  | 26 => .array .boolean
  | 27 => .array .int
  | 28 => .array .int
  | 29 => .array .int
  | 30 => .array .int
  | 31 => .int
  | 32 => .array .int
  | 33 => .array .int
  | 34 => .array .int
  | 35 => .array .int
  | 36 => .array .int
  | 37 => .int
  | 38 => .int
  | 39 => .array .int
  | 40 => .array .int
  | 41 => .array .boolean
  | 42 => .int
  | 43 => .int
  | 44 => .array .int
  | 45 => .array .int
  | 46 => .array .int
  | 47 => .array .int
  | 48 => .boolean
  | 49 => .int
  | 50 => .int
  | 51 => .int
  | 52 => .int
  | 53 => .int
  | 54 => .int
  | 55 => .int
  | 56 => .array .int
  | 57 => .array .int
  | 58 => .array .int
  | 59 => .array .int
  | 60 => .array .int
  | 61 => .array .int
  | 62 => .array .int
  | 63 => .array .int
  | 64 => .array .int
  | 65 => .array .int
  | 66 => .array .int
  | 67 => .array .int
  | 68 => .array .boolean
  | 69 => .int
  | 70 => .array .int
  | 71 => .array .int
  | 72 => .array .int
  | 73 => .array .long
  | _ => .array .long
theorem nmX12 : ∀ a, a < 75 → ∀ b, b < 75 → a ≠ b → (TX12 a).2.1 ≠ (TX12 b).2.1 := by decide +kernel
theorem tyX12_ok : ∀ k, k < 75 → parseFieldDescriptor (TX12 k).2.2.1 = some (tyX12 k) := by decide +kernel
abbrev vwCl : List vw_C := [(RX0, TX0, 5), (RX1, TX1, 7), (RX2, TX2, 4), (RX3, TX3, 5), (RX4, TX4, 4), (RX5, TX5, 5), (RX6, TX6, 5), (RX7, TX7, 4), (RX8, TX8, 3), (RX9, TX9, 7), (RX10, TX10, 5), (RX11, TX11, 15), (RX12, TX12, 75)]
end
section
/-! the tables of the abstract machine: written by wip/whole/gen_tables.py out of the bytes -/
/-- SlateHalvesLaw.law([I)Z -/
def zt_0 : List (Nat × Instr) := [(0, .new 7), (3, .dup), (4, .invokespecial 9), (7, .astore_n 1), (8, .new 10), (11, .dup), (12, .invokespecial 12), (15, .astore_n 2), (16, .iconst 0), (17, .istore_n 3), (18, .iload_n 3), (19, .aload_n 0), (20, .arraylength), (21, .bipush 6), (23, .isub), (24, .if_icmp .gt 1301), (27, .aload_n 0), (28, .iload_n 3), (29, .iaload), (30, .bipush 63), (32, .iand), (33, .tableswitch 1286 0 35 #[159, 202, 235, 268, 311, 344, 387, 410, 433, 446, 469, 492, 525, 548, 571, 594, 607, 666, 699, 732, 766, 790, 823, 846, 879, 892, 925, 938, 951, 994, 1017, 1050, 1073, 1116, 1189, 1223]), (192, .aload_n 1), (193, .aload_n 0), (194, .iload_n 3), (195, .iconst 1), (196, .iadd), (197, .iaload), (198, .aload_n 0), (199, .iload_n 3), (200, .iconst 2), (201, .iadd), (202, .iaload), (203, .aload_n 0), (204, .iload_n 3), (205, .iconst 3), (206, .iadd), (207, .iaload), (208, .invokevirtual 13), (211, .aload_n 2), (212, .aload_n 0), (213, .iload_n 3), (214, .iconst 1), (215, .iadd), (216, .iaload), (217, .aload_n 0), (218, .iload_n 3), (219, .iconst 2), (220, .iadd), (221, .iaload), (222, .aload_n 0), (223, .iload_n 3), (224, .iconst 3), (225, .iadd), (226, .iaload), (227, .invokevirtual 17), (230, .if_icmp .eq 1089), (233, .iconst 0), (234, .ireturn), (235, .aload_n 1), (236, .aload_n 0), (237, .iload_n 3), (238, .iconst 1), (239, .iadd), (240, .iaload), (241, .aload_n 0), (242, .iload_n 3), (243, .iconst 2), (244, .iadd), (245, .iaload), (246, .invokevirtual 18), (249, .aload_n 2), (250, .aload_n 0), (251, .iload_n 3), (252, .iconst 1), (253, .iadd), (254, .iaload), (255, .aload_n 0), (256, .iload_n 3), (257, .iconst 2), (258, .iadd), (259, .iaload), (260, .invokevirtual 22), (263, .if_icmp .eq 1056), (266, .iconst 0), (267, .ireturn), (268, .aload_n 1), (269, .aload_n 0), (270, .iload_n 3), (271, .iconst 1), (272, .iadd), (273, .iaload), (274, .aload_n 0), (275, .iload_n 3), (276, .iconst 2), (277, .iadd), (278, .iaload), (279, .invokevirtual 23), (282, .aload_n 2), (283, .aload_n 0), (284, .iload_n 3), (285, .iconst 1), (286, .iadd), (287, .iaload), (288, .aload_n 0), (289, .iload_n 3), (290, .iconst 2), (291, .iadd), (292, .iaload), (293, .invokevirtual 26), (296, .if_icmp .eq 1023), (299, .iconst 0), (300, .ireturn), (301, .aload_n 1), (302, .aload_n 0), (303, .iload_n 3), (304, .iconst 1), (305, .iadd), (306, .iaload), (307, .aload_n 0), (308, .iload_n 3), (309, .iconst 2), (310, .iadd), (311, .iaload), (312, .aload_n 0), (313, .iload_n 3), (314, .iconst 3), (315, .iadd), (316, .iaload), (317, .invokevirtual 27), (320, .aload_n 2), (321, .aload_n 0), (322, .iload_n 3), (323, .iconst 1), (324, .iadd), (325, .iaload), (326, .aload_n 0), (327, .iload_n 3), (328, .iconst 2), (329, .iadd), (330, .iaload), (331, .aload_n 0), (332, .iload_n 3), (333, .iconst 3), (334, .iadd), (335, .iaload), (336, .invokevirtual 30), (339, .if_icmp .eq 980), (342, .iconst 0), (343, .ireturn), (344, .aload_n 1), (345, .aload_n 0), (346, .iload_n 3), (347, .iconst 1), (348, .iadd), (349, .iaload), (350, .aload_n 0), (351, .iload_n 3), (352, .iconst 2), (353, .iadd), (354, .iaload), (355, .invokevirtual 31), (358, .aload_n 2), (359, .aload_n 0), (360, .iload_n 3), (361, .iconst 1), (362, .iadd), (363, .iaload), (364, .aload_n 0), (365, .iload_n 3), (366, .iconst 2), (367, .iadd), (368, .iaload), (369, .invokevirtual 34), (372, .if_icmp .eq 947), (375, .iconst 0), (376, .ireturn), (377, .aload_n 1), (378, .aload_n 0), (379, .iload_n 3), (380, .iconst 1), (381, .iadd), (382, .iaload), (383, .aload_n 0), (384, .iload_n 3), (385, .iconst 2), (386, .iadd), (387, .iaload), (388, .aload_n 0), (389, .iload_n 3), (390, .iconst 3), (391, .iadd), (392, .iaload), (393, .invokevirtual 35), (396, .aload_n 2), (397, .aload_n 0), (398, .iload_n 3), (399, .iconst 1), (400, .iadd), (401, .iaload), (402, .aload_n 0), (403, .iload_n 3), (404, .iconst 2), (405, .iadd), (406, .iaload), (407, .aload_n 0), (408, .iload_n 3), (409, .iconst 3), (410, .iadd), (411, .iaload), (412, .invokevirtual 38), (415, .if_icmp .eq 904), (418, .iconst 0), (419, .ireturn), (420, .aload_n 1), (421, .aload_n 0), (422, .iload_n 3), (423, .iconst 1), (424, .iadd), (425, .iaload), (426, .invokevirtual 39), (429, .aload_n 2), (430, .aload_n 0), (431, .iload_n 3), (432, .iconst 1), (433, .iadd), (434, .iaload), (435, .invokevirtual 43), (438, .if_icmp .eq 881), (441, .iconst 0), (442, .ireturn), (443, .aload_n 1), (444, .aload_n 0), (445, .iload_n 3), (446, .iconst 1), (447, .iadd), (448, .iaload), (449, .invokevirtual 44), (452, .aload_n 2), (453, .aload_n 0), (454, .iload_n 3), (455, .iconst 1), (456, .iadd), (457, .iaload), (458, .invokevirtual 47), (461, .if_icmp .eq 858), (464, .iconst 0), (465, .ireturn), (466, .aload_n 1), (467, .invokevirtual 48), (470, .aload_n 2), (471, .invokevirtual 52), (474, .if_icmp .eq 845), (477, .iconst 0), (478, .ireturn), (479, .aload_n 1), (480, .aload_n 0), (481, .iload_n 3), (482, .iconst 1), (483, .iadd), (484, .iaload), (485, .invokevirtual 53), (488, .aload_n 2), (489, .aload_n 0), (490, .iload_n 3), (491, .iconst 1), (492, .iadd), (493, .iaload), (494, .invokevirtual 56), (497, .if_icmp .eq 822), (500, .iconst 0), (501, .ireturn), (502, .aload_n 1), (503, .aload_n 0), (504, .iload_n 3), (505, .iconst 1), (506, .iadd), (507, .iaload), (508, .invokevirtual 57), (511, .aload_n 2), (512, .aload_n 0), (513, .iload_n 3), (514, .iconst 1), (515, .iadd), (516, .iaload), (517, .invokevirtual 60), (520, .if_icmp .eq 799), (523, .iconst 0), (524, .ireturn), (525, .aload_n 1), (526, .aload_n 0), (527, .iload_n 3), (528, .iconst 1), (529, .iadd), (530, .iaload), (531, .aload_n 0), (532, .iload_n 3), (533, .iconst 2), (534, .iadd), (535, .iaload), (536, .invokevirtual 61), (539, .aload_n 2), (540, .aload_n 0), (541, .iload_n 3), (542, .iconst 1), (543, .iadd), (544, .iaload), (545, .aload_n 0), (546, .iload_n 3), (547, .iconst 2), (548, .iadd), (549, .iaload), (550, .invokevirtual 64), (553, .if_icmp .eq 766), (556, .iconst 0), (557, .ireturn), (558, .aload_n 1), (559, .aload_n 0), (560, .iload_n 3), (561, .iconst 1), (562, .iadd), (563, .iaload), (564, .invokevirtual 65), (567, .aload_n 2), (568, .aload_n 0), (569, .iload_n 3), (570, .iconst 1), (571, .iadd), (572, .iaload), (573, .invokevirtual 68), (576, .if_icmp .eq 743), (579, .iconst 0), (580, .ireturn), (581, .aload_n 1), (582, .aload_n 0), (583, .iload_n 3), (584, .iconst 1), (585, .iadd), (586, .iaload), (587, .invokevirtual 69), (590, .aload_n 2), (591, .aload_n 0), (592, .iload_n 3), (593, .iconst 1), (594, .iadd), (595, .iaload), (596, .invokevirtual 72), (599, .if_icmp .eq 720), (602, .iconst 0), (603, .ireturn), (604, .aload_n 1), (605, .aload_n 0), (606, .iload_n 3), (607, .iconst 1), (608, .iadd), (609, .iaload), (610, .invokevirtual 73), (613, .aload_n 2), (614, .aload_n 0), (615, .iload_n 3), (616, .iconst 1), (617, .iadd), (618, .iaload), (619, .invokevirtual 76), (622, .if_icmp .eq 697), (625, .iconst 0), (626, .ireturn), (627, .aload_n 1), (628, .invokevirtual 77), (631, .aload_n 2), (632, .invokevirtual 80), (635, .if_icmp .eq 684), (638, .iconst 0), (639, .ireturn), (640, .aload_n 1), (641, .aload_n 0), (642, .iload_n 3), (643, .iconst 1), (644, .iadd), (645, .iaload), (646, .aload_n 0), (647, .iload_n 3), (648, .iconst 2), (649, .iadd), (650, .iaload), (651, .aload_n 0), (652, .iload_n 3), (653, .iconst 3), (654, .iadd), (655, .iaload), (656, .ifCond .eq 7), (659, .iconst 1), (660, .goto 4), (663, .iconst 0), (664, .invokevirtual 81), (667, .aload_n 2), (668, .aload_n 0), (669, .iload_n 3), (670, .iconst 1), (671, .iadd), (672, .iaload), (673, .aload_n 0), (674, .iload_n 3), (675, .iconst 2), (676, .iadd), (677, .iaload), (678, .aload_n 0), (679, .iload_n 3), (680, .iconst 3), (681, .iadd), (682, .iaload), (683, .ifCond .eq 7), (686, .iconst 1), (687, .goto 4), (690, .iconst 0), (691, .invokevirtual 85), (694, .if_icmp .eq 625), (697, .iconst 0), (698, .ireturn), (699, .aload_n 1), (700, .aload_n 0), (701, .iload_n 3), (702, .iconst 1), (703, .iadd), (704, .iaload), (705, .aload_n 0), (706, .iload_n 3), (707, .iconst 2), (708, .iadd), (709, .iaload), (710, .invokevirtual 86), (713, .aload_n 2), (714, .aload_n 0), (715, .iload_n 3), (716, .iconst 1), (717, .iadd), (718, .iaload), (719, .aload_n 0), (720, .iload_n 3), (721, .iconst 2), (722, .iadd), (723, .iaload), (724, .invokevirtual 89), (727, .if_icmp .eq 592), (730, .iconst 0), (731, .ireturn), (732, .aload_n 1), (733, .aload_n 0), (734, .iload_n 3), (735, .iconst 1), (736, .iadd), (737, .iaload), (738, .aload_n 0), (739, .iload_n 3), (740, .iconst 2), (741, .iadd), (742, .iaload), (743, .invokevirtual 90), (746, .aload_n 2), (747, .aload_n 0), (748, .iload_n 3), (749, .iconst 1), (750, .iadd), (751, .iaload), (752, .aload_n 0), (753, .iload_n 3), (754, .iconst 2), (755, .iadd), (756, .iaload), (757, .invokevirtual 93), (760, .if_icmp .eq 559), (763, .iconst 0), (764, .ireturn), (765, .aload_n 1), (766, .aload_n 0), (767, .iload_n 3), (768, .iconst 1), (769, .iadd), (770, .iaload), (771, .aload_n 0), (772, .iload_n 3), (773, .iconst 2), (774, .iadd), (775, .iaload), (776, .invokevirtual 94), (779, .aload_n 2), (780, .aload_n 0), (781, .iload_n 3), (782, .iconst 1), (783, .iadd), (784, .iaload), (785, .aload_n 0), (786, .iload_n 3), (787, .iconst 2), (788, .iadd), (789, .iaload), (790, .invokevirtual 98), (793, .lcmp), (794, .ifCond .eq 525), (797, .iconst 0), (798, .ireturn), (799, .aload_n 1), (800, .aload_n 0), (801, .iload_n 3), (802, .iconst 1), (803, .iadd), (804, .iaload), (805, .invokevirtual 99), (808, .aload_n 2), (809, .aload_n 0), (810, .iload_n 3), (811, .iconst 1), (812, .iadd), (813, .iaload), (814, .invokevirtual 103), (817, .lcmp), (818, .ifCond .eq 501), (821, .iconst 0), (822, .ireturn), (823, .aload_n 1), (824, .aload_n 0), (825, .iload_n 3), (826, .iconst 1), (827, .iadd), (828, .iaload), (829, .aload_n 0), (830, .iload_n 3), (831, .iconst 2), (832, .iadd), (833, .iaload), (834, .invokevirtual 104), (837, .aload_n 2), (838, .aload_n 0), (839, .iload_n 3), (840, .iconst 1), (841, .iadd), (842, .iaload), (843, .aload_n 0), (844, .iload_n 3), (845, .iconst 2), (846, .iadd), (847, .iaload), (848, .invokevirtual 107), (851, .if_icmp .eq 468), (854, .iconst 0), (855, .ireturn), (856, .aload_n 1), (857, .aload_n 0), (858, .iload_n 3), (859, .iconst 1), (860, .iadd), (861, .iaload), (862, .invokevirtual 108), (865, .aload_n 2), (866, .aload_n 0), (867, .iload_n 3), (868, .iconst 1), (869, .iadd), (870, .iaload), (871, .invokevirtual 111), (874, .if_icmp .eq 445), (877, .iconst 0), (878, .ireturn), (879, .aload_n 1), (880, .aload_n 0), (881, .iload_n 3), (882, .iconst 1), (883, .iadd), (884, .iaload), (885, .aload_n 0), (886, .iload_n 3), (887, .iconst 2), (888, .iadd), (889, .iaload), (890, .invokevirtual 112), (893, .aload_n 2), (894, .aload_n 0), (895, .iload_n 3), (896, .iconst 1), (897, .iadd), (898, .iaload), (899, .aload_n 0), (900, .iload_n 3), (901, .iconst 2), (902, .iadd), (903, .iaload), (904, .invokevirtual 115), (907, .if_icmp .eq 412), (910, .iconst 0), (911, .ireturn), (912, .aload_n 1), (913, .invokevirtual 116), (916, .aload_n 2), (917, .invokevirtual 119), (920, .if_icmp .eq 399), (923, .iconst 0), (924, .ireturn), (925, .aload_n 1), (926, .aload_n 0), (927, .iload_n 3), (928, .iconst 1), (929, .iadd), (930, .iaload), (931, .aload_n 0), (932, .iload_n 3), (933, .iconst 2), (934, .iadd), (935, .iaload), (936, .invokevirtual 120), (939, .aload_n 2), (940, .aload_n 0), (941, .iload_n 3), (942, .iconst 1), (943, .iadd), (944, .iaload), (945, .aload_n 0), (946, .iload_n 3), (947, .iconst 2), (948, .iadd), (949, .iaload), (950, .invokevirtual 123), (953, .if_icmp .eq 366), (956, .iconst 0), (957, .ireturn), (958, .aload_n 1), (959, .invokevirtual 124), (962, .aload_n 2), (963, .invokevirtual 127), (966, .if_icmp .eq 353), (969, .iconst 0), (970, .ireturn), (971, .aload_n 1), (972, .invokevirtual 128), (975, .aload_n 2), (976, .invokevirtual 131), (979, .if_icmp .eq 340), (982, .iconst 0), (983, .ireturn), (984, .aload_n 1), (985, .aload_n 0), (986, .iload_n 3), (987, .iconst 1), (988, .iadd), (989, .iaload), (990, .aload_n 0), (991, .iload_n 3), (992, .iconst 2), (993, .iadd), (994, .iaload), (995, .aload_n 0), (996, .iload_n 3), (997, .iconst 3), (998, .iadd), (999, .iaload), (1000, .invokevirtual 132), (1003, .aload_n 2), (1004, .aload_n 0), (1005, .iload_n 3), (1006, .iconst 1), (1007, .iadd), (1008, .iaload), (1009, .aload_n 0), (1010, .iload_n 3), (1011, .iconst 2), (1012, .iadd), (1013, .iaload), (1014, .aload_n 0), (1015, .iload_n 3), (1016, .iconst 3), (1017, .iadd), (1018, .iaload), (1019, .invokevirtual 135), (1022, .if_icmp .eq 297), (1025, .iconst 0), (1026, .ireturn), (1027, .aload_n 1), (1028, .aload_n 0), (1029, .iload_n 3), (1030, .iconst 1), (1031, .iadd), (1032, .iaload), (1033, .invokevirtual 136), (1036, .aload_n 2), (1037, .aload_n 0), (1038, .iload_n 3), (1039, .iconst 1), (1040, .iadd), (1041, .iaload), (1042, .invokevirtual 139), (1045, .if_icmp .eq 274), (1048, .iconst 0), (1049, .ireturn), (1050, .aload_n 1), (1051, .aload_n 0), (1052, .iload_n 3), (1053, .iconst 1), (1054, .iadd), (1055, .iaload), (1056, .aload_n 0), (1057, .iload_n 3), (1058, .iconst 2), (1059, .iadd), (1060, .iaload), (1061, .invokevirtual 140), (1064, .aload_n 2), (1065, .aload_n 0), (1066, .iload_n 3), (1067, .iconst 1), (1068, .iadd), (1069, .iaload), (1070, .aload_n 0), (1071, .iload_n 3), (1072, .iconst 2), (1073, .iadd), (1074, .iaload), (1075, .invokevirtual 143), (1078, .if_icmp .eq 241), (1081, .iconst 0), (1082, .ireturn), (1083, .aload_n 1), (1084, .aload_n 0), (1085, .iload_n 3), (1086, .iconst 1), (1087, .iadd), (1088, .iaload), (1089, .invokevirtual 144), (1092, .aload_n 2), (1093, .aload_n 0), (1094, .iload_n 3), (1095, .iconst 1), (1096, .iadd), (1097, .iaload), (1098, .invokevirtual 147), (1101, .if_icmp .eq 218), (1104, .iconst 0), (1105, .ireturn), (1106, .aload_n 1), (1107, .aload_n 0), (1108, .iload_n 3), (1109, .iconst 1), (1110, .iadd), (1111, .iaload), (1112, .aload_n 0), (1113, .iload_n 3), (1114, .iconst 2), (1115, .iadd), (1116, .iaload), (1117, .aload_n 0), (1118, .iload_n 3), (1119, .iconst 3), (1120, .iadd), (1121, .iaload), (1122, .invokevirtual 148), (1125, .aload_n 2), (1126, .aload_n 0), (1127, .iload_n 3), (1128, .iconst 1), (1129, .iadd), (1130, .iaload), (1131, .aload_n 0), (1132, .iload_n 3), (1133, .iconst 2), (1134, .iadd), (1135, .iaload), (1136, .aload_n 0), (1137, .iload_n 3), (1138, .iconst 3), (1139, .iadd), (1140, .iaload), (1141, .invokevirtual 151), (1144, .if_icmp .eq 175), (1147, .iconst 0), (1148, .ireturn), (1149, .aload_n 1), (1150, .aload_n 0), (1151, .iload_n 3), (1152, .iconst 1), (1153, .iadd), (1154, .iaload), (1155, .aload_n 0), (1156, .iload_n 3), (1157, .iconst 2), (1158, .iadd), (1159, .iaload), (1160, .aload_n 0), (1161, .iload_n 3), (1162, .iconst 3), (1163, .iadd), (1164, .iaload), (1165, .i2l), (1166, .bipush 32), (1168, .lshl), (1169, .aload_n 0), (1170, .iload_n 3), (1171, .iconst 4), (1172, .iadd), (1173, .iaload), (1174, .i2l), (1175, .ldc2_w 152), (1178, .land), (1179, .lor), (1180, .invokevirtual 154), (1183, .aload_n 2), (1184, .aload_n 0), (1185, .iload_n 3), (1186, .iconst 1), (1187, .iadd), (1188, .iaload), (1189, .aload_n 0), (1190, .iload_n 3), (1191, .iconst 2), (1192, .iadd), (1193, .iaload), (1194, .aload_n 0), (1195, .iload_n 3), (1196, .iconst 3), (1197, .iadd), (1198, .iaload), (1199, .i2l), (1200, .bipush 32), (1202, .lshl), (1203, .aload_n 0), (1204, .iload_n 3), (1205, .iconst 4), (1206, .iadd), (1207, .iaload), (1208, .i2l), (1209, .ldc2_w 152), (1212, .land), (1213, .lor), (1214, .invokevirtual 158), (1217, .if_icmp .eq 102), (1220, .iconst 0), (1221, .ireturn), (1222, .aload_n 1), (1223, .aload_n 0), (1224, .iload_n 3), (1225, .iconst 1), (1226, .iadd), (1227, .iaload), (1228, .aload_n 0), (1229, .iload_n 3), (1230, .iconst 2), (1231, .iadd), (1232, .iaload), (1233, .invokevirtual 159), (1236, .aload_n 2), (1237, .aload_n 0), (1238, .iload_n 3), (1239, .iconst 1), (1240, .iadd), (1241, .iaload), (1242, .aload_n 0), (1243, .iload_n 3), (1244, .iconst 2), (1245, .iadd), (1246, .iaload), (1247, .invokevirtual 162), (1250, .lcmp), (1251, .ifCond .eq 68), (1254, .iconst 0), (1255, .ireturn), (1256, .aload_n 1), (1257, .aload_n 0), (1258, .iload_n 3), (1259, .iconst 1), (1260, .iadd), (1261, .iaload), (1262, .aload_n 0), (1263, .iload_n 3), (1264, .iconst 2), (1265, .iadd), (1266, .iaload), (1267, .aload_n 0), (1268, .iload_n 3), (1269, .iconst 3), (1270, .iadd), (1271, .iaload), (1272, .aload_n 0), (1273, .iload_n 3), (1274, .iconst 4), (1275, .iadd), (1276, .iaload), (1277, .aload_n 0), (1278, .iload_n 3), (1279, .iconst 5), (1280, .iadd), (1281, .iaload), (1282, .invokevirtual 163), (1285, .aload_n 2), (1286, .aload_n 0), (1287, .iload_n 3), (1288, .iconst 1), (1289, .iadd), (1290, .iaload), (1291, .aload_n 0), (1292, .iload_n 3), (1293, .iconst 2), (1294, .iadd), (1295, .iaload), (1296, .aload_n 0), (1297, .iload_n 3), (1298, .iconst 3), (1299, .iadd), (1300, .iaload), (1301, .aload_n 0), (1302, .iload_n 3), (1303, .iconst 4), (1304, .iadd), (1305, .iaload), (1306, .aload_n 0), (1307, .iload_n 3), (1308, .iconst 5), (1309, .iadd), (1310, .iaload), (1311, .invokevirtual 167), (1314, .if_icmp .eq 5), (1317, .iconst 0), (1318, .ireturn), (1319, .iinc 3 6), (1322, .goto (-1304)), (1325, .iconst 1), (1326, .ireturn)]
/-- SlateHalves.<init>()V -/
def zt_1 : List (Nat × Instr) := [(0, .aload_n 0), (1, .invokespecial 3), (4, .aload_n 0), (5, .new 9), (8, .dup), (9, .invokespecial 11), (12, .putfield 12), (15, .aload_n 0), (16, .new 9), (19, .dup), (20, .invokespecial 11), (23, .putfield 18), (26, .aload_n 0), (27, .iconst 0), (28, .putfield 21), (31, .aload_n 0), (32, .new 25), (35, .dup), (36, .invokespecial 27), (39, .putfield 28), (42, .aload_n 0), (43, .bipush 100), (45, .newarray .byte), (47, .putfield 32), (50, .aload_n 0), (51, .iconst 0), (52, .putfield 36), (55, .aload_n 0), (56, .bipush 6), (58, .anewarray 40), (61, .putfield 42), (64, .aload_n 0), (65, .iconst 0), (66, .putfield 46), (69, .aload_n 0), (70, .new 40), (73, .dup), (74, .invokespecial 49), (77, .putfield 50), (80, .aload_n 0), (81, .new 54), (84, .dup), (85, .invokespecial 56), (88, .putfield 57), (91, .aload_n 0), (92, .new 61), (95, .dup), (96, .invokespecial 63), (99, .putfield 64), (102, .aload_n 0), (103, .new 68), (106, .dup), (107, .invokespecial 70), (110, .putfield 71), (113, .aload_n 0), (114, .new 75), (117, .dup), (118, .invokespecial 77), (121, .putfield 78), (124, .aload_n 0), (125, .new 82), (128, .dup), (129, .invokespecial 84), (132, .putfield 85), (135, .aload_n 0), (136, .bipush 6), (138, .anewarray 89), (141, .putfield 91), (144, .iconst 0), (145, .istore_n 1), (146, .iload_n 1), (147, .bipush 6), (149, .if_icmp .ge 22), (152, .aload_n 0), (153, .getfield 42), (156, .iload_n 1), (157, .new 40), (160, .dup), (161, .invokespecial 49), (164, .aastore), (165, .iinc 1 1), (168, .goto (-22)), (171, .iconst 0), (172, .istore_n 1), (173, .iload_n 1), (174, .bipush 6), (176, .if_icmp .ge 22), (179, .aload_n 0), (180, .getfield 91), (183, .iload_n 1), (184, .new 89), (187, .dup), (188, .invokespecial 95), (191, .aastore), (192, .iinc 1 1), (195, .goto (-22)), (198, .return_)]
/-- SlateHalves$Scene.<init>()V -/
def zt_2 : List (Nat × Instr) := [(0, .aload_n 0), (1, .invokespecial 3), (4, .aload_n 0), (5, .new 9), (8, .dup), (9, .invokespecial 11), (12, .putfield 12), (15, .aload_n 0), (16, .new 18), (19, .dup), (20, .bipush 6), (22, .invokespecial 20), (25, .putfield 23), (28, .aload_n 0), (29, .new 18), (32, .dup), (33, .bipush 10), (35, .invokespecial 20), (38, .putfield 27), (41, .aload_n 0), (42, .new 18), (45, .dup), (46, .bipush 8), (48, .invokespecial 20), (51, .putfield 30), (54, .return_)]
/-- SlateHalves$Yard.<init>()V -/
def zt_3 : List (Nat × Instr) := [(0, .aload_n 0), (1, .invokespecial 3), (4, .aload_n 0), (5, .bipush 6), (7, .anewarray 9), (10, .putfield 11), (13, .aload_n 0), (14, .iconst 0), (15, .putfield 17), (18, .aload_n 0), (19, .iconst 0), (20, .putfield 21), (23, .aload_n 0), (24, .iconst 0), (25, .putfield 24), (28, .aload_n 0), (29, .iconst (-1)), (30, .putfield 27), (33, .iconst 0), (34, .istore_n 1), (35, .iload_n 1), (36, .bipush 6), (38, .if_icmp .ge 23), (41, .aload_n 0), (42, .getfield 11), (45, .iload_n 1), (46, .new 9), (49, .dup), (50, .iload_n 1), (51, .invokespecial 30), (54, .aastore), (55, .iinc 1 1), (58, .goto (-23)), (61, .return_)]
/-- SlateHalves$Block.<init>(I)V -/
def zt_4 : List (Nat × Instr) := [(0, .aload_n 0), (1, .invokespecial 3), (4, .aload_n 0), (5, .iconst 4), (6, .newarray .int), (8, .putfield 9), (11, .aload_n 0), (12, .iload_n 1), (13, .putfield 15), (16, .return_)]
/-- SlateHalves$Rows.<init>(I)V -/
def zt_5 : List (Nat × Instr) := [(0, .aload_n 0), (1, .invokespecial 3), (4, .aload_n 0), (5, .iconst 0), (6, .putfield 9), (9, .aload_n 0), (10, .iload_n 1), (11, .putfield 15), (14, .aload_n 0), (15, .iload_n 1), (16, .newarray .int), (18, .putfield 18), (21, .aload_n 0), (22, .iload_n 1), (23, .newarray .int), (25, .putfield 22), (28, .aload_n 0), (29, .iload_n 1), (30, .newarray .int), (32, .putfield 25), (35, .return_)]
/-- SlateHalves$Hill.<init>()V -/
def zt_6 : List (Nat × Instr) := [(0, .aload_n 0), (1, .invokespecial 3), (4, .aload_n 0), (5, .bipush 100), (7, .newarray .int), (9, .putfield 9), (12, .aload_n 0), (13, .iconst 0), (14, .putfield 15), (17, .aload_n 0), (18, .iconst 2), (19, .putfield 19), (22, .aload_n 0), (23, .iconst 5), (24, .putfield 22), (27, .aload_n 0), (28, .iconst 1), (29, .putfield 25), (32, .return_)]
/-- SlateHalves$HillReader.<init>()V -/
def zt_7 : List (Nat × Instr) := [(0, .aload_n 0), (1, .invokespecial 1), (4, .aload_n 0), (5, .iconst 0), (6, .newarray .byte), (8, .putfield 7), (11, .aload_n 0), (12, .iconst 0), (13, .putfield 13), (16, .aload_n 0), (17, .iconst 0), (18, .putfield 17), (21, .aload_n 0), (22, .new 20), (25, .dup), (26, .invokespecial 22), (29, .putfield 23), (32, .return_)]
/-- SlateHalves$Blows.<init>()V -/
def zt_8 : List (Nat × Instr) := [(0, .aload_n 0), (1, .invokespecial 3), (4, .aload_n 0), (5, .iconst 1), (6, .putfield 9), (9, .return_)]
/-- SlateHalves$Valuer.<init>()V -/
def zt_9 : List (Nat × Instr) := [(0, .aload_n 0), (1, .invokespecial 3), (4, .aload_n 0), (5, .new 9), (8, .dup), (9, .invokespecial 11), (12, .putfield 12), (15, .aload_n 0), (16, .bipush 61), (18, .newarray .int), (20, .putfield 18), (23, .aload_n 0), (24, .bipush 61), (26, .newarray .int), (28, .putfield 22), (31, .return_)]
/-- SlateHalves$Planner.<init>()V -/
def zt_10 : List (Nat × Instr) := [(0, .aload_n 0), (1, .invokespecial 3), (4, .aload_n 0), (5, .bipush 36), (7, .newarray .int), (9, .putfield 9), (12, .aload_n 0), (13, .bipush 6), (15, .newarray .int), (17, .putfield 15), (20, .aload_n 0), (21, .iconst 0), (22, .putfield 18), (25, .aload_n 0), (26, .iconst 0), (27, .putfield 22), (30, .aload_n 0), (31, .bipush 64), (33, .newarray .int), (35, .putfield 25), (38, .return_)]
/-- SlateHalves$Acts.<init>()V -/
def zt_11 : List (Nat × Instr) := [(0, .aload_n 0), (1, .invokespecial 3), (4, .aload_n 0), (5, .bipush 20), (7, .newarray .int), (9, .putfield 9), (12, .aload_n 0), (13, .iconst 0), (14, .putfield 15), (17, .return_)]
/-- SlateHalves$Tape.<init>()V -/
def zt_12 : List (Nat × Instr) := [(0, .aload_n 0), (1, .invokespecial 3), (4, .aload_n 0), (5, .bipush 60), (7, .newarray .long), (9, .putfield 9), (12, .aload_n 0), (13, .iconst (-1)), (14, .putfield 15), (17, .aload_n 0), (18, .iconst 0), (19, .putfield 19), (22, .return_)]
/-- SlateHalves.block(III)I -/
def zt_13 : List (Nat × Instr) := [(0, .iload_n 1), (1, .iconst 0), (2, .bipush 6), (4, .invokestatic 96), (7, .ifCond .ne 5), (10, .iconst (-1)), (11, .ireturn), (12, .iload_n 2), (13, .iconst 0), (14, .bipush 9), (16, .invokestatic 96), (19, .ifCond .eq 13), (22, .iload_n 3), (23, .iconst 1), (24, .bipush 60), (26, .invokestatic 96), (29, .ifCond .ne 6), (32, .bipush (-2)), (34, .ireturn), (35, .aload_n 0), (36, .getfield 12), (39, .getfield 100), (42, .invokevirtual 103), (45, .astore 4), (47, .aload 4), (49, .ifnonnull 6), (52, .bipush (-4)), (54, .ireturn), (55, .aload 4), (57, .iload_n 1), (58, .iload_n 2), (59, .iload_n 3), (60, .invokevirtual 107), (63, .aload 4), (65, .getfield 113), (68, .ireturn)]
/-- SlateHalves.isWithin(III)Z -/
def zt_14 : List (Nat × Instr) := [(0, .iload_n 0), (1, .iload_n 1), (2, .if_icmp .lt 12), (5, .iload_n 0), (6, .iload_n 2), (7, .if_icmp .gt 7), (10, .iconst 1), (11, .goto 4), (14, .iconst 0), (15, .ireturn)]
/-- SlateHalves$Yard.addBlock()LSlateHalves$Block; -/
def zt_15 : List (Nat × Instr) := [(0, .aload_n 0), (1, .getfield 17), (4, .bipush 6), (6, .if_icmp .lt 5), (9, .aconst_null), (10, .areturn), (11, .aload_n 0), (12, .dup), (13, .getfield 17), (16, .iconst 1), (17, .iadd), (18, .putfield 17), (21, .aload_n 0), (22, .getfield 11), (25, .aload_n 0), (26, .getfield 17), (29, .iconst 1), (30, .isub), (31, .aaload), (32, .areturn)]
/-- SlateHalves$Block.become(III)V -/
def zt_16 : List (Nat × Instr) := [(0, .aload_n 0), (1, .iload_n 1), (2, .putfield 22), (5, .aload_n 0), (6, .iload_n 2), (7, .putfield 25), (10, .aload_n 0), (11, .iload_n 3), (12, .putfield 19), (15, .aload_n 0), (16, .iconst 0), (17, .putfield 28), (20, .aload_n 0), (21, .iconst 0), (22, .putfield 31), (25, .aload_n 0), (26, .getfield 9), (29, .iconst 0), (30, .invokestatic 34), (33, .return_)]
/-- java/util/Arrays.fill([II)V -/
def zt_17 : List (Nat × Instr) := [(0, .iconst 0), (1, .istore_n 2), (2, .aload_n 0), (3, .arraylength), (4, .istore_n 3), (5, .iload_n 2), (6, .iload_n 3), (7, .if_icmp .ge 13), (10, .aload_n 0), (11, .iload_n 2), (12, .iload_n 1), (13, .iastore), (14, .iinc 2 1), (17, .goto (-12)), (20, .return_)]
/-- SlateHalves.of(II)I -/
def zt_18 : List (Nat × Instr) := [(0, .aload_n 0), (1, .getfield 12), (4, .getfield 100), (7, .iload_n 1), (8, .invokevirtual 116), (11, .astore_n 3), (12, .aload_n 3), (13, .ifnonnull 5), (16, .iconst (-1)), (17, .ireturn), (18, .iload_n 2), (19, .tableswitch 117 0 7 #[45, 50, 55, 60, 65, 70, 89, 105]), (64, .aload_n 3), (65, .getfield 120), (68, .ireturn), (69, .aload_n 3), (70, .getfield 123), (73, .ireturn), (74, .aload_n 3), (75, .getfield 126), (78, .ireturn), (79, .aload_n 3), (80, .getfield 129), (83, .ireturn), (84, .aload_n 3), (85, .getfield 132), (88, .ireturn), (89, .aload_n 0), (90, .invokevirtual 135), (93, .aload_n 3), (94, .aload_n 0), (95, .getfield 12), (98, .getfield 100), (101, .getfield 139), (104, .invokevirtual 142), (107, .ireturn), (108, .aload_n 3), (109, .getfield 120), (112, .aload_n 3), (113, .getfield 123), (116, .aload_n 3), (117, .getfield 129), (120, .invokestatic 146), (123, .ireturn), (124, .aload_n 3), (125, .aload_n 0), (126, .invokevirtual 135), (129, .getfield 150), (132, .invokestatic 153), (135, .ireturn), (136, .aload_n 0), (137, .aload_n 3), (138, .iload_n 2), (139, .invokevirtual 156), (142, .ireturn)]
/-- SlateHalves$Yard.find(I)LSlateHalves$Block; -/
def zt_19 : List (Nat × Instr) := [(0, .iload_n 1), (1, .iconst 0), (2, .aload_n 0), (3, .getfield 17), (6, .iconst 1), (7, .isub), (8, .invokestatic 33), (11, .ifCond .eq 12), (14, .aload_n 0), (15, .getfield 11), (18, .iload_n 1), (19, .aaload), (20, .goto 4), (23, .aconst_null), (24, .areturn)]
/-- SlateHalves.holding()LSlateHalves$Hill; -/
def zt_20 : List (Nat × Instr) := [(0, .aload_n 0), (1, .getfield 12), (4, .getfield 100), (7, .getfield 223), (10, .istore_n 1), (11, .iload_n 1), (12, .iconst 0), (13, .aload_n 0), (14, .getfield 46), (17, .iconst 1), (18, .isub), (19, .invokestatic 96), (22, .ifCond .eq 12), (25, .aload_n 0), (26, .getfield 42), (29, .iload_n 1), (30, .aaload), (31, .goto 7), (34, .aload_n 0), (35, .getfield 50), (38, .areturn)]
/-- SlateHalves$Hill.priceOf(LSlateHalves$Block;I)I -/
def zt_21 : List (Nat × Instr) := [(0, .bipush 10), (2, .istore_n 3), (3, .iconst 0), (4, .istore 4), (6, .iconst 0), (7, .istore 5), (9, .iload 5), (11, .aload_n 0), (12, .getfield 15), (15, .if_icmp .ge 159), (18, .aload_n 0), (19, .getfield 9), (22, .iload 5), (24, .iaload), (25, .istore 6), (27, .iload 6), (29, .bipush 24), (31, .ishr), (32, .tableswitch 119 0 4 #[36, 61, 70, 85, 99]), (68, .iload 4), (70, .iconst 1), (71, .ishl), (72, .iload 6), (74, .aload_n 1), (75, .iload_n 2), (76, .invokestatic 38), (79, .ifCond .eq 7), (82, .iconst 1), (83, .goto 4), (86, .iconst 0), (87, .ior), (88, .istore 4), (90, .goto 78), (93, .iload 4), (95, .iconst 1), (96, .ixor), (97, .istore 4), (99, .goto 69), (102, .iload 4), (104, .iconst 1), (105, .ishr), (106, .iload 4), (108, .bipush (-2)), (110, .ior), (111, .iand), (112, .istore 4), (114, .goto 54), (117, .iload 4), (119, .iconst 1), (120, .ishr), (121, .iload 4), (123, .iconst 1), (124, .iand), (125, .ior), (126, .istore 4), (128, .goto 40), (131, .iload_n 3), (132, .iload 4), (134, .iconst 1), (135, .iand), (136, .iload 6), (138, .sipush 255), (141, .iand), (142, .imul), (143, .iadd), (144, .istore_n 3), (145, .iconst 0), (146, .istore 4), (148, .goto 20), (151, .iload_n 3), (152, .iload 4), (154, .iconst 1), (155, .iand), (156, .iload 6), (158, .sipush 255), (161, .iand), (162, .imul), (163, .isub), (164, .istore_n 3), (165, .iconst 0), (166, .istore 4), (168, .iinc 5 1), (171, .goto (-162)), (174, .iconst 0), (175, .iload_n 3), (176, .invokestatic 28), (179, .ireturn)]
/-- SlateHalves$Hill.holdsTest(ILSlateHalves$Block;I)Z -/
def zt_22 : List (Nat × Instr) := [(0, .iload_n 0), (1, .bipush 16), (3, .ishr), (4, .sipush 255), (7, .iand), (8, .aload_n 1), (9, .iload_n 2), (10, .invokestatic 42), (13, .istore_n 3), (14, .iload_n 0), (15, .sipush 255), (18, .iand), (19, .istore 4), (21, .iload_n 0), (22, .bipush 8), (24, .ishr), (25, .sipush 255), (28, .iand), (29, .lookupswitch 51 #[(60, 27), (61, 39)]), (56, .iload_n 3), (57, .iload 4), (59, .if_icmp .ge 7), (62, .iconst 1), (63, .goto 4), (66, .iconst 0), (67, .ireturn), (68, .iload_n 3), (69, .iload 4), (71, .if_icmp .ne 7), (74, .iconst 1), (75, .goto 4), (78, .iconst 0), (79, .ireturn), (80, .iload_n 3), (81, .iload 4), (83, .if_icmp .le 7), (86, .iconst 1), (87, .goto 4), (90, .iconst 0), (91, .ireturn)]
/-- SlateHalves$Hill.looksAt(ILSlateHalves$Block;I)I -/
def zt_23 : List (Nat × Instr) := [(0, .iload_n 0), (1, .lookupswitch 82 #[(98, 51), (100, 74), (107, 56), (116, 66), (118, 61)]), (52, .aload_n 1), (53, .getfield 46), (56, .ireturn), (57, .aload_n 1), (58, .getfield 51), (61, .ireturn), (62, .aload_n 1), (63, .getfield 54), (66, .ireturn), (67, .aload_n 1), (68, .getfield 57), (71, .bipush 10), (73, .idiv), (74, .ireturn), (75, .aload_n 1), (76, .getfield 58), (79, .bipush 10), (81, .idiv), (82, .ireturn), (83, .iload_n 2), (84, .bipush 10), (86, .irem), (87, .ireturn)]
/-- java/lang/Math.max(II)I -/
def zt_24 : List (Nat × Instr) := [(0, .iload_n 0), (1, .iload_n 1), (2, .if_icmp .lt 7), (5, .iload_n 0), (6, .goto 4), (9, .iload_n 1), (10, .ireturn)]
/-- SlateHalves.gripOf(III)I -/
def zt_25 : List (Nat × Instr) := [(0, .iload_n 0), (1, .iconst 1), (2, .if_icmp .eq 8), (5, .iload_n 0), (6, .iconst 4), (7, .if_icmp .ne 11), (10, .iconst 3), (11, .iload_n 1), (12, .iconst 3), (13, .idiv), (14, .iadd), (15, .goto 4), (18, .iconst 3), (19, .istore_n 3), (20, .iconst 0), (21, .iload_n 3), (22, .iload_n 2), (23, .bipush 10), (25, .idiv), (26, .isub), (27, .invokestatic 190), (30, .ireturn)]
/-- SlateHalves.driesOf(LSlateHalves$Block;I)I -/
def zt_26 : List (Nat × Instr) := [(0, .aload_n 0), (1, .getfield 120), (4, .iconst 5), (5, .if_icmp .ne 9), (8, .iload_n 1), (9, .iconst 2), (10, .idiv), (11, .goto 4), (14, .iload_n 1), (15, .ireturn)]
/-- SlateHalves.valueOf(LSlateHalves$Block;I)I -/
def zt_27 : List (Nat × Instr) := [(0, .aload_n 0), (1, .getfield 71), (4, .aload_n 1), (5, .aload_n 0), (6, .getfield 12), (9, .getfield 100), (12, .getfield 139), (15, .aload_n 0), (16, .invokevirtual 135), (19, .invokevirtual 159), (22, .iload_n 2), (23, .tableswitch 109 8 13 #[37, 49, 61, 73, 85, 97]), (60, .aload_n 0), (61, .getfield 71), (64, .aload_n 1), (65, .getfield 126), (68, .invokevirtual 163), (71, .ireturn), (72, .aload_n 0), (73, .getfield 71), (76, .aload_n 1), (77, .getfield 126), (80, .invokevirtual 167), (83, .ireturn), (84, .aload_n 0), (85, .getfield 71), (88, .aload_n 1), (89, .getfield 126), (92, .invokevirtual 170), (95, .ireturn), (96, .aload_n 0), (97, .getfield 71), (100, .aload_n 1), (101, .getfield 126), (104, .invokevirtual 173), (107, .ireturn), (108, .aload_n 0), (109, .getfield 71), (112, .aload_n 1), (113, .getfield 126), (116, .invokevirtual 176), (119, .ireturn), (120, .aload_n 0), (121, .getfield 71), (124, .aload_n 1), (125, .getfield 126), (128, .invokevirtual 179), (131, .ireturn), (132, .iconst (-1)), (133, .ireturn)]
/-- SlateHalves$Valuer.setBy(LSlateHalves$Block;ILSlateHalves$Hill;)V -/
def zt_28 : List (Nat × Instr) := [(0, .aload_n 0), (1, .getfield 12), (4, .aload_n 1), (5, .aload_n 1), (6, .getfield 25), (9, .aload_n 1), (10, .getfield 31), (13, .iload_n 2), (14, .invokevirtual 34), (17, .aload_n 0), (18, .aload_n 3), (19, .invokevirtual 38), (22, .putfield 44), (25, .aload_n 0), (26, .aload_n 3), (27, .invokevirtual 47), (30, .putfield 50), (33, .aload_n 0), (34, .aload_n 3), (35, .aload_n 1), (36, .iload_n 2), (37, .invokevirtual 53), (40, .putfield 57), (43, .aload_n 0), (44, .aload_n 0), (45, .getfield 57), (48, .iconst 2), (49, .idiv), (50, .putfield 60), (53, .return_)]
/-- SlateHalves$Blows.setAs(LSlateHalves$Block;III)V -/
def zt_29 : List (Nat × Instr) := [(0, .aload_n 0), (1, .aload_n 1), (2, .getfield 27), (5, .putfield 30), (8, .aload_n 0), (9, .aload_n 0), (10, .getfield 30), (13, .iload_n 2), (14, .iload_n 3), (15, .invokestatic 31), (18, .putfield 35), (21, .aload_n 0), (22, .aload_n 0), (23, .getfield 30), (26, .bipush 6), (28, .if_icmp .ne 17), (31, .aload_n 1), (32, .getfield 38), (35, .iload 4), (37, .iconst 4), (38, .invokestatic 42), (41, .iaload), (42, .goto 4), (45, .iconst 0), (46, .putfield 48), (49, .aload_n 0), (50, .iload_n 2), (51, .iconst 1), (52, .iadd), (53, .putfield 9), (56, .return_)]
/-- java/lang/Math.floorMod(II)I -/
def zt_30 : List (Nat × Instr) := [(0, .iload_n 0), (1, .iload_n 1), (2, .irem), (3, .istore_n 2), (4, .iload_n 0), (5, .iload_n 1), (6, .ixor), (7, .ifCond .ge 11), (10, .iload_n 2), (11, .ifCond .eq 7), (14, .iload_n 2), (15, .iload_n 1), (16, .iadd), (17, .ireturn), (18, .iload_n 2), (19, .ireturn)]
/-- SlateHalves$Hill.thinnest()I -/
def zt_31 : List (Nat × Instr) := [(0, .iconst 1), (1, .aload_n 0), (2, .getfield 19), (5, .invokestatic 28), (8, .ireturn)]
/-- SlateHalves$Hill.thickest()I -/
def zt_32 : List (Nat × Instr) := [(0, .aload_n 0), (1, .invokevirtual 34), (4, .aload_n 0), (5, .getfield 22), (8, .invokestatic 28), (11, .ireturn)]
/-- SlateHalves$Valuer.worthOf(I)I -/
def zt_33 : List (Nat × Instr) := [(0, .iload_n 1), (1, .aload_n 0), (2, .getfield 44), (5, .if_icmp .lt 13), (8, .iload_n 1), (9, .iconst 2), (10, .aload_n 0), (11, .getfield 50), (14, .imul), (15, .if_icmp .le 5), (18, .iconst 0), (19, .ireturn), (20, .iload_n 1), (21, .aload_n 0), (22, .getfield 50), (25, .if_icmp .gt 10), (28, .aload_n 0), (29, .getfield 57), (32, .goto 7), (35, .aload_n 0), (36, .getfield 60), (39, .ireturn)]
/-- SlateHalves$Valuer.bestOf(I)I -/
def zt_34 : List (Nat × Instr) := [(0, .aload_n 0), (1, .iload_n 1), (2, .invokevirtual 63), (5, .aload_n 0), (6, .getfield 18), (9, .iload_n 1), (10, .invokestatic 67), (13, .iaload), (14, .ireturn)]
/-- SlateHalves$Valuer.fillBest(I)V -/
def zt_35 : List (Nat × Instr) := [(0, .iload_n 1), (1, .invokestatic 67), (4, .istore_n 2), (5, .aload_n 0), (6, .getfield 18), (9, .iconst 0), (10, .iconst 0), (11, .iastore), (12, .iconst 1), (13, .istore_n 3), (14, .iload_n 3), (15, .iload_n 2), (16, .if_icmp .gt 97), (19, .aload_n 0), (20, .iload_n 3), (21, .invokevirtual 74), (24, .aload_n 0), (25, .getfield 18), (28, .iload_n 3), (29, .iconst 1), (30, .isub), (31, .iaload), (32, .invokestatic 90), (35, .istore 4), (37, .aload_n 0), (38, .getfield 12), (41, .iload_n 3), (42, .invokevirtual 93), (45, .istore 5), (47, .aload_n 0), (48, .getfield 12), (51, .iload_n 3), (52, .invokevirtual 96), (55, .istore 6), (57, .iload 6), (59, .iload 5), (61, .if_icmp .gt 23), (64, .iload 4), (66, .aload_n 0), (67, .iload_n 3), (68, .iload 6), (70, .invokevirtual 99), (73, .invokestatic 90), (76, .istore 4), (78, .iinc 6 1), (81, .goto (-24)), (84, .aload_n 0), (85, .getfield 18), (88, .iload_n 3), (89, .iload 4), (91, .aload_n 0), (92, .iload_n 3), (93, .aload_n 0), (94, .getfield 12), (97, .getfield 102), (100, .invokevirtual 99), (103, .invokestatic 90), (106, .iastore), (107, .iinc 3 1), (110, .goto (-96)), (113, .return_)]
/-- SlateHalves$Valuer.limited(I)I -/
def zt_36 : List (Nat × Instr) := [(0, .iconst 0), (1, .bipush 60), (3, .iload_n 0), (4, .invokestatic 84), (7, .invokestatic 90), (10, .ireturn)]
/-- java/lang/Math.min(II)I -/
def zt_37 : List (Nat × Instr) := [(0, .iload_n 0), (1, .iload_n 1), (2, .if_icmp .gt 7), (5, .iload_n 0), (6, .goto 4), (9, .iload_n 1), (10, .ireturn)]
/-- SlateHalves$Blows.greatestNear(I)I -/
def zt_38 : List (Nat × Instr) := [(0, .iload_n 1), (1, .iconst 1), (2, .isub), (3, .iload_n 1), (4, .aload_n 0), (5, .getfield 48), (8, .iadd), (9, .aload_n 0), (10, .getfield 35), (13, .iadd), (14, .iconst 1), (15, .ishr), (16, .invokestatic 54), (19, .ireturn)]
/-- SlateHalves$Blows.leastNear(I)I -/
def zt_39 : List (Nat × Instr) := [(0, .iconst 1), (1, .iload_n 1), (2, .aload_n 0), (3, .getfield 48), (6, .iadd), (7, .aload_n 0), (8, .getfield 35), (11, .isub), (12, .iconst 1), (13, .iadd), (14, .iconst 1), (15, .ishr), (16, .invokestatic 51), (19, .ireturn)]
/-- SlateHalves$Valuer.cleanSum(II)I -/
def zt_40 : List (Nat × Instr) := [(0, .iload_n 2), (1, .iconst 1), (2, .iload_n 1), (3, .iconst 1), (4, .isub), (5, .invokestatic 105), (8, .ifCond .eq 33), (11, .aload_n 0), (12, .getfield 12), (15, .iload_n 1), (16, .iload_n 2), (17, .invokevirtual 109), (20, .ifCond .eq 21), (23, .aload_n 0), (24, .getfield 18), (27, .iload_n 2), (28, .iaload), (29, .aload_n 0), (30, .getfield 18), (33, .iload_n 1), (34, .iload_n 2), (35, .isub), (36, .iaload), (37, .iadd), (38, .goto 4), (41, .iconst 0), (42, .ireturn)]
/-- SlateHalves$Blows.isCleanAt(II)Z -/
def zt_41 : List (Nat × Instr) := [(0, .iconst 2), (1, .iload_n 2), (2, .imul), (3, .iload_n 1), (4, .isub), (5, .aload_n 0), (6, .getfield 48), (9, .isub), (10, .istore_n 3), (11, .iload_n 3), (12, .aload_n 0), (13, .getfield 35), (16, .if_icmp .gt 16), (19, .iload_n 3), (20, .aload_n 0), (21, .getfield 35), (24, .ineg), (25, .if_icmp .lt 7), (28, .iconst 1), (29, .goto 4), (32, .iconst 0), (33, .istore 4), (35, .aload_n 0), (36, .getfield 30), (39, .tableswitch 87 2 6 #[33, 52, 71, 33, 52]), (72, .iload 4), (74, .ifCond .ne 11), (77, .iload_n 2), (78, .aload_n 0), (79, .getfield 9), (82, .if_icmp .ne 7), (85, .iconst 1), (86, .goto 4), (89, .iconst 0), (90, .ireturn), (91, .iload 4), (93, .ifCond .eq 15), (96, .iload_n 2), (97, .aload_n 0), (98, .getfield 9), (101, .if_icmp .eq 7), (104, .iconst 1), (105, .goto 4), (108, .iconst 0), (109, .ireturn), (110, .iload 4), (112, .ifCond .eq 12), (115, .iload_n 1), (116, .iconst 4), (117, .if_icmp .lt 7), (120, .iconst 1), (121, .goto 4), (124, .iconst 0), (125, .ireturn), (126, .iload 4), (128, .ireturn)]
/-- SlateHalves$Valuer.fewOf(I)I -/
def zt_42 : List (Nat × Instr) := [(0, .aload_n 0), (1, .iload_n 1), (2, .invokevirtual 63), (5, .iload_n 1), (6, .invokestatic 67), (9, .istore_n 2), (10, .aload_n 0), (11, .getfield 22), (14, .iconst 0), (15, .iconst 0), (16, .iastore), (17, .iconst 1), (18, .istore_n 3), (19, .iload_n 3), (20, .iload_n 2), (21, .if_icmp .gt 38), (24, .aload_n 0), (25, .getfield 22), (28, .iload_n 3), (29, .aload_n 0), (30, .getfield 18), (33, .iload_n 3), (34, .iaload), (35, .aload_n 0), (36, .iload_n 3), (37, .invokevirtual 74), (40, .if_icmp .ne 7), (43, .iconst 0), (44, .goto 8), (47, .aload_n 0), (48, .iload_n 3), (49, .invokevirtual 77), (52, .iastore), (53, .iinc 3 1), (56, .goto (-37)), (59, .aload_n 0), (60, .getfield 22), (63, .iload_n 2), (64, .iaload), (65, .ireturn)]
/-- SlateHalves$Valuer.fewestBehind(I)I -/
def zt_43 : List (Nat × Instr) := [(0, .bipush 60), (2, .istore_n 2), (3, .iconst 1), (4, .istore_n 3), (5, .iload_n 3), (6, .iload_n 1), (7, .if_icmp .ge 45), (10, .aload_n 0), (11, .aload_n 0), (12, .getfield 18), (15, .iload_n 1), (16, .iload_n 3), (17, .invokevirtual 80), (20, .aload_n 0), (21, .getfield 18), (24, .iload_n 1), (25, .iaload), (26, .if_icmp .ne 20), (29, .iload_n 2), (30, .iconst 1), (31, .aload_n 0), (32, .aload_n 0), (33, .getfield 22), (36, .iload_n 1), (37, .iload_n 3), (38, .invokevirtual 80), (41, .iadd), (42, .invokestatic 84), (45, .istore_n 2), (46, .iinc 3 1), (49, .goto (-44)), (52, .iload_n 2), (53, .ireturn)]
/-- SlateHalves$Valuer.behind([III)I -/
def zt_44 : List (Nat × Instr) := [(0, .iload_n 2), (1, .aload_n 1), (2, .arraylength), (3, .if_icmp .ge 14), (6, .iload_n 3), (7, .iconst 1), (8, .iload_n 2), (9, .iconst 1), (10, .isub), (11, .invokestatic 105), (14, .ifCond .ne 5), (17, .iconst 0), (18, .ireturn), (19, .aload_n 0), (20, .getfield 12), (23, .iload_n 2), (24, .iload_n 3), (25, .invokevirtual 109), (28, .ifCond .eq 15), (31, .aload_n 1), (32, .iload_n 3), (33, .iaload), (34, .aload_n 1), (35, .iload_n 2), (36, .iload_n 3), (37, .isub), (38, .iaload), (39, .iadd), (40, .goto 12), (43, .aload_n 1), (44, .iload_n 3), (45, .iload_n 2), (46, .iload_n 3), (47, .isub), (48, .invokestatic 90), (51, .iaload), (52, .ireturn)]
/-- SlateHalves$Valuer.manyOf(I)I -/
def zt_45 : List (Nat × Instr) := [(0, .aload_n 0), (1, .iconst 1), (2, .putfield 57), (5, .aload_n 0), (6, .iconst 0), (7, .putfield 60), (10, .aload_n 0), (11, .iload_n 1), (12, .invokevirtual 71), (15, .ireturn)]
/-- SlateHalves$Valuer.halvesOf(I)I -/
def zt_46 : List (Nat × Instr) := [(0, .iload_n 1), (1, .invokestatic 67), (4, .istore_n 2), (5, .aload_n 0), (6, .getfield 22), (9, .iconst 0), (10, .iconst 0), (11, .iastore), (12, .iconst 1), (13, .istore_n 3), (14, .iload_n 3), (15, .iload_n 2), (16, .if_icmp .gt 43), (19, .aload_n 0), (20, .getfield 22), (23, .iload_n 3), (24, .iload_n 3), (25, .aload_n 0), (26, .getfield 50), (29, .if_icmp .gt 11), (32, .aload_n 0), (33, .iload_n 3), (34, .invokevirtual 74), (37, .goto 15), (40, .aload_n 0), (41, .aload_n 0), (42, .getfield 22), (45, .iload_n 3), (46, .iload_n 3), (47, .iconst 2), (48, .idiv), (49, .invokevirtual 80), (52, .iastore), (53, .iinc 3 1), (56, .goto (-42)), (59, .aload_n 0), (60, .getfield 22), (63, .iload_n 2), (64, .iaload), (65, .ireturn)]
/-- SlateHalves$Valuer.blowOf(I)I -/
def zt_47 : List (Nat × Instr) := [(0, .aload_n 0), (1, .iload_n 1), (2, .invokevirtual 63), (5, .iload_n 1), (6, .invokestatic 67), (9, .istore_n 2), (10, .aload_n 0), (11, .getfield 18), (14, .iload_n 2), (15, .iaload), (16, .aload_n 0), (17, .iload_n 2), (18, .invokevirtual 74), (21, .if_icmp .ne 5), (24, .iconst 0), (25, .ireturn), (26, .iconst 1), (27, .istore_n 3), (28, .iload_n 3), (29, .iload_n 2), (30, .if_icmp .ge 30), (33, .aload_n 0), (34, .aload_n 0), (35, .getfield 18), (38, .iload_n 2), (39, .iload_n 3), (40, .invokevirtual 80), (43, .aload_n 0), (44, .getfield 18), (47, .iload_n 2), (48, .iaload), (49, .if_icmp .ne 5), (52, .iload_n 3), (53, .ireturn), (54, .iinc 3 1), (57, .goto (-29)), (60, .iconst 0), (61, .ireturn)]
/-- SlateHalves.dry(II)I -/
def zt_48 : List (Nat × Instr) := [(0, .aload_n 0), (1, .getfield 12), (4, .getfield 100), (7, .iload_n 1), (8, .invokevirtual 116), (11, .astore_n 3), (12, .aload_n 3), (13, .ifnonnull 5), (16, .iconst (-1)), (17, .ireturn), (18, .iload_n 2), (19, .iconst 0), (20, .bipush 99), (22, .invokestatic 96), (25, .ifCond .ne 6), (28, .bipush (-2)), (30, .ireturn), (31, .aload_n 3), (32, .getfield 129), (35, .istore 4), (37, .aload_n 3), (38, .iload_n 2), (39, .putfield 129), (42, .iload 4), (44, .ireturn)]
/-- SlateHalves.row(III)I -/
def zt_49 : List (Nat × Instr) := [(0, .aload_n 0), (1, .getfield 12), (4, .getfield 100), (7, .iload_n 1), (8, .invokevirtual 116), (11, .astore 4), (13, .aload 4), (15, .ifnull 12), (18, .iload_n 2), (19, .iconst 0), (20, .iconst 3), (21, .invokestatic 96), (24, .ifCond .ne 5), (27, .iconst (-1)), (28, .ireturn), (29, .iload_n 3), (30, .iconst 0), (31, .bipush 9), (33, .invokestatic 96), (36, .ifCond .ne 6), (39, .bipush (-2)), (41, .ireturn), (42, .aload 4), (44, .getfield 120), (47, .bipush 6), (49, .if_icmp .eq 6), (52, .bipush (-3)), (54, .ireturn), (55, .aload 4), (57, .getfield 182), (60, .iload_n 2), (61, .iaload), (62, .istore 5), (64, .aload 4), (66, .getfield 182), (69, .iload_n 2), (70, .iload_n 3), (71, .iastore), (72, .iload 5), (74, .ireturn)]
/-- SlateHalves.strike(II)I -/
def zt_50 : List (Nat × Instr) := [(0, .aload_n 0), (1, .getfield 12), (4, .getfield 100), (7, .iload_n 1), (8, .invokevirtual 116), (11, .astore_n 3), (12, .aload_n 3), (13, .ifnonnull 5), (16, .iconst (-1)), (17, .ireturn), (18, .aload_n 3), (19, .getfield 126), (22, .istore 4), (24, .iload_n 2), (25, .iconst 1), (26, .iload 4), (28, .iconst 1), (29, .isub), (30, .invokestatic 96), (33, .ifCond .ne 6), (36, .bipush (-2)), (38, .ireturn), (39, .aload_n 3), (40, .getfield 132), (43, .sipush 9999), (46, .if_icmp .lt 6), (49, .bipush (-3)), (51, .ireturn), (52, .aload_n 0), (53, .aload_n 3), (54, .iload 4), (56, .iload_n 2), (57, .invokevirtual 186), (60, .ifCond .ne 27), (63, .aload_n 3), (64, .dup), (65, .getfield 132), (68, .iconst 1), (69, .iadd), (70, .putfield 132), (73, .aload_n 3), (74, .iload_n 2), (75, .iload 4), (77, .iload_n 2), (78, .isub), (79, .invokestatic 190), (82, .putfield 126), (85, .iconst 0), (86, .ireturn), (87, .aload_n 0), (88, .getfield 12), (91, .getfield 100), (94, .invokevirtual 103), (97, .astore 5), (99, .aload 5), (101, .ifnonnull 6), (104, .bipush (-4)), (106, .ireturn), (107, .aload_n 3), (108, .dup), (109, .getfield 132), (112, .iconst 1), (113, .iadd), (114, .putfield 132), (117, .aload_n 3), (118, .iload_n 2), (119, .putfield 126), (122, .aload 5), (124, .aload_n 3), (125, .invokevirtual 196), (128, .aload 5), (130, .iload 4), (132, .iload_n 2), (133, .isub), (134, .putfield 126), (137, .aload 5), (139, .iconst 0), (140, .putfield 132), (143, .iconst 1), (144, .ireturn)]
/-- SlateHalves.isCleanBlow(LSlateHalves$Block;II)Z -/
def zt_51 : List (Nat × Instr) := [(0, .aload_n 0), (1, .getfield 64), (4, .aload_n 1), (5, .aload_n 0), (6, .getfield 12), (9, .getfield 100), (12, .getfield 139), (15, .invokevirtual 320), (18, .aload_n 0), (19, .getfield 64), (22, .iload_n 2), (23, .iload_n 3), (24, .invokevirtual 312), (27, .ireturn)]
/-- SlateHalves$Blows.setBy(LSlateHalves$Block;I)V -/
def zt_52 : List (Nat × Instr) := [(0, .aload_n 0), (1, .aload_n 1), (2, .aload_n 1), (3, .getfield 15), (6, .aload_n 1), (7, .getfield 20), (10, .iload_n 2), (11, .invokevirtual 23), (14, .return_)]
/-- SlateHalves$Block.copyFrom(LSlateHalves$Block;)V -/
def zt_53 : List (Nat × Instr) := [(0, .aload_n 0), (1, .aload_n 1), (2, .getfield 22), (5, .putfield 22), (8, .aload_n 0), (9, .aload_n 1), (10, .getfield 25), (13, .putfield 25), (16, .aload_n 0), (17, .aload_n 1), (18, .getfield 19), (21, .putfield 19), (24, .aload_n 0), (25, .aload_n 1), (26, .getfield 28), (29, .putfield 28), (32, .aload_n 0), (33, .aload_n 1), (34, .getfield 31), (37, .putfield 31), (40, .aload_n 1), (41, .getfield 9), (44, .iconst 0), (45, .aload_n 0), (46, .getfield 9), (49, .iconst 0), (50, .iconst 4), (51, .invokestatic 40), (54, .return_)]
/-- SlateHalves.clean(III)I -/
def zt_54 : List (Nat × Instr) := [(0, .aload_n 0), (1, .getfield 12), (4, .getfield 100), (7, .iload_n 1), (8, .invokevirtual 116), (11, .astore 4), (13, .aload 4), (15, .ifnonnull 5), (18, .iconst (-1)), (19, .ireturn), (20, .iload_n 2), (21, .iload_n 3), (22, .invokestatic 200), (25, .ifCond .ne 6), (28, .bipush (-2)), (30, .ireturn), (31, .aload_n 0), (32, .aload 4), (34, .iload_n 2), (35, .iload_n 3), (36, .invokevirtual 186), (39, .ifCond .eq 7), (42, .iconst 1), (43, .goto 4), (46, .iconst 0), (47, .ireturn)]
/-- SlateHalves.isBlow(II)Z -/
def zt_55 : List (Nat × Instr) := [(0, .iload_n 0), (1, .iconst 2), (2, .bipush 60), (4, .invokestatic 96), (7, .ifCond .eq 18), (10, .iload_n 1), (11, .iconst 1), (12, .iload_n 0), (13, .iconst 1), (14, .isub), (15, .invokestatic 96), (18, .ifCond .eq 7), (21, .iconst 1), (22, .goto 4), (25, .iconst 0), (26, .ireturn)]
/-- SlateHalves.sell(I)I -/
def zt_56 : List (Nat × Instr) := [(0, .aload_n 0), (1, .getfield 12), (4, .getfield 100), (7, .iload_n 1), (8, .invokevirtual 116), (11, .astore_n 2), (12, .aload_n 2), (13, .ifnonnull 5), (16, .iconst (-1)), (17, .ireturn), (18, .aload_n 2), (19, .invokevirtual 204), (22, .ifCond .eq 6), (25, .bipush (-3)), (27, .ireturn), (28, .aload_n 0), (29, .aload_n 0), (30, .getfield 12), (33, .getfield 100), (36, .aload_n 2), (37, .invokevirtual 208), (40, .istore_n 3), (41, .aload_n 0), (42, .getfield 12), (45, .getfield 100), (48, .ldc 212), (50, .aload_n 0), (51, .getfield 12), (54, .getfield 100), (57, .getfield 213), (60, .iload_n 3), (61, .iadd), (62, .invokestatic 216), (65, .putfield 213), (68, .aload_n 2), (69, .iconst 0), (70, .putfield 126), (73, .iload_n 3), (74, .ireturn)]
/-- SlateHalves$Block.isGone()Z -/
def zt_57 : List (Nat × Instr) := [(0, .aload_n 0), (1, .getfield 19), (4, .ifCond .ne 7), (7, .iconst 1), (8, .goto 4), (11, .iconst 0), (12, .ireturn)]
/-- SlateHalves.worthIn(LSlateHalves$Yard;LSlateHalves$Block;)I -/
def zt_58 : List (Nat × Instr) := [(0, .aload_n 0), (1, .getfield 71), (4, .aload_n 2), (5, .aload_n 1), (6, .getfield 139), (9, .aload_n 0), (10, .invokevirtual 135), (13, .invokevirtual 159), (16, .aload_n 0), (17, .getfield 71), (20, .aload_n 2), (21, .getfield 126), (24, .invokevirtual 163), (27, .ireturn)]
/-- SlateHalves.feed(I)I -/
def zt_59 : List (Nat × Instr) := [(0, .iload_n 1), (1, .iconst 0), (2, .bipush 127), (4, .invokestatic 96), (7, .ifCond .ne 6), (10, .bipush (-2)), (12, .ireturn), (13, .aload_n 0), (14, .getfield 36), (17, .bipush 100), (19, .if_icmp .lt 6), (22, .bipush (-4)), (24, .ireturn), (25, .aload_n 0), (26, .getfield 32), (29, .aload_n 0), (30, .getfield 36), (33, .iload_n 1), (34, .i2b), (35, .bastore), (36, .aload_n 0), (37, .dup), (38, .getfield 36), (41, .iconst 1), (42, .iadd), (43, .putfield 36), (46, .aload_n 0), (47, .getfield 36), (50, .ireturn)]
/-- SlateHalves.hill()I -/
def zt_60 : List (Nat × Instr) := [(0, .aload_n 0), (1, .getfield 46), (4, .bipush 6), (6, .if_icmp .lt 6), (9, .bipush (-4)), (11, .ireturn), (12, .aload_n 0), (13, .getfield 57), (16, .aload_n 0), (17, .getfield 42), (20, .aload_n 0), (21, .getfield 46), (24, .aaload), (25, .aload_n 0), (26, .getfield 32), (29, .aload_n 0), (30, .getfield 36), (33, .invokevirtual 219), (36, .istore_n 1), (37, .aload_n 0), (38, .iconst 0), (39, .putfield 36), (42, .iload_n 1), (43, .ifCond .lt 8), (46, .bipush (-10)), (48, .iload_n 1), (49, .isub), (50, .ireturn), (51, .aload_n 0), (52, .getfield 12), (55, .getfield 100), (58, .aload_n 0), (59, .getfield 46), (62, .putfield 223), (65, .aload_n 0), (66, .dup), (67, .getfield 46), (70, .iconst 1), (71, .iadd), (72, .putfield 46), (75, .aload_n 0), (76, .getfield 12), (79, .getfield 100), (82, .getfield 223), (85, .ireturn)]
/-- SlateHalves$HillReader.fillHill(LSlateHalves$Hill;[BI)I -/
def zt_61 : List (Nat × Instr) := [(0, .aload_n 0), (1, .aload_n 2), (2, .putfield 7), (5, .aload_n 0), (6, .iload_n 3), (7, .aload_n 2), (8, .arraylength), (9, .invokestatic 27), (12, .putfield 13), (15, .aload_n 0), (16, .iconst 0), (17, .putfield 17), (20, .aload_n 0), (21, .aload_n 1), (22, .putfield 23), (25, .aload_n 0), (26, .getfield 23), (29, .invokevirtual 33), (32, .iconst 1), (33, .istore 4), (35, .iload 4), (37, .bipush 10), (39, .if_icmp .gt 55), (42, .aload_n 0), (43, .invokevirtual 36), (46, .ifCond .ne 8), (49, .aload_n 0), (50, .getfield 17), (53, .ireturn), (54, .aload_n 0), (55, .getfield 17), (58, .aload_n 0), (59, .getfield 13), (62, .if_icmp .ne 5), (65, .iconst (-1)), (66, .ireturn), (67, .iload 4), (69, .bipush 10), (71, .if_icmp .eq 12), (74, .aload_n 0), (75, .bipush 59), (77, .invokevirtual 40), (80, .ifCond .ne 8), (83, .aload_n 0), (84, .getfield 17), (87, .ireturn), (88, .iinc 4 1), (91, .goto (-56)), (94, .aload_n 0), (95, .getfield 17), (98, .ireturn)]
/-- SlateHalves$Hill.clear()V -/
def zt_62 : List (Nat × Instr) := [(0, .aload_n 0), (1, .iconst 0), (2, .putfield 15), (5, .aload_n 0), (6, .iconst 2), (7, .putfield 19), (10, .aload_n 0), (11, .iconst 5), (12, .putfield 22), (15, .aload_n 0), (16, .iconst 1), (17, .putfield 25), (20, .return_)]
/-- SlateHalves$HillReader.takeClause()Z -/
def zt_63 : List (Nat × Instr) := [(0, .aload_n 0), (1, .invokevirtual 48), (4, .istore_n 1), (5, .iload_n 1), (6, .ifCond .lt 12), (9, .aload_n 0), (10, .bipush 32), (12, .invokevirtual 40), (15, .ifCond .ne 5), (18, .iconst 0), (19, .ireturn), (20, .aload_n 0), (21, .invokevirtual 51), (24, .istore_n 2), (25, .iload_n 2), (26, .ifCond .ge 5), (29, .iconst 0), (30, .ireturn), (31, .iload_n 1), (32, .ifCond .eq 8), (35, .iload_n 1), (36, .iconst 1), (37, .if_icmp .ne 44), (40, .aload_n 0), (41, .bipush 32), (43, .invokevirtual 40), (46, .ifCond .eq 11), (49, .aload_n 0), (50, .iconst 0), (51, .invokevirtual 54), (54, .ifCond .ne 5), (57, .iconst 0), (58, .ireturn), (59, .aload_n 0), (60, .getfield 23), (63, .iload_n 1), (64, .ifCond .ne 7), (67, .iconst 4), (68, .goto 4), (71, .iconst 5), (72, .iconst 0), (73, .iconst 0), (74, .iload_n 2), (75, .invokevirtual 57), (78, .goto 43), (81, .iload_n 1), (82, .iconst 2), (83, .if_icmp .ne 14), (86, .aload_n 0), (87, .getfield 23), (90, .iload_n 2), (91, .putfield 61), (94, .goto 27), (97, .iload_n 1), (98, .iconst 3), (99, .if_icmp .ne 14), (102, .aload_n 0), (103, .getfield 23), (106, .iload_n 2), (107, .putfield 64), (110, .goto 11), (113, .aload_n 0), (114, .getfield 23), (117, .iload_n 2), (118, .putfield 67), (121, .iconst 1), (122, .ireturn)]
/-- SlateHalves$HillReader.takeWord()I -/
def zt_64 : List (Nat × Instr) := [(0, .iconst 0), (1, .istore_n 1), (2, .iconst 0), (3, .istore_n 2), (4, .iload_n 2), (5, .iconst 5), (6, .if_icmp .ge 47), (9, .aload_n 0), (10, .iload_n 2), (11, .invokestatic 77), (14, .invokevirtual 81), (17, .istore_n 3), (18, .iload_n 3), (19, .iload_n 2), (20, .invokestatic 77), (23, .invokevirtual 85), (26, .if_icmp .ne 15), (29, .aload_n 0), (30, .dup), (31, .getfield 17), (34, .iload_n 3), (35, .iadd), (36, .putfield 17), (39, .iload_n 2), (40, .ireturn), (41, .iload_n 1), (42, .iload_n 3), (43, .invokestatic 89), (46, .istore_n 1), (47, .iinc 2 1), (50, .goto (-46)), (53, .aload_n 0), (54, .dup), (55, .getfield 17), (58, .iload_n 1), (59, .iadd), (60, .putfield 17), (63, .iconst (-1)), (64, .ireturn)]
/-- SlateHalves$HillReader.wordOf(I)Ljava/lang/String; -/
def zt_65 : List (Nat × Instr) := [(0, .iload_n 0), (1, .tableswitch 43 0 3 #[31, 34, 37, 40]), (32, .ldc 70), (34, .areturn), (35, .ldc 72), (37, .areturn), (38, .ldc 74), (40, .areturn), (41, .ldc 75), (43, .areturn), (44, .ldc 76), (46, .areturn)]
/-- SlateHalves$HillReader.sameSigns(Ljava/lang/String;)I -/
def zt_66 : List (Nat × Instr) := [(0, .aload_n 1), (1, .invokevirtual 85), (4, .aload_n 0), (5, .getfield 13), (8, .aload_n 0), (9, .getfield 17), (12, .isub), (13, .invokestatic 27), (16, .istore_n 2), (17, .iconst 0), (18, .istore_n 3), (19, .iload_n 3), (20, .iload_n 2), (21, .if_icmp .ge 30), (24, .aload_n 0), (25, .getfield 7), (28, .aload_n 0), (29, .getfield 17), (32, .iload_n 3), (33, .iadd), (34, .baload), (35, .aload_n 1), (36, .iload_n 3), (37, .invokevirtual 92), (40, .if_icmp .eq 5), (43, .iload_n 3), (44, .ireturn), (45, .iinc 3 1), (48, .goto (-29)), (51, .iload_n 2), (52, .ireturn)]
/-- java/lang/String.length()I -/
def zt_67 : List (Nat × Instr) := [(0, .aload_n 0), (1, .getfield 9), (4, .arraylength), (5, .aload_n 0), (6, .invokevirtual 335), (9, .ishr), (10, .ireturn)]
/-- java/lang/String.coder()B -/
def zt_68 : List (Nat × Instr) := [(0, .getstatic 38), (3, .ifCond .eq 10), (6, .aload_n 0), (7, .getfield 15), (10, .goto 4), (13, .iconst 1), (14, .ireturn)]
/-- java/lang/String.charAt(I)C -/
def zt_69 : List (Nat × Instr) := [(0, .aload_n 0), (1, .invokevirtual 492), (4, .ifCond .eq 12), (7, .aload_n 0), (8, .getfield 9), (11, .iload_n 1), (12, .invokestatic 495), (15, .ireturn), (16, .aload_n 0), (17, .getfield 9), (20, .iload_n 1), (21, .invokestatic 498), (24, .ireturn)]
/-- java/lang/String.isLatin1()Z -/
def zt_70 : List (Nat × Instr) := [(0, .getstatic 38), (3, .ifCond .eq 14), (6, .aload_n 0), (7, .getfield 15), (10, .ifCond .ne 7), (13, .iconst 1), (14, .goto 4), (17, .iconst 0), (18, .ireturn)]
/-- java/lang/StringLatin1.charAt([BI)C -/
def zt_71 : List (Nat × Instr) := [(0, .iload_n 1), (1, .aload_n 0), (2, .arraylength), (3, .invokestatic 9), (6, .aload_n 0), (7, .iload_n 1), (8, .baload), (9, .sipush 255), (12, .iand), (13, .i2c), (14, .ireturn)]
/-- java/lang/String.checkIndex(II)V -/
def zt_72 : List (Nat × Instr) := [(0, .iload_n 0), (1, .iload_n 1), (2, .getstatic 1053), (5, .invokestatic 1059), (8, .pop), (9, .return_)]
/-- jdk/internal/util/Preconditions.checkIndex(IILjava/util/function/BiFunction;)I -/
def zt_73 : List (Nat × Instr) := [(0, .iload_n 0), (1, .ifCond .lt 8), (4, .iload_n 0), (5, .iload_n 1), (6, .if_icmp .lt 10), (9, .aload_n 2), (10, .iload_n 0), (11, .iload_n 1), (12, .invokestatic 95), (15, .athrow), (16, .iload_n 0), (17, .ireturn)]
/-- SlateHalves$HillReader.takeSign(I)Z -/
def zt_74 : List (Nat × Instr) := [(0, .aload_n 0), (1, .invokevirtual 44), (4, .iload_n 1), (5, .if_icmp .eq 5), (8, .iconst 0), (9, .ireturn), (10, .aload_n 0), (11, .dup), (12, .getfield 17), (15, .iconst 1), (16, .iadd), (17, .putfield 17), (20, .iconst 1), (21, .ireturn)]
/-- SlateHalves$HillReader.sign()I -/
def zt_75 : List (Nat × Instr) := [(0, .aload_n 0), (1, .getfield 17), (4, .aload_n 0), (5, .getfield 13), (8, .if_icmp .ge 15), (11, .aload_n 0), (12, .getfield 7), (15, .aload_n 0), (16, .getfield 17), (19, .baload), (20, .goto 4), (23, .iconst (-1)), (24, .ireturn)]
/-- SlateHalves$HillReader.takeNumber()I -/
def zt_76 : List (Nat × Instr) := [(0, .aload_n 0), (1, .invokevirtual 44), (4, .istore_n 1), (5, .iload_n 1), (6, .bipush 48), (8, .bipush 57), (10, .invokestatic 96), (13, .ifCond .ne 5), (16, .iconst (-1)), (17, .ireturn), (18, .aload_n 0), (19, .dup), (20, .getfield 17), (23, .iconst 1), (24, .iadd), (25, .putfield 17), (28, .aload_n 0), (29, .invokevirtual 44), (32, .istore_n 2), (33, .iload_n 2), (34, .bipush 48), (36, .bipush 57), (38, .invokestatic 96), (41, .ifCond .ne 8), (44, .iload_n 1), (45, .bipush 48), (47, .isub), (48, .ireturn), (49, .aload_n 0), (50, .dup), (51, .getfield 17), (54, .iconst 1), (55, .iadd), (56, .putfield 17), (59, .iload_n 1), (60, .bipush 48), (62, .isub), (63, .bipush 10), (65, .imul), (66, .iload_n 2), (67, .iadd), (68, .bipush 48), (70, .isub), (71, .ireturn)]
/-- SlateHalves$HillReader.takeEither(I)Z -/
def zt_77 : List (Nat × Instr) := [(0, .aload_n 0), (1, .iload_n 1), (2, .invokevirtual 102), (5, .ifCond .ne 5), (8, .iconst 0), (9, .ireturn), (10, .iconst 0), (11, .istore_n 2), (12, .iload_n 2), (13, .aload_n 0), (14, .getfield 13), (17, .if_icmp .ge 39), (20, .aload_n 0), (21, .bipush 124), (23, .invokevirtual 40), (26, .ifCond .eq 30), (29, .aload_n 0), (30, .iload_n 1), (31, .invokevirtual 102), (34, .ifCond .ne 5), (37, .iconst 0), (38, .ireturn), (39, .aload_n 0), (40, .getfield 23), (43, .iconst 3), (44, .iconst 0), (45, .iconst 0), (46, .iconst 0), (47, .invokevirtual 57), (50, .iinc 2 1), (53, .goto (-41)), (56, .iconst 1), (57, .ireturn)]
/-- SlateHalves$HillReader.takeBoth(I)Z -/
def zt_78 : List (Nat × Instr) := [(0, .aload_n 0), (1, .iload_n 1), (2, .invokevirtual 105), (5, .ifCond .ne 5), (8, .iconst 0), (9, .ireturn), (10, .iconst 0), (11, .istore_n 2), (12, .iload_n 2), (13, .aload_n 0), (14, .getfield 13), (17, .if_icmp .ge 39), (20, .aload_n 0), (21, .bipush 38), (23, .invokevirtual 40), (26, .ifCond .eq 30), (29, .aload_n 0), (30, .iload_n 1), (31, .invokevirtual 105), (34, .ifCond .ne 5), (37, .iconst 0), (38, .ireturn), (39, .aload_n 0), (40, .getfield 23), (43, .iconst 2), (44, .iconst 0), (45, .iconst 0), (46, .iconst 0), (47, .invokevirtual 57), (50, .iinc 2 1), (53, .goto (-41)), (56, .iconst 1), (57, .ireturn)]
/-- SlateHalves$HillReader.takePart(I)Z -/
def zt_79 : List (Nat × Instr) := [(0, .aload_n 0), (1, .invokevirtual 44), (4, .bipush 40), (6, .if_icmp .eq 17), (9, .aload_n 0), (10, .invokevirtual 44), (13, .bipush 33), (15, .if_icmp .eq 8), (18, .aload_n 0), (19, .invokevirtual 108), (22, .ireturn), (23, .iload_n 1), (24, .iconst 4), (25, .if_icmp .lt 5), (28, .iconst 0), (29, .ireturn), (30, .aload_n 0), (31, .bipush 40), (33, .invokevirtual 40), (36, .ifCond .eq 28), (39, .aload_n 0), (40, .iload_n 1), (41, .iconst 1), (42, .iadd), (43, .invokevirtual 54), (46, .ifCond .eq 16), (49, .aload_n 0), (50, .bipush 41), (52, .invokevirtual 40), (55, .ifCond .eq 7), (58, .iconst 1), (59, .goto 4), (62, .iconst 0), (63, .ireturn), (64, .aload_n 0), (65, .bipush 33), (67, .invokevirtual 40), (70, .ifCond .eq 13), (73, .aload_n 0), (74, .iload_n 1), (75, .iconst 1), (76, .iadd), (77, .invokevirtual 105), (80, .ifCond .ne 5), (83, .iconst 0), (84, .ireturn), (85, .aload_n 0), (86, .getfield 23), (89, .iconst 1), (90, .iconst 0), (91, .iconst 0), (92, .iconst 0), (93, .invokevirtual 57), (96, .iconst 1), (97, .ireturn)]
/-- SlateHalves$HillReader.takeTest()Z -/
def zt_80 : List (Nat × Instr) := [(0, .aload_n 0), (1, .ldc 111), (3, .invokevirtual 113), (6, .istore_n 1), (7, .iload_n 1), (8, .ifCond .ge 5), (11, .iconst 0), (12, .ireturn), (13, .aload_n 0), (14, .ldc 116), (16, .invokevirtual 113), (19, .istore_n 2), (20, .iload_n 2), (21, .ifCond .ge 5), (24, .iconst 0), (25, .ireturn), (26, .aload_n 0), (27, .invokevirtual 51), (30, .istore_n 3), (31, .iload_n 3), (32, .ifCond .ge 5), (35, .iconst 0), (36, .ireturn), (37, .aload_n 0), (38, .getfield 23), (41, .iconst 0), (42, .iload_n 1), (43, .iload_n 2), (44, .iload_n 3), (45, .invokevirtual 57), (48, .iconst 1), (49, .ireturn)]
/-- SlateHalves$HillReader.takeOneOf(Ljava/lang/String;)I -/
def zt_81 : List (Nat × Instr) := [(0, .aload_n 0), (1, .invokevirtual 44), (4, .istore_n 2), (5, .iload_n 2), (6, .ifCond .lt 12), (9, .aload_n 1), (10, .iload_n 2), (11, .i2c), (12, .invokevirtual 118), (15, .ifCond .ge 5), (18, .iconst (-1)), (19, .ireturn), (20, .aload_n 0), (21, .dup), (22, .getfield 17), (25, .iconst 1), (26, .iadd), (27, .putfield 17), (30, .iload_n 2), (31, .ireturn)]
/-- java/lang/String.indexOf(I)I -/
def zt_82 : List (Nat × Instr) := [(0, .aload_n 0), (1, .iload_n 1), (2, .iconst 0), (3, .invokevirtual 633), (6, .ireturn)]
/-- java/lang/String.indexOf(II)I -/
def zt_83 : List (Nat × Instr) := [(0, .aload_n 0), (1, .invokevirtual 492), (4, .ifCond .eq 19), (7, .aload_n 0), (8, .getfield 9), (11, .iload_n 1), (12, .iload_n 2), (13, .aload_n 0), (14, .invokevirtual 505), (17, .invokestatic 637), (20, .goto 16), (23, .aload_n 0), (24, .getfield 9), (27, .iload_n 1), (28, .iload_n 2), (29, .aload_n 0), (30, .invokevirtual 505), (33, .invokestatic 640), (36, .ireturn)]
/-- java/lang/StringLatin1.indexOf([BIII)I -/
def zt_84 : List (Nat × Instr) := [(0, .iload_n 1), (1, .invokestatic 88), (4, .ifCond .ne 5), (7, .iconst (-1)), (8, .ireturn), (9, .iload_n 2), (10, .iconst 0), (11, .invokestatic 92), (14, .istore_n 2), (15, .iload_n 3), (16, .aload_n 0), (17, .arraylength), (18, .invokestatic 38), (21, .istore_n 3), (22, .iload_n 2), (23, .iload_n 3), (24, .if_icmp .lt 5), (27, .iconst (-1)), (28, .ireturn), (29, .aload_n 0), (30, .iload_n 1), (31, .iload_n 2), (32, .iload_n 3), (33, .invokestatic 95), (36, .ireturn)]
/-- java/lang/StringLatin1.canEncode(I)Z -/
def zt_85 : List (Nat × Instr) := [(0, .iload_n 0), (1, .ifCond .lt 14), (4, .iload_n 0), (5, .sipush 255), (8, .if_icmp .gt 7), (11, .iconst 1), (12, .goto 4), (15, .iconst 0), (16, .ireturn)]
/-- java/lang/StringLatin1.indexOfChar([BIII)I -/
def zt_86 : List (Nat × Instr) := [(0, .iload_n 1), (1, .i2b), (2, .istore 4), (4, .iload_n 2), (5, .istore 5), (7, .iload 5), (9, .iload_n 3), (10, .if_icmp .ge 21), (13, .aload_n 0), (14, .iload 5), (16, .baload), (17, .iload 4), (19, .if_icmp .ne 6), (22, .iload 5), (24, .ireturn), (25, .iinc 5 1), (28, .goto (-21)), (31, .iconst (-1)), (32, .ireturn)]
/-- SlateHalves$Hill.addStep(IIII)V -/
def zt_87 : List (Nat × Instr) := [(0, .aload_n 0), (1, .getfield 15), (4, .bipush 100), (6, .if_icmp .ge 39), (9, .aload_n 0), (10, .getfield 9), (13, .aload_n 0), (14, .getfield 15), (17, .iload_n 1), (18, .bipush 24), (20, .ishl), (21, .iload_n 2), (22, .bipush 16), (24, .ishl), (25, .ior), (26, .iload_n 3), (27, .bipush 8), (29, .ishl), (30, .ior), (31, .iload 4), (33, .ior), (34, .iastore), (35, .aload_n 0), (36, .dup), (37, .getfield 15), (40, .iconst 1), (41, .iadd), (42, .putfield 15), (45, .return_)]
/-- SlateHalves.told(I)I -/
def zt_88 : List (Nat × Instr) := [(0, .iload_n 1), (1, .tableswitch 97 0 5 #[39, 50, 58, 66, 74, 85]), (40, .aload_n 0), (41, .getfield 12), (44, .getfield 100), (47, .getfield 139), (50, .ireturn), (51, .aload_n 0), (52, .invokevirtual 135), (55, .invokevirtual 226), (58, .ireturn), (59, .aload_n 0), (60, .invokevirtual 135), (63, .invokevirtual 230), (66, .ireturn), (67, .aload_n 0), (68, .invokevirtual 135), (71, .getfield 150), (74, .ireturn), (75, .aload_n 0), (76, .getfield 12), (79, .getfield 100), (82, .getfield 213), (85, .ireturn), (86, .aload_n 0), (87, .aload_n 0), (88, .getfield 12), (91, .getfield 100), (94, .invokevirtual 233), (97, .ireturn), (98, .iconst (-1)), (99, .ireturn)]
/-- SlateHalves.bestOfAll(LSlateHalves$Yard;)I -/
def zt_89 : List (Nat × Instr) := [(0, .iconst 0), (1, .istore_n 2), (2, .iconst 0), (3, .istore_n 3), (4, .iload_n 3), (5, .aload_n 1), (6, .getfield 261), (9, .if_icmp .ge 23), (12, .iload_n 2), (13, .aload_n 0), (14, .aload_n 1), (15, .aload_n 1), (16, .getfield 264), (19, .iload_n 3), (20, .aaload), (21, .invokevirtual 245), (24, .iadd), (25, .istore_n 2), (26, .iinc 3 1), (29, .goto (-25)), (32, .iload_n 2), (33, .ireturn)]
/-- SlateHalves.bestIn(LSlateHalves$Yard;LSlateHalves$Block;)I -/
def zt_90 : List (Nat × Instr) := [(0, .aload_n 0), (1, .getfield 71), (4, .aload_n 2), (5, .aload_n 1), (6, .getfield 139), (9, .aload_n 0), (10, .invokevirtual 135), (13, .invokevirtual 159), (16, .aload_n 0), (17, .getfield 71), (20, .aload_n 2), (21, .getfield 126), (24, .invokevirtual 167), (27, .ireturn)]
/-- SlateHalves.pass(I)I -/
def zt_91 : List (Nat × Instr) := [(0, .iload_n 1), (1, .iconst 0), (2, .bipush 60), (4, .invokestatic 96), (7, .ifCond .ne 6), (10, .bipush (-2)), (12, .ireturn), (13, .aload_n 0), (14, .getfield 12), (17, .getfield 100), (20, .getfield 139), (23, .iload_n 1), (24, .iadd), (25, .sipush 9999), (28, .if_icmp .le 6), (31, .bipush (-3)), (33, .ireturn), (34, .aload_n 0), (35, .getfield 12), (38, .getfield 100), (41, .iload_n 1), (42, .aload_n 0), (43, .invokevirtual 135), (46, .getfield 150), (49, .invokevirtual 237), (52, .aload_n 0), (53, .getfield 12), (56, .getfield 100), (59, .getfield 139), (62, .ireturn)]
/-- SlateHalves$Yard.goDays(II)V -/
def zt_92 : List (Nat × Instr) := [(0, .iconst 0), (1, .istore_n 3), (2, .iload_n 3), (3, .aload_n 0), (4, .getfield 17), (7, .if_icmp .ge 49), (10, .aload_n 0), (11, .getfield 11), (14, .iload_n 3), (15, .aaload), (16, .astore 4), (18, .aload 4), (20, .invokevirtual 37), (23, .ifCond .ne 27), (26, .aload 4), (28, .bipush 99), (30, .aload 4), (32, .getfield 41), (35, .iload_n 1), (36, .aload 4), (38, .iload_n 2), (39, .invokestatic 44), (42, .imul), (43, .iadd), (44, .invokestatic 48), (47, .putfield 41), (50, .iinc 3 1), (53, .goto (-51)), (56, .aload_n 0), (57, .dup), (58, .getfield 24), (61, .iload_n 1), (62, .iadd), (63, .putfield 24), (66, .return_)]
/-- SlateHalves.on(II)I -/
def zt_93 : List (Nat × Instr) := [(0, .iload_n 2), (1, .bipush 20), (3, .if_icmp .ge 10), (6, .iload_n 2), (7, .bipush 10), (9, .isub), (10, .goto 7), (13, .iload_n 2), (14, .bipush 20), (16, .isub), (17, .istore_n 3), (18, .iload_n 2), (19, .ifCond .eq 19), (22, .aload_n 0), (23, .getfield 12), (26, .getfield 100), (29, .iload_n 3), (30, .invokevirtual 116), (33, .ifnonnull 5), (36, .iconst (-1)), (37, .ireturn), (38, .iload_n 1), (39, .iconst 0), (40, .bipush 60), (42, .invokestatic 96), (45, .ifCond .ne 6), (48, .bipush (-2)), (50, .ireturn), (51, .aload_n 0), (52, .iload_n 1), (53, .invokevirtual 241), (56, .aload_n 0), (57, .getfield 28), (60, .iload_n 3), (61, .invokevirtual 116), (64, .astore 4), (66, .aload 4), (68, .ifnonnull 12), (71, .aload_n 0), (72, .aload_n 0), (73, .getfield 28), (76, .invokevirtual 233), (79, .ireturn), (80, .iload_n 2), (81, .bipush 20), (83, .if_icmp .ge 11), (86, .aload 4), (88, .getfield 129), (91, .goto 13), (94, .aload_n 0), (95, .aload_n 0), (96, .getfield 28), (99, .aload 4), (101, .invokevirtual 245), (104, .ireturn)]
/-- SlateHalves.lookAhead(I)V -/
def zt_94 : List (Nat × Instr) := [(0, .aload_n 0), (1, .getfield 28), (4, .aload_n 0), (5, .getfield 12), (8, .getfield 100), (11, .invokevirtual 330), (14, .aload_n 0), (15, .getfield 28), (18, .iload_n 1), (19, .aload_n 0), (20, .invokevirtual 135), (23, .getfield 150), (26, .invokevirtual 237), (29, .return_)]
/-- SlateHalves$Yard.copyFrom(LSlateHalves$Yard;)V -/
def zt_95 : List (Nat × Instr) := [(0, .iconst 0), (1, .istore_n 2), (2, .iload_n 2), (3, .aload_n 1), (4, .getfield 17), (7, .if_icmp .ge 24), (10, .aload_n 0), (11, .getfield 11), (14, .iload_n 2), (15, .aaload), (16, .aload_n 1), (17, .getfield 11), (20, .iload_n 2), (21, .aaload), (22, .invokevirtual 54), (25, .iinc 2 1), (28, .goto (-26)), (31, .aload_n 0), (32, .aload_n 1), (33, .getfield 17), (36, .putfield 17), (39, .aload_n 0), (40, .aload_n 1), (41, .getfield 21), (44, .putfield 21), (47, .aload_n 0), (48, .aload_n 1), (49, .getfield 24), (52, .putfield 24), (55, .aload_n 0), (56, .aload_n 1), (57, .getfield 27), (60, .putfield 27), (63, .return_)]
/-- SlateHalves.lasts(I)I -/
def zt_96 : List (Nat × Instr) := [(0, .iload_n 1), (1, .iconst 0), (2, .ldc 248), (4, .invokestatic 96), (7, .ifCond .ne 6), (10, .bipush (-2)), (12, .ireturn), (13, .bipush 20), (15, .istore_n 2), (16, .iload_n 2), (17, .ifCond .lt 28), (20, .aload_n 0), (21, .iload_n 2), (22, .invokevirtual 241), (25, .aload_n 0), (26, .aload_n 0), (27, .getfield 28), (30, .invokevirtual 233), (33, .iload_n 1), (34, .if_icmp .lt 5), (37, .iload_n 2), (38, .ireturn), (39, .iinc 2 (-1)), (42, .goto (-26)), (45, .bipush (-5)), (47, .ireturn)]
/-- SlateHalves.order(I)I -/
def zt_97 : List (Nat × Instr) := [(0, .iload_n 1), (1, .iconst (-1)), (2, .iconst 5), (3, .invokestatic 96), (6, .ifCond .ne 5), (9, .iconst (-1)), (10, .ireturn), (11, .aload_n 0), (12, .invokevirtual 249), (15, .iload_n 1), (16, .ifCond .ge 11), (19, .aload_n 0), (20, .getfield 78), (23, .getfield 252), (26, .ireturn), (27, .iload_n 1), (28, .aload_n 0), (29, .getfield 78), (32, .getfield 255), (35, .if_icmp .ge 15), (38, .aload_n 0), (39, .getfield 78), (42, .getfield 258), (45, .iload_n 1), (46, .iaload), (47, .goto 5), (50, .bipush (-5)), (52, .ireturn)]
/-- SlateHalves.planOrder()V -/
def zt_98 : List (Nat × Instr) := [(0, .iconst 0), (1, .istore_n 1), (2, .iconst 0), (3, .istore_n 2), (4, .iload_n 2), (5, .aload_n 0), (6, .getfield 12), (9, .getfield 100), (12, .getfield 261), (15, .if_icmp .ge 33), (18, .aload_n 0), (19, .getfield 12), (22, .getfield 100), (25, .getfield 264), (28, .iload_n 2), (29, .aaload), (30, .invokevirtual 204), (33, .ifCond .ne 9), (36, .iload_n 1), (37, .iconst 1), (38, .iload_n 2), (39, .ishl), (40, .ior), (41, .istore_n 1), (42, .iinc 2 1), (45, .goto (-41)), (48, .iload_n 1), (49, .invokestatic 268), (52, .istore_n 2), (53, .iconst 0), (54, .istore_n 3), (55, .iload_n 3), (56, .iload_n 2), (57, .if_icmp .ge 68), (60, .aload_n 0), (61, .iload_n 3), (62, .invokevirtual 241), (65, .iconst 0), (66, .istore 4), (68, .iload 4), (70, .aload_n 0), (71, .getfield 28), (74, .getfield 261), (77, .if_icmp .ge 42), (80, .aload_n 0), (81, .getfield 78), (84, .getfield 273), (87, .iload 4), (89, .bipush 6), (91, .imul), (92, .iload_n 3), (93, .iadd), (94, .aload_n 0), (95, .aload_n 0), (96, .getfield 28), (99, .aload_n 0), (100, .getfield 28), (103, .getfield 264), (106, .iload 4), (108, .aaload), (109, .invokevirtual 245), (112, .iastore), (113, .iinc 4 1), (116, .goto (-48)), (119, .iinc 3 1), (122, .goto (-67)), (125, .aload_n 0), (126, .getfield 78), (129, .iload_n 1), (130, .invokevirtual 276), (133, .return_)]
/-- java/lang/Integer.bitCount(I)I -/
def zt_99 : List (Nat × Instr) := [(0, .iload_n 0), (1, .iload_n 0), (2, .iconst 1), (3, .iushr), (4, .ldc_w 265), (7, .iand), (8, .isub), (9, .istore_n 0), (10, .iload_n 0), (11, .ldc_w 266), (14, .iand), (15, .iload_n 0), (16, .iconst 2), (17, .iushr), (18, .ldc_w 266), (21, .iand), (22, .iadd), (23, .istore_n 0), (24, .iload_n 0), (25, .iload_n 0), (26, .iconst 4), (27, .iushr), (28, .iadd), (29, .ldc_w 267), (32, .iand), (33, .istore_n 0), (34, .iload_n 0), (35, .iload_n 0), (36, .bipush 8), (38, .iushr), (39, .iadd), (40, .istore_n 0), (41, .iload_n 0), (42, .iload_n 0), (43, .bipush 16), (45, .iushr), (46, .iadd), (47, .istore_n 0), (48, .iload_n 0), (49, .bipush 63), (51, .iand), (52, .ireturn)]
/-- SlateHalves$Planner.plan(I)V -/
def zt_100 : List (Nat × Instr) := [(0, .aload_n 0), (1, .bipush 6), (3, .iload_n 1), (4, .invokestatic 28), (7, .invokestatic 34), (10, .putfield 18), (13, .aload_n 0), (14, .getfield 25), (17, .iconst 0), (18, .iconst 0), (19, .iastore), (20, .iconst 1), (21, .istore_n 2), (22, .iload_n 2), (23, .aload_n 0), (24, .getfield 25), (27, .arraylength), (28, .if_icmp .ge 27), (31, .iload_n 2), (32, .iload_n 1), (33, .iand), (34, .iload_n 2), (35, .if_icmp .ne 14), (38, .aload_n 0), (39, .getfield 25), (42, .iload_n 2), (43, .aload_n 0), (44, .iload_n 2), (45, .invokevirtual 40), (48, .iastore), (49, .iinc 2 1), (52, .goto (-30)), (55, .iload_n 1), (56, .aload_n 0), (57, .getfield 25), (60, .arraylength), (61, .iconst 1), (62, .isub), (63, .iand), (64, .istore_n 2), (65, .aload_n 0), (66, .aload_n 0), (67, .getfield 25), (70, .iload_n 2), (71, .iaload), (72, .putfield 22), (75, .iconst 0), (76, .istore_n 3), (77, .iload_n 3), (78, .aload_n 0), (79, .getfield 18), (82, .if_icmp .ge 33), (85, .aload_n 0), (86, .getfield 15), (89, .iload_n 3), (90, .aload_n 0), (91, .iload_n 2), (92, .invokevirtual 43), (95, .iastore), (96, .iload_n 2), (97, .iconst 1), (98, .aload_n 0), (99, .getfield 15), (102, .iload_n 3), (103, .iaload), (104, .ishl), (105, .iconst (-1)), (106, .ixor), (107, .iand), (108, .istore_n 2), (109, .iinc 3 1), (112, .goto (-35)), (115, .return_)]
/-- SlateHalves$Planner.mostOf(I)I -/
def zt_101 : List (Nat × Instr) := [(0, .iconst 0), (1, .istore_n 2), (2, .iconst 0), (3, .istore_n 3), (4, .iload_n 3), (5, .bipush 6), (7, .if_icmp .ge 20), (10, .iload_n 2), (11, .aload_n 0), (12, .iload_n 3), (13, .iload_n 1), (14, .invokevirtual 46), (17, .invokestatic 49), (20, .istore_n 2), (21, .iinc 3 1), (24, .goto (-20)), (27, .iload_n 2), (28, .ireturn)]
/-- SlateHalves$Planner.sumWith(II)I -/
def zt_102 : List (Nat × Instr) := [(0, .aload_n 0), (1, .getfield 18), (4, .iload_n 2), (5, .invokestatic 28), (8, .isub), (9, .istore_n 3), (10, .iconst 1), (11, .iload_n 1), (12, .ishl), (13, .istore 4), (15, .iload_n 2), (16, .iload 4), (18, .iand), (19, .ifCond .eq 21), (22, .iload_n 2), (23, .aload_n 0), (24, .getfield 25), (27, .arraylength), (28, .if_icmp .ge 12), (31, .iload_n 3), (32, .iconst 0), (33, .iconst 5), (34, .invokestatic 52), (37, .ifCond .ne 5), (40, .iconst (-1)), (41, .ireturn), (42, .aload_n 0), (43, .getfield 9), (46, .iload_n 1), (47, .bipush 6), (49, .imul), (50, .iload_n 3), (51, .iadd), (52, .iaload), (53, .aload_n 0), (54, .getfield 25), (57, .iload_n 2), (58, .iload 4), (60, .ixor), (61, .iaload), (62, .iadd), (63, .ireturn)]
/-- SlateHalves$Planner.firstOf(I)I -/
def zt_103 : List (Nat × Instr) := [(0, .iconst 0), (1, .istore_n 2), (2, .iload_n 2), (3, .bipush 6), (5, .if_icmp .ge 26), (8, .aload_n 0), (9, .iload_n 2), (10, .iload_n 1), (11, .invokevirtual 46), (14, .aload_n 0), (15, .getfield 25), (18, .iload_n 1), (19, .iaload), (20, .if_icmp .ne 5), (23, .iload_n 2), (24, .ireturn), (25, .iinc 2 1), (28, .goto (-26)), (31, .iconst 0), (32, .ireturn)]
/-- SlateHalves.loses(I)I -/
def zt_104 : List (Nat × Instr) := [(0, .aload_n 0), (1, .getfield 12), (4, .getfield 100), (7, .iload_n 1), (8, .invokevirtual 116), (11, .astore_n 2), (12, .aload_n 2), (13, .ifnonnull 9), (16, .sipush (-1001)), (19, .goto 8), (22, .aload_n 0), (23, .aload_n 2), (24, .invokevirtual 279), (27, .ireturn)]
/-- SlateHalves.lossOf(LSlateHalves$Block;)I -/
def zt_105 : List (Nat × Instr) := [(0, .aload_n 0), (1, .iconst 1), (2, .invokevirtual 241), (5, .aload_n 0), (6, .getfield 28), (9, .aload_n 1), (10, .getfield 113), (13, .invokevirtual 116), (16, .astore_n 2), (17, .aload_n 2), (18, .ifnonnull 7), (21, .iconst 0), (22, .goto 12), (25, .aload_n 0), (26, .aload_n 0), (27, .getfield 28), (30, .aload_n 2), (31, .invokevirtual 245), (34, .istore_n 3), (35, .aload_n 0), (36, .aload_n 0), (37, .getfield 12), (40, .getfield 100), (43, .aload_n 1), (44, .invokevirtual 245), (47, .iload_n 3), (48, .isub), (49, .ireturn)]
/-- SlateHalves.worst()I -/
def zt_106 : List (Nat × Instr) := [(0, .bipush (-5)), (2, .istore_n 1), (3, .iconst 0), (4, .istore_n 2), (5, .iconst 0), (6, .istore_n 3), (7, .iload_n 3), (8, .aload_n 0), (9, .getfield 12), (12, .getfield 100), (15, .getfield 261), (18, .if_icmp .ge 56), (21, .aload_n 0), (22, .getfield 12), (25, .getfield 100), (28, .getfield 264), (31, .iload_n 3), (32, .aaload), (33, .astore 4), (35, .aload 4), (37, .invokevirtual 204), (40, .ifCond .ne 28), (43, .aload_n 0), (44, .aload 4), (46, .invokevirtual 279), (49, .istore 5), (51, .iload_n 1), (52, .bipush (-5)), (54, .if_icmp .eq 9), (57, .iload 5), (59, .iload_n 2), (60, .if_icmp .le 8), (63, .iload_n 3), (64, .istore_n 1), (65, .iload 5), (67, .istore_n 2), (68, .iinc 3 1), (71, .goto (-64)), (74, .iload_n 1), (75, .ireturn)]
/-- SlateHalves.see(IIZ)I -/
def zt_107 : List (Nat × Instr) := [(0, .iload_n 1), (1, .iconst (-1)), (2, .if_icmp .ne 16), (5, .aload_n 0), (6, .getfield 12), (9, .getfield 283), (12, .iconst 0), (13, .putfield 287), (16, .iconst 0), (17, .ireturn), (18, .iload_n 2), (19, .iload_n 1), (20, .invokestatic 200), (23, .ifCond .ne 6), (26, .bipush (-2)), (28, .ireturn), (29, .aload_n 0), (30, .getfield 12), (33, .getfield 283), (36, .iload_n 1), (37, .iload_n 2), (38, .iload_n 3), (39, .ifCond .eq 7), (42, .iconst 1), (43, .goto 4), (46, .iconst 0), (47, .invokevirtual 292), (50, .ireturn)]
/-- SlateHalves$Rows.addRow(III)I -/
def zt_108 : List (Nat × Instr) := [(0, .aload_n 0), (1, .getfield 9), (4, .aload_n 0), (5, .getfield 15), (8, .if_icmp .lt 6), (11, .bipush (-4)), (13, .ireturn), (14, .aload_n 0), (15, .getfield 18), (18, .aload_n 0), (19, .getfield 9), (22, .iload_n 1), (23, .iastore), (24, .aload_n 0), (25, .getfield 22), (28, .aload_n 0), (29, .getfield 9), (32, .iload_n 2), (33, .iastore), (34, .aload_n 0), (35, .getfield 25), (38, .aload_n 0), (39, .getfield 9), (42, .iload_n 3), (43, .iastore), (44, .aload_n 0), (45, .dup), (46, .getfield 9), (49, .iconst 1), (50, .iadd), (51, .putfield 9), (54, .aload_n 0), (55, .getfield 9), (58, .ireturn)]
/-- SlateHalves.dryness(II)I -/
def zt_109 : List (Nat × Instr) := [(0, .aload_n 0), (1, .iload_n 1), (2, .iload_n 2), (3, .bipush 99), (5, .iconst 1), (6, .invokevirtual 295), (9, .ireturn)]
/-- SlateHalves.fitting(IIIZ)I -/
def zt_110 : List (Nat × Instr) := [(0, .aload_n 0), (1, .getfield 12), (4, .getfield 100), (7, .iload_n 1), (8, .invokevirtual 116), (11, .astore 5), (13, .aload 5), (15, .ifnull 12), (18, .iload_n 2), (19, .iconst 0), (20, .iconst 1), (21, .invokestatic 96), (24, .ifCond .ne 5), (27, .iconst (-1)), (28, .ireturn), (29, .iconst 0), (30, .istore 6), (32, .bipush (-5)), (34, .istore 7), (36, .iload_n 3), (37, .istore 8), (39, .iload 8), (41, .ifCond .lt 72), (44, .aload_n 0), (45, .getfield 64), (48, .aload 5), (50, .iload 4), (52, .ifCond .eq 11), (55, .aload 5), (57, .getfield 123), (60, .goto 5), (63, .iload 8), (65, .iload 4), (67, .ifCond .eq 8), (70, .iload 8), (72, .goto 8), (75, .aload 5), (77, .getfield 129), (80, .aload_n 0), (81, .getfield 12), (84, .getfield 100), (87, .getfield 139), (90, .invokevirtual 299), (93, .aload_n 0), (94, .invokevirtual 303), (97, .ifCond .eq 10), (100, .iinc 6 1), (103, .iload 8), (105, .istore 7), (107, .iinc 8 (-1)), (110, .goto (-71)), (113, .iload_n 2), (114, .ifCond .ne 8), (117, .iload 6), (119, .goto 5), (122, .iload 7), (124, .ireturn)]
/-- SlateHalves.isAllSeenSo()Z -/
def zt_111 : List (Nat × Instr) := [(0, .aload_n 0), (1, .getfield 12), (4, .getfield 283), (7, .astore_n 1), (8, .iconst 0), (9, .istore_n 2), (10, .iload_n 2), (11, .aload_n 1), (12, .getfield 287), (15, .if_icmp .ge 48), (18, .aload_n 0), (19, .getfield 64), (22, .aload_n 1), (23, .getfield 306), (26, .iload_n 2), (27, .iaload), (28, .aload_n 1), (29, .getfield 309), (32, .iload_n 2), (33, .iaload), (34, .invokevirtual 312), (37, .aload_n 1), (38, .getfield 315), (41, .iload_n 2), (42, .iaload), (43, .iconst 1), (44, .if_icmp .ne 7), (47, .iconst 1), (48, .goto 4), (51, .iconst 0), (52, .if_icmp .eq 5), (55, .iconst 0), (56, .ireturn), (57, .iinc 2 1), (60, .goto (-50)), (63, .iconst 1), (64, .ireturn)]
/-- SlateHalves.can(II)I -/
def zt_112 : List (Nat × Instr) := [(0, .aload_n 0), (1, .iload_n 1), (2, .iload_n 2), (3, .bipush 9), (5, .iconst 0), (6, .invokevirtual 295), (9, .ireturn)]
/-- SlateHalves.odds(II)J -/
def zt_113 : List (Nat × Instr) := [(0, .aload_n 0), (1, .getfield 12), (4, .getfield 100), (7, .iload_n 1), (8, .invokevirtual 116), (11, .astore_n 3), (12, .aload_n 3), (13, .ifnull 11), (16, .aload_n 3), (17, .getfield 126), (20, .iconst 2), (21, .if_icmp .ge 7), (24, .ldc2_w 318), (27, .lreturn), (28, .aload_n 0), (29, .getfield 64), (32, .aload_n 3), (33, .aload_n 0), (34, .getfield 12), (37, .getfield 100), (40, .getfield 139), (43, .invokevirtual 320), (46, .iconst 0), (47, .istore 4), (49, .iconst 1), (50, .istore 5), (52, .iload 5), (54, .aload_n 3), (55, .getfield 126), (58, .if_icmp .ge 28), (61, .aload_n 0), (62, .getfield 64), (65, .aload_n 3), (66, .getfield 126), (69, .iload 5), (71, .invokevirtual 312), (74, .ifCond .eq 6), (77, .iinc 4 1), (80, .iinc 5 1), (83, .goto (-31)), (86, .iload 4), (88, .aload_n 3), (89, .getfield 126), (92, .iconst 1), (93, .isub), (94, .iload_n 2), (95, .invokestatic 323), (98, .lreturn)]
/-- SlateHalves.partOf(III)J -/
def zt_114 : List (Nat × Instr) := [(0, .iload_n 1), (1, .iconst 1), (2, .if_icmp .lt 12), (5, .iload_n 2), (6, .iconst 0), (7, .iconst 1), (8, .invokestatic 96), (11, .ifCond .ne 7), (14, .ldc2_w 318), (17, .lreturn), (18, .iload_n 1), (19, .istore_n 3), (20, .iload_n 0), (21, .istore 4), (23, .iload 4), (25, .ifCond .eq 19), (28, .iload_n 3), (29, .iload 4), (31, .irem), (32, .istore 5), (34, .iload 4), (36, .istore_n 3), (37, .iload 5), (39, .istore 4), (41, .goto (-18)), (44, .iload_n 3), (45, .ifCond .ne 9), (48, .ldc2_w 318), (51, .goto 15), (54, .iload_n 2), (55, .ifCond .ne 7), (58, .iload_n 0), (59, .goto 4), (62, .iload_n 1), (63, .iload_n 3), (64, .idiv), (65, .i2l), (66, .lreturn)]
/-- SlateHalves.mean(I)J -/
def zt_115 : List (Nat × Instr) := [(0, .iconst 0), (1, .istore_n 2), (2, .iconst 0), (3, .istore_n 3), (4, .iconst 0), (5, .istore 4), (7, .iload 4), (9, .aload_n 0), (10, .getfield 12), (13, .getfield 100), (16, .getfield 261), (19, .if_icmp .ge 50), (22, .aload_n 0), (23, .getfield 12), (26, .getfield 100), (29, .getfield 264), (32, .iload 4), (34, .aaload), (35, .invokevirtual 204), (38, .ifCond .ne 25), (41, .iload_n 2), (42, .aload_n 0), (43, .getfield 12), (46, .getfield 100), (49, .getfield 264), (52, .iload 4), (54, .aaload), (55, .getfield 126), (58, .iadd), (59, .istore_n 2), (60, .iinc 3 1), (63, .iinc 4 1), (66, .goto (-59)), (69, .iload_n 2), (70, .iload_n 3), (71, .iload_n 1), (72, .invokestatic 323), (75, .lreturn)]
/-- SlateHalves.week(II)I -/
def zt_116 : List (Nat × Instr) := [(0, .iload_n 1), (1, .iconst (-1)), (2, .if_icmp .ne 16), (5, .aload_n 0), (6, .getfield 12), (9, .getfield 327), (12, .iconst 0), (13, .putfield 287), (16, .iconst 0), (17, .ireturn), (18, .iload_n 1), (19, .iconst 0), (20, .iconst 2), (21, .invokestatic 96), (24, .ifCond .ne 5), (27, .iconst (-1)), (28, .ireturn), (29, .iload_n 1), (30, .ifCond .eq 19), (33, .aload_n 0), (34, .getfield 12), (37, .getfield 100), (40, .iload_n 2), (41, .invokevirtual 116), (44, .ifnonnull 5), (47, .iconst (-1)), (48, .ireturn), (49, .aload_n 0), (50, .getfield 12), (53, .getfield 327), (56, .iload_n 1), (57, .iload_n 2), (58, .iconst 0), (59, .invokevirtual 292), (62, .ireturn)]
/-- SlateHalves.ends(I)I -/
def zt_117 : List (Nat × Instr) := [(0, .iload_n 1), (1, .iconst 0), (2, .iconst 1), (3, .invokestatic 96), (6, .ifCond .ne 5), (9, .iconst (-1)), (10, .ireturn), (11, .aload_n 0), (12, .getfield 28), (15, .aload_n 0), (16, .getfield 12), (19, .getfield 100), (22, .invokevirtual 330), (25, .iconst 0), (26, .istore_n 2), (27, .iconst 0), (28, .istore_n 3), (29, .iload_n 3), (30, .aload_n 0), (31, .getfield 12), (34, .getfield 327), (37, .getfield 287), (40, .if_icmp .ge 47), (43, .iload_n 2), (44, .aload_n 0), (45, .aload_n 0), (46, .getfield 12), (49, .getfield 327), (52, .getfield 309), (55, .iload_n 3), (56, .iaload), (57, .aload_n 0), (58, .getfield 28), (61, .aload_n 0), (62, .getfield 12), (65, .getfield 327), (68, .getfield 306), (71, .iload_n 3), (72, .iaload), (73, .invokevirtual 116), (76, .invokevirtual 333), (79, .iadd), (80, .istore_n 2), (81, .iinc 3 1), (84, .goto (-55)), (87, .iload_n 1), (88, .ifCond .ne 7), (91, .iload_n 2), (92, .goto 10), (95, .aload_n 0), (96, .getfield 28), (99, .invokevirtual 337), (102, .ireturn)]
/-- SlateHalves.goRow(ILSlateHalves$Block;)I -/
def zt_118 : List (Nat × Instr) := [(0, .iload_n 1), (1, .ifCond .ne 20), (4, .aload_n 0), (5, .getfield 28), (8, .iconst 1), (9, .aload_n 0), (10, .invokevirtual 135), (13, .getfield 150), (16, .invokevirtual 237), (19, .iconst 0), (20, .ireturn), (21, .aload_n 2), (22, .ifnull 10), (25, .aload_n 2), (26, .invokevirtual 204), (29, .ifCond .eq 5), (32, .iconst 0), (33, .ireturn), (34, .iload_n 1), (35, .iconst 1), (36, .if_icmp .ne 15), (39, .aload_n 0), (40, .aload_n 0), (41, .getfield 28), (44, .aload_n 2), (45, .invokevirtual 208), (48, .goto 12), (51, .aload_n 0), (52, .aload_n 0), (53, .getfield 28), (56, .aload_n 2), (57, .invokevirtual 245), (60, .istore_n 3), (61, .aload_n 2), (62, .iconst 0), (63, .putfield 126), (66, .iload_n 3), (67, .ireturn)]
/-- SlateHalves$Yard.countPresent()I -/
def zt_119 : List (Nat × Instr) := [(0, .iconst 0), (1, .istore_n 1), (2, .iconst 0), (3, .istore_n 2), (4, .iload_n 2), (5, .aload_n 0), (6, .getfield 17), (9, .if_icmp .ge 24), (12, .aload_n 0), (13, .getfield 11), (16, .iload_n 2), (17, .aaload), (18, .invokevirtual 37), (21, .ifCond .ne 6), (24, .iinc 1 1), (27, .iinc 2 1), (30, .goto (-26)), (33, .iload_n 1), (34, .ireturn)]
/-- SlateHalves.book(II)I -/
def zt_120 : List (Nat × Instr) := [(0, .iload_n 1), (1, .iconst (-1)), (2, .if_icmp .ne 16), (5, .aload_n 0), (6, .getfield 12), (9, .getfield 340), (12, .iconst 0), (13, .putfield 287), (16, .iconst 0), (17, .ireturn), (18, .aload_n 0), (19, .getfield 12), (22, .getfield 100), (25, .iload_n 1), (26, .invokevirtual 116), (29, .ifnonnull 5), (32, .iconst (-1)), (33, .ireturn), (34, .iload_n 2), (35, .iconst 0), (36, .bipush 60), (38, .invokestatic 96), (41, .ifCond .ne 6), (44, .bipush (-2)), (46, .ireturn), (47, .aload_n 0), (48, .getfield 12), (51, .getfield 340), (54, .iload_n 1), (55, .iload_n 2), (56, .iconst 0), (57, .invokevirtual 292), (60, .ireturn)]
/-- SlateHalves.looked()I -/
def zt_121 : List (Nat × Instr) := [(0, .iconst 0), (1, .istore_n 1), (2, .iload_n 1), (3, .aload_n 0), (4, .getfield 12), (7, .getfield 340), (10, .getfield 287), (13, .if_icmp .ge 57), (16, .aload_n 0), (17, .getfield 12), (20, .getfield 100), (23, .aload_n 0), (24, .getfield 12), (27, .getfield 340), (30, .getfield 309), (33, .iload_n 1), (34, .iaload), (35, .invokevirtual 116), (38, .astore_n 2), (39, .aload_n 2), (40, .ifnull 22), (43, .aload_n 2), (44, .getfield 126), (47, .aload_n 0), (48, .getfield 12), (51, .getfield 340), (54, .getfield 306), (57, .iload_n 1), (58, .iaload), (59, .if_icmp .eq 5), (62, .iload_n 1), (63, .ireturn), (64, .iinc 1 1), (67, .goto (-65)), (70, .bipush (-5)), (72, .ireturn)]
/-- SlateHalves.judge(II)I -/
def zt_122 : List (Nat × Instr) := [(0, .iload_n 1), (1, .iconst 0), (2, .iconst 5), (3, .invokestatic 96), (6, .ifCond .ne 5), (9, .iconst (-1)), (10, .ireturn), (11, .aload_n 0), (12, .getfield 91), (15, .iload_n 1), (16, .aaload), (17, .astore_n 3), (18, .aload_n 3), (19, .invokevirtual 343), (22, .ifCond .ne 13), (25, .aload_n 3), (26, .getfield 346), (29, .ifCond .eq 6), (32, .bipush (-12)), (34, .ireturn), (35, .iconst 0), (36, .istore 4), (38, .iload 4), (40, .aload_n 0), (41, .getfield 12), (44, .getfield 100), (47, .getfield 261), (50, .if_icmp .ge 63), (53, .iload_n 2), (54, .ifCond .lt 14), (57, .iload_n 2), (58, .aload_n 3), (59, .getfield 349), (62, .iload 4), (64, .isub), (65, .if_icmp .lt 9), (68, .bipush 100), (70, .iload 4), (72, .iadd), (73, .ireturn), (74, .aload_n 3), (75, .getfield 350), (78, .iload_n 2), (79, .iload 4), (81, .iadd), (82, .laload), (83, .aload_n 0), (84, .getfield 12), (87, .getfield 100), (90, .getfield 264), (93, .iload 4), (95, .aaload), (96, .getfield 126), (99, .i2l), (100, .lcmp), (101, .ifCond .eq 6), (104, .iload 4), (106, .ireturn), (107, .iinc 4 1), (110, .goto (-72)), (113, .bipush (-5)), (115, .ireturn)]
/-- SlateHalves$Tape.isNothing()Z -/
def zt_123 : List (Nat × Instr) := [(0, .aload_n 0), (1, .getfield 15), (4, .ifCond .ge 7), (7, .iconst 1), (8, .goto 4), (11, .iconst 0), (12, .ireturn)]
/-- SlateHalves.image()I -/
def zt_124 : List (Nat × Instr) := [(0, .aload_n 0), (1, .getfield 18), (4, .aload_n 0), (5, .getfield 12), (8, .invokevirtual 354), (11, .aload_n 0), (12, .iconst 1), (13, .putfield 21), (16, .aload_n 0), (17, .getfield 18), (20, .getfield 100), (23, .getfield 261), (26, .ireturn)]
/-- SlateHalves$Scene.copyFrom(LSlateHalves$Scene;)V -/
def zt_125 : List (Nat × Instr) := [(0, .aload_n 0), (1, .getfield 12), (4, .aload_n 1), (5, .getfield 12), (8, .invokevirtual 33), (11, .aload_n 0), (12, .getfield 23), (15, .aload_n 1), (16, .getfield 23), (19, .invokevirtual 37), (22, .aload_n 0), (23, .getfield 27), (26, .aload_n 1), (27, .getfield 27), (30, .invokevirtual 37), (33, .aload_n 0), (34, .getfield 30), (37, .aload_n 1), (38, .getfield 30), (41, .invokevirtual 37), (44, .return_)]
/-- SlateHalves$Rows.copyFrom(LSlateHalves$Rows;)V -/
def zt_126 : List (Nat × Instr) := [(0, .aload_n 0), (1, .aload_n 0), (2, .getfield 15), (5, .aload_n 1), (6, .getfield 9), (9, .invokestatic 28), (12, .putfield 9), (15, .aload_n 1), (16, .getfield 18), (19, .iconst 0), (20, .aload_n 0), (21, .getfield 18), (24, .iconst 0), (25, .aload_n 0), (26, .getfield 9), (29, .invokestatic 34), (32, .aload_n 1), (33, .getfield 22), (36, .iconst 0), (37, .aload_n 0), (38, .getfield 22), (41, .iconst 0), (42, .aload_n 0), (43, .getfield 9), (46, .invokestatic 34), (49, .aload_n 1), (50, .getfield 25), (53, .iconst 0), (54, .aload_n 0), (55, .getfield 25), (58, .iconst 0), (59, .aload_n 0), (60, .getfield 9), (63, .invokestatic 34), (66, .return_)]
/-- SlateHalves.undo()I -/
def zt_127 : List (Nat × Instr) := [(0, .aload_n 0), (1, .getfield 21), (4, .ifCond .ne 6), (7, .bipush (-3)), (9, .ireturn), (10, .aload_n 0), (11, .getfield 12), (14, .aload_n 0), (15, .getfield 18), (18, .invokevirtual 354), (21, .aload_n 0), (22, .getfield 12), (25, .getfield 100), (28, .getfield 261), (31, .ireturn)]
/-- SlateHalves.act(III)I -/
def zt_128 : List (Nat × Instr) := [(0, .aload_n 0), (1, .getfield 85), (4, .iconst 0), (5, .putfield 357), (8, .aload_n 0), (9, .getfield 12), (12, .getfield 100), (15, .iload_n 1), (16, .invokevirtual 116), (19, .astore 4), (21, .aload 4), (23, .ifnonnull 7), (26, .iconst 0), (27, .goto 14), (30, .aload_n 0), (31, .getfield 85), (34, .aload 4), (36, .iload_n 2), (37, .iload_n 3), (38, .invokevirtual 360), (41, .ireturn)]
/-- SlateHalves$Acts.perform(LSlateHalves$Block;II)I -/
def zt_129 : List (Nat × Instr) := [(0, .aload_n 0), (1, .aload_n 1), (2, .getfield 19), (5, .putfield 24), (8, .aload_n 0), (9, .aload_n 1), (10, .getfield 25), (13, .putfield 28), (16, .aload_n 0), (17, .aload_n 1), (18, .getfield 29), (21, .putfield 32), (24, .iload_n 2), (25, .tableswitch 57 0 2 #[27, 37, 47]), (52, .aload_n 0), (53, .aload_n 0), (54, .getfield 24), (57, .iload_n 3), (58, .invokevirtual 33), (61, .ireturn), (62, .aload_n 0), (63, .aload_n 0), (64, .getfield 24), (67, .iload_n 3), (68, .invokevirtual 37), (71, .ireturn), (72, .aload_n 0), (73, .aload_n 0), (74, .getfield 24), (77, .iload_n 3), (78, .invokevirtual 40), (81, .ireturn), (82, .iconst 0), (83, .ireturn)]
/-- SlateHalves$Acts.ringsFrom(II)I -/
def zt_130 : List (Nat × Instr) := [(0, .iload_n 1), (1, .tableswitch 82 2 6 #[35, 82, 50, 35, 64]), (36, .aload_n 0), (37, .bipush 30), (39, .invokevirtual 43), (42, .aload_n 0), (43, .iconst 0), (44, .iload_n 2), (45, .iconst 3), (46, .imul), (47, .invokevirtual 33), (50, .ireturn), (51, .aload_n 0), (52, .bipush 50), (54, .invokevirtual 43), (57, .aload_n 0), (58, .iconst 1), (59, .iload_n 2), (60, .invokevirtual 33), (63, .ineg), (64, .ireturn), (65, .aload_n 0), (66, .bipush 71), (68, .invokevirtual 43), (71, .aload_n 0), (72, .iconst 3), (73, .iload_n 2), (74, .invokevirtual 33), (77, .aload_n 0), (78, .getfield 28), (81, .ixor), (82, .ireturn), (83, .aload_n 0), (84, .bipush 10), (86, .invokevirtual 43), (89, .iload_n 2), (90, .aload_n 0), (91, .getfield 32), (94, .iadd), (95, .ireturn)]
/-- SlateHalves$Acts.begin(I)V -/
def zt_131 : List (Nat × Instr) := [(0, .aload_n 0), (1, .getfield 15), (4, .bipush 20), (6, .if_icmp .ge 13), (9, .aload_n 0), (10, .getfield 9), (13, .aload_n 0), (14, .getfield 15), (17, .iload_n 1), (18, .iastore), (19, .aload_n 0), (20, .dup), (21, .getfield 15), (24, .iconst 1), (25, .iadd), (26, .putfield 15), (29, .return_)]
/-- SlateHalves$Acts.splitsFrom(II)I -/
def zt_132 : List (Nat × Instr) := [(0, .iload_n 1), (1, .lookupswitch 86 #[(1, 35), (4, 51), (6, 66)]), (36, .aload_n 0), (37, .bipush 20), (39, .invokevirtual 43), (42, .aload_n 0), (43, .iconst 0), (44, .iload_n 2), (45, .invokevirtual 37), (48, .bipush 6), (50, .ixor), (51, .ireturn), (52, .aload_n 0), (53, .bipush 51), (55, .invokevirtual 43), (58, .aload_n 0), (59, .iconst 1), (60, .iload_n 2), (61, .iconst 1), (62, .iadd), (63, .invokevirtual 37), (66, .ireturn), (67, .aload_n 0), (68, .bipush 70), (70, .invokevirtual 43), (73, .aload_n 0), (74, .iconst 3), (75, .iload_n 2), (76, .invokevirtual 37), (79, .aload_n 0), (80, .iconst 3), (81, .iconst 2), (82, .invokevirtual 33), (85, .iadd), (86, .ireturn), (87, .aload_n 0), (88, .bipush 11), (90, .invokevirtual 43), (93, .aload_n 0), (94, .aload_n 0), (95, .getfield 24), (98, .iload_n 2), (99, .invokevirtual 33), (102, .aload_n 0), (103, .getfield 28), (106, .isub), (107, .ireturn)]
/-- SlateHalves$Acts.tellsFrom(II)I -/
def zt_133 : List (Nat × Instr) := [(0, .iload_n 1), (1, .tableswitch 72 3 6 #[31, 72, 54, 31]), (32, .aload_n 0), (33, .bipush 40), (35, .invokevirtual 43), (38, .aload_n 0), (39, .iconst 0), (40, .iload_n 2), (41, .invokevirtual 40), (44, .aload_n 0), (45, .aload_n 0), (46, .getfield 24), (49, .iconst 1), (50, .invokevirtual 37), (53, .iadd), (54, .ireturn), (55, .aload_n 0), (56, .bipush 60), (58, .invokevirtual 43), (61, .aload_n 0), (62, .iconst 2), (63, .iload_n 2), (64, .aload_n 0), (65, .getfield 32), (68, .isub), (69, .invokevirtual 40), (72, .ireturn), (73, .aload_n 0), (74, .bipush 12), (76, .invokevirtual 43), (79, .aload_n 0), (80, .aload_n 0), (81, .getfield 24), (84, .iload_n 2), (85, .invokevirtual 37), (88, .iconst 2), (89, .imul), (90, .ireturn)]
/-- SlateHalves.trace(I)I -/
def zt_134 : List (Nat × Instr) := [(0, .iload_n 1), (1, .iconst 0), (2, .aload_n 0), (3, .getfield 85), (6, .getfield 357), (9, .bipush 20), (11, .invokestatic 216), (14, .iconst 1), (15, .isub), (16, .invokestatic 96), (19, .ifCond .eq 15), (22, .aload_n 0), (23, .getfield 85), (26, .getfield 364), (29, .iload_n 1), (30, .iaload), (31, .goto 4), (34, .iconst (-1)), (35, .ireturn)]
/-- SlateHalves.taken(II)I -/
def zt_135 : List (Nat × Instr) := [(0, .iload_n 2), (1, .iconst 0), (2, .bipush 6), (4, .invokestatic 96), (7, .ifCond .ne 6), (10, .bipush (-2)), (12, .ireturn), (13, .aload_n 0), (14, .getfield 12), (17, .getfield 100), (20, .iload_n 1), (21, .invokevirtual 116), (24, .astore_n 3), (25, .aload_n 3), (26, .ifnonnull 6), (29, .bipush (-11)), (31, .ireturn), (32, .aload_n 3), (33, .getfield 120), (36, .istore 4), (38, .iload 4), (40, .iconst 0), (41, .bipush 6), (43, .invokestatic 96), (46, .ifCond .eq 25), (49, .iload 4), (51, .iload_n 2), (52, .if_icmp .ne 8), (55, .aload_n 3), (56, .getfield 120), (59, .ireturn), (60, .getstatic 367), (63, .iload 4), (65, .iaload), (66, .istore 4), (68, .goto (-30)), (71, .bipush (-12)), (73, .ireturn)]
/-- SlateHalves.count(I)I -/
def zt_136 : List (Nat × Instr) := [(0, .iload_n 1), (1, .tableswitch 105 0 6 #[43, 54, 59, 70, 81, 92, 97]), (44, .aload_n 0), (45, .getfield 12), (48, .getfield 100), (51, .getfield 261), (54, .ireturn), (55, .aload_n 0), (56, .getfield 46), (59, .ireturn), (60, .aload_n 0), (61, .getfield 12), (64, .getfield 283), (67, .getfield 287), (70, .ireturn), (71, .aload_n 0), (72, .getfield 12), (75, .getfield 327), (78, .getfield 287), (81, .ireturn), (82, .aload_n 0), (83, .getfield 12), (86, .getfield 340), (89, .getfield 287), (92, .ireturn), (93, .aload_n 0), (94, .getfield 36), (97, .ireturn), (98, .aload_n 0), (99, .getfield 85), (102, .getfield 357), (105, .ireturn), (106, .bipush (-2)), (108, .ireturn)]
/-- SlateHalves.tape(III)I -/
def zt_137 : List (Nat × Instr) := [(0, .iload_n 1), (1, .iconst 0), (2, .iconst 5), (3, .invokestatic 96), (6, .ifCond .ne 5), (9, .iconst (-1)), (10, .ireturn), (11, .iload_n 2), (12, .iconst (-1)), (13, .if_icmp .ne 14), (16, .aload_n 0), (17, .getfield 91), (20, .iload_n 1), (21, .aaload), (22, .invokevirtual 370), (25, .iconst 1), (26, .ireturn), (27, .iload_n 2), (28, .iconst 0), (29, .iconst 4), (30, .invokestatic 96), (33, .ifCond .eq 9), (36, .iload_n 3), (37, .bipush 60), (39, .if_icmp .le 6), (42, .bipush (-2)), (44, .ireturn), (45, .iload_n 3), (46, .ifCond .ge 6), (49, .bipush (-14)), (51, .ireturn), (52, .aload_n 0), (53, .getfield 91), (56, .iload_n 1), (57, .aaload), (58, .iload_n 2), (59, .iload_n 3), (60, .invokevirtual 373), (63, .iconst 1), (64, .ireturn)]
/-- SlateHalves$Tape.becomeNothing()V -/
def zt_138 : List (Nat × Instr) := [(0, .aload_n 0), (1, .iconst (-1)), (2, .putfield 15), (5, .aload_n 0), (6, .iconst 0), (7, .putfield 19), (10, .return_)]
/-- SlateHalves$Tape.become(II)V -/
def zt_139 : List (Nat × Instr) := [(0, .aload_n 0), (1, .iload_n 1), (2, .putfield 15), (5, .aload_n 0), (6, .iload_n 2), (7, .putfield 19), (10, .aload_n 0), (11, .getfield 9), (14, .lconst 0), (15, .invokestatic 22), (18, .return_)]
/-- java/util/Arrays.fill([JJ)V -/
def zt_140 : List (Nat × Instr) := [(0, .iconst 0), (1, .istore_n 3), (2, .aload_n 0), (3, .arraylength), (4, .istore 4), (6, .iload_n 3), (7, .iload 4), (9, .if_icmp .ge 13), (12, .aload_n 0), (13, .iload_n 3), (14, .lload_n 1), (15, .lastore), (16, .iinc 3 1), (19, .goto (-13)), (22, .return_)]
/-- SlateHalves.item(IIJ)I -/
def zt_141 : List (Nat × Instr) := [(0, .iload_n 1), (1, .iconst 0), (2, .iconst 5), (3, .invokestatic 96), (6, .ifCond .ne 5), (9, .iconst (-1)), (10, .ireturn), (11, .aload_n 0), (12, .getfield 91), (15, .iload_n 1), (16, .aaload), (17, .astore 5), (19, .aload 5), (21, .invokevirtual 343), (24, .ifCond .eq 6), (27, .bipush (-11)), (29, .ireturn), (30, .iload_n 2), (31, .iconst 0), (32, .aload 5), (34, .getfield 349), (37, .iconst 1), (38, .isub), (39, .invokestatic 96), (42, .ifCond .ne 6), (45, .bipush (-13)), (47, .ireturn), (48, .aload 5), (50, .getfield 350), (53, .iload_n 2), (54, .aload 5), (56, .lload_n 3), (57, .invokevirtual 375), (60, .lastore), (61, .iconst 1), (62, .ireturn)]
/-- SlateHalves$Tape.fit(J)J -/
def zt_142 : List (Nat × Instr) := [(0, .aload_n 0), (1, .getfield 15), (4, .tableswitch 48 0 3 #[32, 37, 42, 46]), (36, .lload_n 1), (37, .l2i), (38, .i2b), (39, .i2l), (40, .lreturn), (41, .lload_n 1), (42, .l2i), (43, .i2s), (44, .i2l), (45, .lreturn), (46, .lload_n 1), (47, .l2i), (48, .i2l), (49, .lreturn), (50, .lload_n 1), (51, .lreturn), (52, .lload_n 1), (53, .lconst 0), (54, .lcmp), (55, .ifCond .eq 7), (58, .lconst 1), (59, .goto 4), (62, .lconst 0), (63, .lreturn)]
/-- SlateHalves.read(II)J -/
def zt_143 : List (Nat × Instr) := [(0, .iload_n 1), (1, .iconst 0), (2, .iconst 5), (3, .invokestatic 96), (6, .ifCond .eq 22), (9, .iload_n 2), (10, .iconst 0), (11, .aload_n 0), (12, .getfield 91), (15, .iload_n 1), (16, .aaload), (17, .getfield 349), (20, .iconst 1), (21, .isub), (22, .invokestatic 96), (25, .ifCond .ne 7), (28, .ldc2_w 318), (31, .lreturn), (32, .aload_n 0), (33, .getfield 91), (36, .iload_n 1), (37, .aaload), (38, .getfield 350), (41, .iload_n 2), (42, .laload), (43, .lreturn)]
/-- SlateHalves.shift(IIIII)I -/
def zt_144 : List (Nat × Instr) := [(0, .iload_n 1), (1, .iconst 0), (2, .iconst 5), (3, .invokestatic 96), (6, .ifCond .eq 12), (9, .iload_n 3), (10, .iconst 0), (11, .iconst 5), (12, .invokestatic 96), (15, .ifCond .ne 5), (18, .iconst (-1)), (19, .ireturn), (20, .aload_n 0), (21, .getfield 91), (24, .iload_n 1), (25, .aaload), (26, .astore 6), (28, .aload_n 0), (29, .getfield 91), (32, .iload_n 3), (33, .aaload), (34, .astore 7), (36, .aload 6), (38, .invokevirtual 343), (41, .ifCond .ne 11), (44, .aload 7), (46, .invokevirtual 343), (49, .ifCond .eq 6), (52, .bipush (-11)), (54, .ireturn), (55, .aload 6), (57, .getfield 346), (60, .aload 7), (62, .getfield 346), (65, .if_icmp .eq 6), (68, .bipush (-12)), (70, .ireturn), (71, .iload 5), (73, .ifCond .lt 36), (76, .iload_n 2), (77, .iconst 0), (78, .aload 6), (80, .getfield 349), (83, .iload 5), (85, .isub), (86, .invokestatic 96), (89, .ifCond .eq 20), (92, .iload 4), (94, .iconst 0), (95, .aload 7), (97, .getfield 349), (100, .iload 5), (102, .isub), (103, .invokestatic 96), (106, .ifCond .ne 6), (109, .bipush (-13)), (111, .ireturn), (112, .aload 6), (114, .getfield 350), (117, .iload_n 2), (118, .aload 7), (120, .getfield 350), (123, .iload 4), (125, .iload 5), (127, .invokestatic 379), (130, .iload 5), (132, .ireturn)]
/-- SlateHalvesModel.<init>()V -/
def zt_145 : List (Nat × Instr) := [(0, .aload_n 0), (1, .invokespecial 1), (4, .aload_n 0), (5, .iconst 0), (6, .putfield 7), (9, .aload_n 0), (10, .iconst 0), (11, .putfield 13), (14, .aload_n 0), (15, .iconst 0), (16, .putfield 16), (19, .aload_n 0), (20, .bipush 6), (22, .newarray .int), (24, .putfield 19), (27, .aload_n 0), (28, .bipush 6), (30, .newarray .int), (32, .putfield 23), (35, .aload_n 0), (36, .bipush 6), (38, .newarray .int), (40, .putfield 26), (43, .aload_n 0), (44, .bipush 6), (46, .newarray .int), (48, .putfield 29), (51, .aload_n 0), (52, .bipush 6), (54, .newarray .int), (56, .putfield 32), (59, .aload_n 0), (60, .bipush 24), (62, .newarray .int), (64, .putfield 35), (67, .aload_n 0), (68, .iconst 0), (69, .putfield 38), (72, .aload_n 0), (73, .iconst (-1)), (74, .putfield 41), (77, .aload_n 0), (78, .iconst 0), (79, .putfield 44), (82, .aload_n 0), (83, .iconst 0), (84, .putfield 47), (87, .aload_n 0), (88, .iconst 0), (89, .putfield 50), (92, .aload_n 0), (93, .bipush 100), (95, .newarray .int), (97, .putfield 53), (100, .aload_n 0), (101, .bipush 6), (103, .newarray .int), (105, .putfield 56), (108, .aload_n 0), (109, .bipush 60), (111, .newarray .int), (113, .putfield 59), (116, .aload_n 0), (117, .bipush 60), (119, .newarray .int), (121, .putfield 62), (124, .aload_n 0), (125, .bipush 60), (127, .newarray .int), (129, .putfield 65), (132, .aload_n 0), (133, .bipush 60), (135, .newarray .int), (137, .putfield 68), (140, .aload_n 0), (141, .sipush 600), (144, .newarray .int), (146, .putfield 71), (149, .aload_n 0), (150, .bipush 101), (152, .newarray .int), (154, .putfield 74), (157, .aload_n 0), (158, .iconst 0), (159, .putfield 77), (162, .aload_n 0), (163, .iconst 0), (164, .putfield 80), (167, .aload_n 0), (168, .iconst 0), (169, .putfield 83), (172, .aload_n 0), (173, .bipush 22), (175, .newarray .int), (177, .dup), (178, .iconst 0), (179, .bipush 100), (181, .iastore), (182, .dup), (183, .iconst 1), (184, .bipush 101), (186, .iastore), (187, .dup), (188, .iconst 2), (189, .bipush 97), (191, .iastore), (192, .dup), (193, .iconst 3), (194, .bipush 114), (196, .iastore), (197, .dup), (198, .iconst 4), (199, .bipush 99), (201, .iastore), (202, .dup), (203, .iconst 5), (204, .bipush 104), (206, .iastore), (207, .dup), (208, .bipush 6), (210, .bipush 101), (212, .iastore), (213, .dup), (214, .bipush 7), (216, .bipush 97), (218, .iastore), (219, .dup), (220, .bipush 8), (222, .bipush 112), (224, .iastore), (225, .dup), (226, .bipush 9), (228, .bipush 116), (230, .iastore), (231, .dup), (232, .bipush 10), (234, .bipush 104), (236, .iastore), (237, .dup), (238, .bipush 11), (240, .bipush 105), (242, .iastore), (243, .dup), (244, .bipush 12), (246, .bipush 110), (248, .iastore), (249, .dup), (250, .bipush 13), (252, .bipush 116), (254, .iastore), (255, .dup), (256, .bipush 14), (258, .bipush 104), (260, .iastore), (261, .dup), (262, .bipush 15), (264, .bipush 105), (266, .iastore), (267, .dup), (268, .bipush 16), (270, .bipush 99), (272, .iastore), (273, .dup), (274, .bipush 17), (276, .bipush 107), (278, .iastore), (279, .dup), (280, .bipush 18), (282, .bipush 119), (284, .iastore), (285, .dup), (286, .bipush 19), (288, .bipush 105), (290, .iastore), (291, .dup), (292, .bipush 20), (294, .bipush 110), (296, .iastore), (297, .dup), (298, .bipush 21), (300, .bipush 100), (302, .iastore), (303, .putfield 86), (306, .aload_n 0), (307, .bipush 100), (309, .newarray .boolean), (311, .putfield 89), (314, .aload_n 0), (315, .bipush 100), (317, .newarray .int), (319, .putfield 93), (322, .aload_n 0), (323, .bipush 100), (325, .newarray .int), (327, .putfield 96), (330, .aload_n 0), (331, .bipush 100), (333, .newarray .int), (335, .putfield 99), (338, .aload_n 0), (339, .bipush 100), (341, .newarray .int), (343, .putfield 102), (346, .aload_n 0), (347, .iconst 0), (348, .putfield 105), (351, .aload_n 0), (352, .bipush 6), (354, .newarray .int), (356, .putfield 108), (359, .aload_n 0), (360, .bipush 6), (362, .newarray .int), (364, .putfield 111), (367, .aload_n 0), (368, .bipush 36), (370, .newarray .int), (372, .putfield 114), (375, .aload_n 0), (376, .bipush 6), (378, .newarray .int), (380, .putfield 117), (383, .aload_n 0), (384, .bipush 6), (386, .newarray .int), (388, .putfield 120), (391, .aload_n 0), (392, .iconst 0), (393, .putfield 123), (396, .aload_n 0), (397, .iconst 0), (398, .putfield 126), (401, .aload_n 0), (402, .bipush 6), (404, .newarray .int), (406, .putfield 129), (409, .aload_n 0), (410, .bipush 6), (412, .newarray .int), (414, .putfield 132), (417, .aload_n 0), (418, .bipush 6), (420, .newarray .boolean), (422, .putfield 135), (425, .aload_n 0), (426, .iconst 0), (427, .putfield 138), (430, .aload_n 0), (431, .iconst 0), (432, .putfield 141), (435, .aload_n 0), (436, .bipush 10), (438, .newarray .int), (440, .putfield 144), (443, .aload_n 0), (444, .bipush 10), (446, .newarray .int), (448, .putfield 147), (451, .aload_n 0), (452, .bipush 8), (454, .newarray .int), (456, .putfield 150), (459, .aload_n 0), (460, .bipush 8), (462, .newarray .int), (464, .putfield 153), (467, .aload_n 0), (468, .iconst 0), (469, .putfield 156), (472, .aload_n 0), (473, .iconst (-1)), (474, .putfield 160), (477, .aload_n 0), (478, .iconst 0), (479, .putfield 163), (482, .aload_n 0), (483, .iconst 0), (484, .putfield 166), (487, .aload_n 0), (488, .iconst 0), (489, .putfield 169), (492, .aload_n 0), (493, .iconst 0), (494, .putfield 172), (497, .aload_n 0), (498, .iconst 0), (499, .putfield 175), (502, .aload_n 0), (503, .iconst 0), (504, .putfield 178), (507, .aload_n 0), (508, .bipush 6), (510, .newarray .int), (512, .putfield 181), (515, .aload_n 0), (516, .bipush 6), (518, .newarray .int), (520, .putfield 184), (523, .aload_n 0), (524, .bipush 6), (526, .newarray .int), (528, .putfield 187), (531, .aload_n 0), (532, .bipush 6), (534, .newarray .int), (536, .putfield 190), (539, .aload_n 0), (540, .bipush 6), (542, .newarray .int), (544, .putfield 193), (547, .aload_n 0), (548, .bipush 24), (550, .newarray .int), (552, .putfield 196), (555, .aload_n 0), (556, .bipush 6), (558, .newarray .int), (560, .putfield 199), (563, .aload_n 0), (564, .bipush 6), (566, .newarray .int), (568, .putfield 202), (571, .aload_n 0), (572, .bipush 10), (574, .newarray .int), (576, .putfield 205), (579, .aload_n 0), (580, .bipush 10), (582, .newarray .int), (584, .putfield 208), (587, .aload_n 0), (588, .bipush 8), (590, .newarray .int), (592, .putfield 211), (595, .aload_n 0), (596, .bipush 8), (598, .newarray .int), (600, .putfield 214), (603, .aload_n 0), (604, .bipush 6), (606, .newarray .boolean), (608, .putfield 217), (611, .aload_n 0), (612, .iconst 0), (613, .putfield 220), (616, .aload_n 0), (617, .bipush 20), (619, .newarray .int), (621, .putfield 223), (624, .aload_n 0), (625, .bipush 6), (627, .newarray .int), (629, .dup), (630, .iconst 0), (631, .iconst (-1)), (632, .iastore), (633, .dup), (634, .iconst 1), (635, .iconst (-1)), (636, .iastore), (637, .dup), (638, .iconst 2), (639, .iconst (-1)), (640, .iastore), (641, .dup), (642, .iconst 3), (643, .iconst (-1)), (644, .iastore), (645, .dup), (646, .iconst 4), (647, .iconst (-1)), (648, .iastore), (649, .dup), (650, .iconst 5), (651, .iconst (-1)), (652, .iastore), (653, .putfield 226), (656, .aload_n 0), (657, .bipush 6), (659, .newarray .int), (661, .putfield 229), (664, .aload_n 0), (665, .sipush 360), (668, .newarray .long), (670, .putfield 232), (673, .aload_n 0), (674, .bipush 60), (676, .newarray .long), (678, .putfield 236), (681, .return_)]
/-- SlateHalvesModel.block(III)I -/
def zt_146 : List (Nat × Instr) := [(0, .aload_n 0), (1, .iload_n 1), (2, .iconst 0), (3, .bipush 6), (5, .invokevirtual 239), (8, .ifCond .ne 5), (11, .iconst (-1)), (12, .ireturn), (13, .aload_n 0), (14, .iload_n 2), (15, .iconst 0), (16, .bipush 9), (18, .invokevirtual 239), (21, .ifCond .eq 14), (24, .aload_n 0), (25, .iload_n 3), (26, .iconst 1), (27, .bipush 60), (29, .invokevirtual 239), (32, .ifCond .ne 6), (35, .bipush (-2)), (37, .ireturn), (38, .aload_n 0), (39, .getfield 7), (42, .bipush 6), (44, .if_icmp .ne 6), (47, .bipush (-4)), (49, .ireturn), (50, .aload_n 0), (51, .getfield 19), (54, .aload_n 0), (55, .getfield 7), (58, .iload_n 1), (59, .iastore), (60, .aload_n 0), (61, .getfield 23), (64, .aload_n 0), (65, .getfield 7), (68, .iload_n 2), (69, .iastore), (70, .aload_n 0), (71, .getfield 26), (74, .aload_n 0), (75, .getfield 7), (78, .iload_n 3), (79, .iastore), (80, .aload_n 0), (81, .getfield 29), (84, .aload_n 0), (85, .getfield 7), (88, .iconst 0), (89, .iastore), (90, .aload_n 0), (91, .getfield 32), (94, .aload_n 0), (95, .getfield 7), (98, .iconst 0), (99, .iastore), (100, .iconst 0), (101, .istore 4), (103, .iload 4), (105, .iconst 4), (106, .if_icmp .ge 24), (109, .aload_n 0), (110, .getfield 35), (113, .iconst 4), (114, .aload_n 0), (115, .getfield 7), (118, .imul), (119, .iload 4), (121, .iadd), (122, .iconst 0), (123, .iastore), (124, .iinc 4 1), (127, .goto (-24)), (130, .aload_n 0), (131, .dup), (132, .getfield 7), (135, .iconst 1), (136, .iadd), (137, .putfield 7), (140, .aload_n 0), (141, .getfield 7), (144, .iconst 1), (145, .isub), (146, .ireturn)]
/-- SlateHalvesModel.in(III)Z -/
def zt_147 : List (Nat × Instr) := [(0, .iload_n 1), (1, .iload_n 2), (2, .if_icmp .lt 12), (5, .iload_n 1), (6, .iload_n 3), (7, .if_icmp .gt 7), (10, .iconst 1), (11, .goto 4), (14, .iconst 0), (15, .ireturn)]
/-- SlateHalvesModel.dry(II)I -/
def zt_148 : List (Nat × Instr) := [(0, .aload_n 0), (1, .iload_n 1), (2, .invokevirtual 243), (5, .ifCond .ne 5), (8, .iconst (-1)), (9, .ireturn), (10, .aload_n 0), (11, .iload_n 2), (12, .iconst 0), (13, .bipush 99), (15, .invokevirtual 239), (18, .ifCond .ne 6), (21, .bipush (-2)), (23, .ireturn), (24, .aload_n 0), (25, .getfield 29), (28, .iload_n 1), (29, .iaload), (30, .istore_n 3), (31, .aload_n 0), (32, .getfield 29), (35, .iload_n 1), (36, .iload_n 2), (37, .iastore), (38, .iload_n 3), (39, .ireturn)]
/-- SlateHalvesModel.isBlock(I)Z -/
def zt_149 : List (Nat × Instr) := [(0, .aload_n 0), (1, .iload_n 1), (2, .iconst 0), (3, .aload_n 0), (4, .getfield 7), (7, .iconst 1), (8, .isub), (9, .invokevirtual 239), (12, .ireturn)]
/-- SlateHalvesModel.row(III)I -/
def zt_150 : List (Nat × Instr) := [(0, .aload_n 0), (1, .iload_n 1), (2, .invokevirtual 243), (5, .ifCond .eq 13), (8, .aload_n 0), (9, .iload_n 2), (10, .iconst 0), (11, .iconst 3), (12, .invokevirtual 239), (15, .ifCond .ne 5), (18, .iconst (-1)), (19, .ireturn), (20, .aload_n 0), (21, .iload_n 3), (22, .iconst 0), (23, .bipush 9), (25, .invokevirtual 239), (28, .ifCond .ne 6), (31, .bipush (-2)), (33, .ireturn), (34, .aload_n 0), (35, .getfield 19), (38, .iload_n 1), (39, .iaload), (40, .bipush 6), (42, .if_icmp .eq 6), (45, .bipush (-3)), (47, .ireturn), (48, .aload_n 0), (49, .getfield 35), (52, .iconst 4), (53, .iload_n 1), (54, .imul), (55, .iload_n 2), (56, .iadd), (57, .iaload), (58, .istore 4), (60, .aload_n 0), (61, .getfield 35), (64, .iconst 4), (65, .iload_n 1), (66, .imul), (67, .iload_n 2), (68, .iadd), (69, .iload_n 3), (70, .iastore), (71, .iload 4), (73, .ireturn)]
/-- SlateHalvesModel.feed(I)I -/
def zt_151 : List (Nat × Instr) := [(0, .aload_n 0), (1, .iload_n 1), (2, .iconst 0), (3, .bipush 127), (5, .invokevirtual 239), (8, .ifCond .ne 6), (11, .bipush (-2)), (13, .ireturn), (14, .aload_n 0), (15, .getfield 44), (18, .bipush 100), (20, .if_icmp .ne 6), (23, .bipush (-4)), (25, .ireturn), (26, .aload_n 0), (27, .getfield 53), (30, .aload_n 0), (31, .getfield 44), (34, .iload_n 1), (35, .iastore), (36, .aload_n 0), (37, .dup), (38, .getfield 44), (41, .iconst 1), (42, .iadd), (43, .putfield 44), (46, .aload_n 0), (47, .getfield 44), (50, .ireturn)]
/-- SlateHalvesModel.hill()I -/
def zt_152 : List (Nat × Instr) := [(0, .aload_n 0), (1, .getfield 38), (4, .bipush 6), (6, .if_icmp .ne 6), (9, .bipush (-4)), (11, .ireturn), (12, .aload_n 0), (13, .aload_n 0), (14, .getfield 38), (17, .invokevirtual 291), (20, .istore_n 1), (21, .aload_n 0), (22, .iconst 0), (23, .putfield 44), (26, .iload_n 1), (27, .ifCond .ne 11), (30, .bipush (-10)), (32, .aload_n 0), (33, .getfield 47), (36, .isub), (37, .ireturn), (38, .aload_n 0), (39, .aload_n 0), (40, .getfield 38), (43, .putfield 41), (46, .aload_n 0), (47, .dup), (48, .getfield 38), (51, .iconst 1), (52, .iadd), (53, .putfield 38), (56, .aload_n 0), (57, .getfield 41), (60, .ireturn)]
/-- SlateHalvesModel.goesText(I)Z -/
def zt_153 : List (Nat × Instr) := [(0, .aload_n 0), (1, .iconst 0), (2, .putfield 47), (5, .aload_n 0), (6, .bipush 100), (8, .iload_n 1), (9, .imul), (10, .putfield 77), (13, .iconst 0), (14, .istore_n 2), (15, .aload_n 0), (16, .bipush 10), (18, .iload_n 1), (19, .imul), (20, .iload_n 2), (21, .iadd), (22, .invokevirtual 288), (25, .ifCond .ne 5), (28, .iconst 0), (29, .ireturn), (30, .iinc 2 1), (33, .aload_n 0), (34, .getfield 56), (37, .iload_n 1), (38, .iload_n 2), (39, .iastore), (40, .aload_n 0), (41, .getfield 47), (44, .aload_n 0), (45, .getfield 44), (48, .if_icmp .ne 5), (51, .iconst 1), (52, .ireturn), (53, .iload_n 2), (54, .bipush 10), (56, .if_icmp .eq 12), (59, .aload_n 0), (60, .bipush 59), (62, .invokevirtual 251), (65, .ifCond .ne (-50)), (68, .iconst 0), (69, .ireturn)]
/-- SlateHalvesModel.takesClause(I)Z -/
def zt_154 : List (Nat × Instr) := [(0, .aload_n 0), (1, .iload_n 1), (2, .invokevirtual 282), (5, .ifCond .eq 10), (8, .aload_n 0), (9, .invokevirtual 266), (12, .ifCond .ne 5), (15, .iconst 0), (16, .ireturn), (17, .aload_n 0), (18, .getfield 62), (21, .iload_n 1), (22, .aload_n 0), (23, .getfield 50), (26, .iastore), (27, .aload_n 0), (28, .getfield 59), (31, .iload_n 1), (32, .iaload), (33, .iconst 2), (34, .if_icmp .ge 20), (37, .aload_n 0), (38, .bipush 32), (40, .invokevirtual 251), (43, .ifCond .eq 15), (46, .aload_n 0), (47, .iload_n 1), (48, .invokevirtual 285), (51, .ifCond .eq 7), (54, .iconst 1), (55, .goto 4), (58, .iconst 0), (59, .ireturn)]
/-- SlateHalvesModel.takesHead(I)Z -/
def zt_155 : List (Nat × Instr) := [(0, .aload_n 0), (1, .invokevirtual 247), (4, .lookupswitch 79 #[(99, 50), (100, 36), (119, 64)]), (40, .aload_n 0), (41, .getfield 59), (44, .iload_n 1), (45, .iconst 0), (46, .iastore), (47, .aload_n 0), (48, .iconst 0), (49, .iconst 4), (50, .invokevirtual 278), (53, .ireturn), (54, .aload_n 0), (55, .getfield 59), (58, .iload_n 1), (59, .iconst 1), (60, .iastore), (61, .aload_n 0), (62, .iconst 4), (63, .iconst 5), (64, .invokevirtual 278), (67, .ireturn), (68, .aload_n 0), (69, .getfield 59), (72, .iload_n 1), (73, .iconst 4), (74, .iastore), (75, .aload_n 0), (76, .bipush 18), (78, .iconst 4), (79, .invokevirtual 278), (82, .ireturn), (83, .aload_n 0), (84, .getfield 59), (87, .iload_n 1), (88, .aload_n 0), (89, .getfield 47), (92, .iconst 3), (93, .iadd), (94, .aload_n 0), (95, .getfield 44), (98, .if_icmp .ge 23), (101, .aload_n 0), (102, .getfield 53), (105, .aload_n 0), (106, .getfield 47), (109, .iconst 3), (110, .iadd), (111, .iaload), (112, .bipush 99), (114, .if_icmp .ne 7), (117, .iconst 3), (118, .goto 4), (121, .iconst 2), (122, .iastore), (123, .aload_n 0), (124, .getfield 59), (127, .iload_n 1), (128, .iaload), (129, .iconst 3), (130, .if_icmp .ne 13), (133, .aload_n 0), (134, .bipush 13), (136, .iconst 5), (137, .invokevirtual 278), (140, .goto 10), (143, .aload_n 0), (144, .bipush 9), (146, .iconst 4), (147, .invokevirtual 278), (150, .ireturn)]
/-- SlateHalvesModel.next()I -/
def zt_156 : List (Nat × Instr) := [(0, .aload_n 0), (1, .getfield 47), (4, .aload_n 0), (5, .getfield 44), (8, .if_icmp .ge 15), (11, .aload_n 0), (12, .getfield 53), (15, .aload_n 0), (16, .getfield 47), (19, .iaload), (20, .goto 4), (23, .iconst (-1)), (24, .ireturn)]
/-- SlateHalvesModel.takesWord(II)Z -/
def zt_157 : List (Nat × Instr) := [(0, .iconst 0), (1, .istore_n 3), (2, .iload_n 3), (3, .iload_n 2), (4, .if_icmp .ge 26), (7, .aload_n 0), (8, .aload_n 0), (9, .getfield 86), (12, .iload_n 1), (13, .iload_n 3), (14, .iadd), (15, .iaload), (16, .invokevirtual 251), (19, .ifCond .ne 5), (22, .iconst 0), (23, .ireturn), (24, .iinc 3 1), (27, .goto (-25)), (30, .aload_n 0), (31, .bipush 32), (33, .invokevirtual 251), (36, .ireturn)]
/-- SlateHalvesModel.takes(I)Z -/
def zt_158 : List (Nat × Instr) := [(0, .aload_n 0), (1, .invokevirtual 247), (4, .iload_n 1), (5, .if_icmp .eq 5), (8, .iconst 0), (9, .ireturn), (10, .aload_n 0), (11, .dup), (12, .getfield 47), (15, .iconst 1), (16, .iadd), (17, .putfield 47), (20, .iconst 1), (21, .ireturn)]
/-- SlateHalvesModel.takesNumber()Z -/
def zt_159 : List (Nat × Instr) := [(0, .aload_n 0), (1, .invokevirtual 254), (4, .ifCond .ne 5), (7, .iconst 0), (8, .ireturn), (9, .aload_n 0), (10, .iconst 0), (11, .putfield 50), (14, .iconst 0), (15, .istore_n 1), (16, .iload_n 1), (17, .iconst 2), (18, .if_icmp .ge 45), (21, .aload_n 0), (22, .invokevirtual 254), (25, .ifCond .eq 38), (28, .aload_n 0), (29, .bipush 10), (31, .aload_n 0), (32, .getfield 50), (35, .imul), (36, .aload_n 0), (37, .invokevirtual 247), (40, .iadd), (41, .bipush 48), (43, .isub), (44, .putfield 50), (47, .aload_n 0), (48, .dup), (49, .getfield 47), (52, .iconst 1), (53, .iadd), (54, .putfield 47), (57, .iinc 1 1), (60, .goto (-44)), (63, .iconst 1), (64, .ireturn)]
/-- SlateHalvesModel.isDigit()Z -/
def zt_160 : List (Nat × Instr) := [(0, .aload_n 0), (1, .aload_n 0), (2, .invokevirtual 247), (5, .bipush 48), (7, .bipush 57), (9, .invokevirtual 239), (12, .ireturn)]
/-- SlateHalvesModel.takesE(I)Z -/
def zt_161 : List (Nat × Instr) := [(0, .aload_n 0), (1, .iconst 0), (2, .putfield 80), (5, .aload_n 0), (6, .iconst 0), (7, .putfield 83), (10, .aload_n 0), (11, .getfield 65), (14, .iload_n 1), (15, .aload_n 0), (16, .getfield 77), (19, .iastore), (20, .iconst 1), (21, .istore_n 2), (22, .aload_n 0), (23, .invokevirtual 247), (26, .istore_n 3), (27, .iload_n 2), (28, .ifCond .eq 82), (31, .iload_n 3), (32, .bipush 33), (34, .if_icmp .eq 9), (37, .iload_n 3), (38, .bipush 40), (40, .if_icmp .ne 56), (43, .aload_n 0), (44, .getfield 83), (47, .iconst 4), (48, .if_icmp .ne 5), (51, .iconst 0), (52, .ireturn), (53, .aload_n 0), (54, .dup), (55, .getfield 83), (58, .iconst 1), (59, .iadd), (60, .putfield 83), (63, .aload_n 0), (64, .getfield 74), (67, .aload_n 0), (68, .getfield 80), (71, .iload_n 3), (72, .iastore), (73, .aload_n 0), (74, .dup), (75, .getfield 80), (78, .iconst 1), (79, .iadd), (80, .putfield 80), (83, .aload_n 0), (84, .dup), (85, .getfield 47), (88, .iconst 1), (89, .iadd), (90, .putfield 47), (93, .goto (-71)), (96, .aload_n 0), (97, .invokevirtual 272), (100, .ifCond .eq 8), (103, .iconst 0), (104, .istore_n 2), (105, .goto (-83)), (108, .iconst 0), (109, .ireturn), (110, .iload_n 3), (111, .bipush 38), (113, .if_icmp .eq 9), (116, .iload_n 3), (117, .bipush 124), (119, .if_icmp .ne 43), (122, .aload_n 0), (123, .iload_n 3), (124, .invokevirtual 275), (127, .aload_n 0), (128, .getfield 74), (131, .aload_n 0), (132, .getfield 80), (135, .iload_n 3), (136, .iastore), (137, .aload_n 0), (138, .dup), (139, .getfield 80), (142, .iconst 1), (143, .iadd), (144, .putfield 80), (147, .iconst 1), (148, .istore_n 2), (149, .aload_n 0), (150, .dup), (151, .getfield 47), (154, .iconst 1), (155, .iadd), (156, .putfield 47), (159, .goto (-137)), (162, .aload_n 0), (163, .bipush 124), (165, .invokevirtual 275), (168, .aload_n 0), (169, .getfield 68), (172, .iload_n 1), (173, .aload_n 0), (174, .getfield 77), (177, .iastore), (178, .aload_n 0), (179, .getfield 80), (182, .ifCond .ne 5), (185, .iconst 1), (186, .ireturn), (187, .iload_n 3), (188, .bipush 41), (190, .if_icmp .eq 5), (193, .iconst 0), (194, .ireturn), (195, .aload_n 0), (196, .dup), (197, .getfield 80), (200, .iconst 1), (201, .isub), (202, .putfield 80), (205, .aload_n 0), (206, .dup), (207, .getfield 83), (210, .iconst 1), (211, .isub), (212, .putfield 83), (215, .aload_n 0), (216, .dup), (217, .getfield 47), (220, .iconst 1), (221, .iadd), (222, .putfield 47), (225, .aload_n 0), (226, .invokevirtual 269), (229, .goto (-207))]
/-- SlateHalvesModel.takesTest()Z -/
def zt_162 : List (Nat × Instr) := [(0, .aload_n 0), (1, .aload_n 0), (2, .invokevirtual 247), (5, .invokevirtual 262), (8, .istore_n 1), (9, .iload_n 1), (10, .ifCond .ge 5), (13, .iconst 0), (14, .ireturn), (15, .aload_n 0), (16, .dup), (17, .getfield 47), (20, .iconst 1), (21, .iadd), (22, .putfield 47), (25, .aload_n 0), (26, .invokevirtual 247), (29, .istore_n 2), (30, .aload_n 0), (31, .iload_n 2), (32, .bipush 60), (34, .bipush 62), (36, .invokevirtual 239), (39, .ifCond .ne 5), (42, .iconst 0), (43, .ireturn), (44, .aload_n 0), (45, .dup), (46, .getfield 47), (49, .iconst 1), (50, .iadd), (51, .putfield 47), (54, .aload_n 0), (55, .invokevirtual 266), (58, .ifCond .ne 5), (61, .iconst 0), (62, .ireturn), (63, .aload_n 0), (64, .sipush 1000), (67, .iload_n 1), (68, .imul), (69, .bipush 100), (71, .iload_n 2), (72, .bipush 60), (74, .isub), (75, .imul), (76, .iadd), (77, .aload_n 0), (78, .getfield 50), (81, .iadd), (82, .invokevirtual 258), (85, .aload_n 0), (86, .invokevirtual 269), (89, .iconst 1), (90, .ireturn)]
/-- SlateHalvesModel.place(I)I -/
def zt_163 : List (Nat × Instr) := [(0, .iload_n 1), (1, .lookupswitch 71 #[(98, 59), (100, 67), (107, 61), (116, 65), (118, 63), (121, 69)]), (60, .iconst 0), (61, .ireturn), (62, .iconst 1), (63, .ireturn), (64, .iconst 2), (65, .ireturn), (66, .iconst 3), (67, .ireturn), (68, .iconst 4), (69, .ireturn), (70, .iconst 5), (71, .ireturn), (72, .iconst (-1)), (73, .ireturn)]
/-- SlateHalvesModel.emits(I)V -/
def zt_164 : List (Nat × Instr) := [(0, .aload_n 0), (1, .getfield 71), (4, .aload_n 0), (5, .getfield 77), (8, .iload_n 1), (9, .iastore), (10, .aload_n 0), (11, .dup), (12, .getfield 77), (15, .iconst 1), (16, .iadd), (17, .putfield 77), (20, .return_)]
/-- SlateHalvesModel.whole()V -/
def zt_165 : List (Nat × Instr) := [(0, .aload_n 0), (1, .getfield 80), (4, .ifCond .le 48), (7, .aload_n 0), (8, .getfield 74), (11, .aload_n 0), (12, .getfield 80), (15, .iconst 1), (16, .isub), (17, .iaload), (18, .bipush 33), (20, .if_icmp .ne 32), (23, .aload_n 0), (24, .bipush (-33)), (26, .invokevirtual 258), (29, .aload_n 0), (30, .dup), (31, .getfield 80), (34, .iconst 1), (35, .isub), (36, .putfield 80), (39, .aload_n 0), (40, .dup), (41, .getfield 83), (44, .iconst 1), (45, .isub), (46, .putfield 83), (49, .goto (-49)), (52, .return_)]
/-- SlateHalvesModel.settle(I)V -/
def zt_166 : List (Nat × Instr) := [(0, .aload_n 0), (1, .getfield 80), (4, .ifCond .le 68), (7, .aload_n 0), (8, .getfield 74), (11, .aload_n 0), (12, .getfield 80), (15, .iconst 1), (16, .isub), (17, .iaload), (18, .bipush 38), (20, .if_icmp .eq 25), (23, .aload_n 0), (24, .getfield 74), (27, .aload_n 0), (28, .getfield 80), (31, .iconst 1), (32, .isub), (33, .iaload), (34, .bipush 124), (36, .if_icmp .ne 36), (39, .iload_n 1), (40, .bipush 38), (42, .if_icmp .eq 30), (45, .aload_n 0), (46, .dup), (47, .getfield 80), (50, .iconst 1), (51, .isub), (52, .putfield 80), (55, .aload_n 0), (56, .aload_n 0), (57, .getfield 74), (60, .aload_n 0), (61, .getfield 80), (64, .iaload), (65, .ineg), (66, .invokevirtual 258), (69, .goto (-69)), (72, .return_)]
/-- SlateHalvesModel.of(II)I -/
def zt_167 : List (Nat × Instr) := [(0, .aload_n 0), (1, .iload_n 1), (2, .invokevirtual 243), (5, .ifCond .ne 5), (8, .iconst (-1)), (9, .ireturn), (10, .iload_n 2), (11, .tableswitch 147 0 13 #[69, 76, 83, 90, 97, 104, 110, 116, 122, 134, 134, 134, 134, 141]), (80, .aload_n 0), (81, .getfield 19), (84, .iload_n 1), (85, .iaload), (86, .ireturn), (87, .aload_n 0), (88, .getfield 23), (91, .iload_n 1), (92, .iaload), (93, .ireturn), (94, .aload_n 0), (95, .getfield 26), (98, .iload_n 1), (99, .iaload), (100, .ireturn), (101, .aload_n 0), (102, .getfield 29), (105, .iload_n 1), (106, .iaload), (107, .ireturn), (108, .aload_n 0), (109, .getfield 32), (112, .iload_n 1), (113, .iaload), (114, .ireturn), (115, .aload_n 0), (116, .iload_n 1), (117, .invokevirtual 328), (120, .ireturn), (121, .aload_n 0), (122, .iload_n 1), (123, .invokevirtual 319), (126, .ireturn), (127, .aload_n 0), (128, .iload_n 1), (129, .invokevirtual 341), (132, .ireturn), (133, .aload_n 0), (134, .iload_n 1), (135, .aload_n 0), (136, .getfield 26), (139, .iload_n 1), (140, .iaload), (141, .invokevirtual 344), (144, .ireturn), (145, .aload_n 0), (146, .iload_n 1), (147, .iload_n 2), (148, .invokevirtual 347), (151, .ireturn), (152, .aload_n 0), (153, .iload_n 1), (154, .invokevirtual 350), (157, .ireturn), (158, .iconst (-1)), (159, .ireturn)]
/-- SlateHalvesModel.price(I)I -/
def zt_168 : List (Nat × Instr) := [(0, .bipush 10), (2, .istore_n 2), (3, .aload_n 0), (4, .invokevirtual 294), (7, .istore_n 3), (8, .iload_n 3), (9, .aload_n 0), (10, .invokevirtual 297), (13, .if_icmp .ge 59), (16, .aload_n 0), (17, .getfield 59), (20, .iload_n 3), (21, .iaload), (22, .iconst 1), (23, .if_icmp .gt 43), (26, .aload_n 0), (27, .iload_n 3), (28, .iload_n 1), (29, .invokevirtual 313), (32, .ifCond .ne 6), (35, .goto 31), (38, .iload_n 2), (39, .aload_n 0), (40, .getfield 59), (43, .iload_n 3), (44, .iaload), (45, .ifCond .ne 12), (48, .aload_n 0), (49, .getfield 62), (52, .iload_n 3), (53, .iaload), (54, .goto 10), (57, .aload_n 0), (58, .getfield 62), (61, .iload_n 3), (62, .iaload), (63, .ineg), (64, .iadd), (65, .istore_n 2), (66, .iinc 3 1), (69, .goto (-61)), (72, .aload_n 0), (73, .iload_n 2), (74, .invokevirtual 316), (77, .ireturn)]
/-- SlateHalvesModel.begin()I -/
def zt_169 : List (Nat × Instr) := [(0, .aload_n 0), (1, .getfield 41), (4, .ifCond .ge 7), (7, .iconst 0), (8, .goto 10), (11, .bipush 10), (13, .aload_n 0), (14, .getfield 41), (17, .imul), (18, .ireturn)]
/-- SlateHalvesModel.behind()I -/
def zt_170 : List (Nat × Instr) := [(0, .aload_n 0), (1, .getfield 41), (4, .ifCond .ge 7), (7, .iconst 0), (8, .goto 20), (11, .bipush 10), (13, .aload_n 0), (14, .getfield 41), (17, .imul), (18, .aload_n 0), (19, .getfield 56), (22, .aload_n 0), (23, .getfield 41), (26, .iaload), (27, .iadd), (28, .ireturn)]
/-- SlateHalvesModel.holds(II)Z -/
def zt_171 : List (Nat × Instr) := [(0, .iconst 0), (1, .istore_n 3), (2, .aload_n 0), (3, .getfield 65), (6, .iload_n 1), (7, .iaload), (8, .istore 4), (10, .iload 4), (12, .aload_n 0), (13, .getfield 68), (16, .iload_n 1), (17, .iaload), (18, .if_icmp .ge 225), (21, .aload_n 0), (22, .getfield 71), (25, .iload 4), (27, .iaload), (28, .istore 5), (30, .iload 5), (32, .bipush (-33)), (34, .if_icmp .ne 30), (37, .aload_n 0), (38, .getfield 89), (41, .iload_n 3), (42, .iconst 1), (43, .isub), (44, .aload_n 0), (45, .getfield 89), (48, .iload_n 3), (49, .iconst 1), (50, .isub), (51, .baload), (52, .ifCond .ne 7), (55, .iconst 1), (56, .goto 4), (59, .iconst 0), (60, .bastore), (61, .goto 176), (64, .iload 5), (66, .ifCond .ge 77), (69, .iinc 3 (-1)), (72, .aload_n 0), (73, .getfield 89), (76, .iload_n 3), (77, .iconst 1), (78, .isub), (79, .iload 5), (81, .bipush (-38)), (83, .if_icmp .ne 31), (86, .aload_n 0), (87, .getfield 89), (90, .iload_n 3), (91, .iconst 1), (92, .isub), (93, .baload), (94, .ifCond .eq 16), (97, .aload_n 0), (98, .getfield 89), (101, .iload_n 3), (102, .baload), (103, .ifCond .eq 7), (106, .iconst 1), (107, .goto 32), (110, .iconst 0), (111, .goto 28), (114, .aload_n 0), (115, .getfield 89), (118, .iload_n 3), (119, .iconst 1), (120, .isub), (121, .baload), (122, .ifCond .ne 12), (125, .aload_n 0), (126, .getfield 89), (129, .iload_n 3), (130, .baload), (131, .ifCond .eq 7), (134, .iconst 1), (135, .goto 4), (138, .iconst 0), (139, .bastore), (140, .goto 97), (143, .aload_n 0), (144, .iload 5), (146, .sipush 1000), (149, .idiv), (150, .iload_n 2), (151, .invokevirtual 310), (154, .istore 6), (156, .iload 5), (158, .bipush 100), (160, .idiv), (161, .bipush 10), (163, .irem), (164, .istore 7), (166, .aload_n 0), (167, .getfield 89), (170, .iload_n 3), (171, .iload 7), (173, .ifCond .ne 21), (176, .iload 6), (178, .iload 5), (180, .bipush 100), (182, .irem), (183, .if_icmp .ge 7), (186, .iconst 1), (187, .goto 46), (190, .iconst 0), (191, .goto 42), (194, .iload 7), (196, .iconst 1), (197, .if_icmp .ne 21), (200, .iload 6), (202, .iload 5), (204, .bipush 100), (206, .irem), (207, .if_icmp .ne 7), (210, .iconst 1), (211, .goto 22), (214, .iconst 0), (215, .goto 18), (218, .iload 6), (220, .iload 5), (222, .bipush 100), (224, .irem), (225, .if_icmp .le 7), (228, .iconst 1), (229, .goto 4), (232, .iconst 0), (233, .bastore), (234, .iinc 3 1), (237, .iinc 4 1), (240, .goto (-230)), (243, .aload_n 0), (244, .getfield 89), (247, .iconst 0), (248, .baload), (249, .ireturn)]
/-- SlateHalvesModel.factOf(II)I -/
def zt_172 : List (Nat × Instr) := [(0, .iload_n 1), (1, .tableswitch 71 0 4 #[35, 37, 44, 51, 61]), (36, .iload_n 2), (37, .ireturn), (38, .aload_n 0), (39, .getfield 19), (42, .iload_n 2), (43, .iaload), (44, .ireturn), (45, .aload_n 0), (46, .getfield 23), (49, .iload_n 2), (50, .iaload), (51, .ireturn), (52, .aload_n 0), (53, .getfield 26), (56, .iload_n 2), (57, .iaload), (58, .bipush 10), (60, .idiv), (61, .ireturn), (62, .aload_n 0), (63, .getfield 29), (66, .iload_n 2), (67, .iaload), (68, .bipush 10), (70, .idiv), (71, .ireturn), (72, .aload_n 0), (73, .getfield 13), (76, .bipush 10), (78, .irem), (79, .ireturn)]
/-- SlateHalvesModel.least0(I)I -/
def zt_173 : List (Nat × Instr) := [(0, .iload_n 1), (1, .ifCond .ge 7), (4, .iconst 0), (5, .goto 4), (8, .iload_n 1), (9, .ireturn)]
/-- SlateHalvesModel.grip(I)I -/
def zt_174 : List (Nat × Instr) := [(0, .aload_n 0), (1, .getfield 19), (4, .iload_n 1), (5, .iaload), (6, .iconst 1), (7, .if_icmp .eq 13), (10, .aload_n 0), (11, .getfield 19), (14, .iload_n 1), (15, .iaload), (16, .iconst 4), (17, .if_icmp .ne 16), (20, .iconst 3), (21, .aload_n 0), (22, .getfield 23), (25, .iload_n 1), (26, .iaload), (27, .iconst 3), (28, .idiv), (29, .iadd), (30, .goto 4), (33, .iconst 3), (34, .istore_n 2), (35, .aload_n 0), (36, .iload_n 2), (37, .aload_n 0), (38, .getfield 29), (41, .iload_n 1), (42, .iaload), (43, .bipush 10), (45, .idiv), (46, .isub), (47, .invokevirtual 316), (50, .ireturn)]
/-- SlateHalvesModel.dries(I)I -/
def zt_175 : List (Nat × Instr) := [(0, .aload_n 0), (1, .iconst 4), (2, .iconst 1), (3, .invokevirtual 300), (6, .istore_n 2), (7, .aload_n 0), (8, .getfield 19), (11, .iload_n 1), (12, .iaload), (13, .iconst 5), (14, .if_icmp .ne 9), (17, .iload_n 2), (18, .iconst 2), (19, .idiv), (20, .goto 4), (23, .iload_n 2), (24, .ireturn)]
/-- SlateHalvesModel.lastOf(II)I -/
def zt_176 : List (Nat × Instr) := [(0, .iload_n 2), (1, .istore_n 3), (2, .aload_n 0), (3, .invokevirtual 294), (6, .istore 4), (8, .iload 4), (10, .aload_n 0), (11, .invokevirtual 297), (14, .if_icmp .ge 32), (17, .aload_n 0), (18, .getfield 59), (21, .iload 4), (23, .iaload), (24, .iload_n 1), (25, .if_icmp .ne 13), (28, .aload_n 0), (29, .getfield 62), (32, .iload 4), (34, .iaload), (35, .goto 4), (38, .iload_n 3), (39, .istore_n 3), (40, .iinc 4 1), (43, .goto (-35)), (46, .iload_n 3), (47, .ireturn)]
/-- SlateHalvesModel.worthOf(II)I -/
def zt_177 : List (Nat × Instr) := [(0, .aload_n 0), (1, .iload_n 2), (2, .aload_n 0), (3, .invokevirtual 307), (6, .aload_n 0), (7, .invokevirtual 325), (10, .invokevirtual 239), (13, .ifCond .eq 9), (16, .aload_n 0), (17, .iload_n 1), (18, .invokevirtual 328), (21, .ireturn), (22, .iload_n 2), (23, .aload_n 0), (24, .invokevirtual 325), (27, .if_icmp .le 23), (30, .iload_n 2), (31, .iconst 2), (32, .aload_n 0), (33, .invokevirtual 325), (36, .imul), (37, .if_icmp .gt 13), (40, .aload_n 0), (41, .iload_n 1), (42, .invokevirtual 328), (45, .iconst 2), (46, .idiv), (47, .goto 4), (50, .iconst 0), (51, .ireturn)]
/-- SlateHalvesModel.thin()I -/
def zt_178 : List (Nat × Instr) := [(0, .aload_n 0), (1, .iconst 1), (2, .aload_n 0), (3, .iconst 2), (4, .iconst 2), (5, .invokevirtual 300), (8, .invokevirtual 304), (11, .ireturn)]
/-- SlateHalvesModel.greater(II)I -/
def zt_179 : List (Nat × Instr) := [(0, .iload_n 1), (1, .iload_n 2), (2, .if_icmp .le 7), (5, .iload_n 1), (6, .goto 4), (9, .iload_n 2), (10, .ireturn)]
/-- SlateHalvesModel.most()I -/
def zt_180 : List (Nat × Instr) := [(0, .aload_n 0), (1, .aload_n 0), (2, .invokevirtual 307), (5, .aload_n 0), (6, .iconst 3), (7, .iconst 5), (8, .invokevirtual 300), (11, .invokevirtual 304), (14, .ireturn)]
/-- SlateHalvesModel.laid(II)I -/
def zt_181 : List (Nat × Instr) := [(0, .aload_n 0), (1, .iload_n 1), (2, .invokevirtual 338), (5, .aload_n 0), (6, .getfield 26), (9, .iload_n 1), (10, .iaload), (11, .istore_n 3), (12, .iload_n 2), (13, .bipush 9), (15, .if_icmp .ne 12), (18, .aload_n 0), (19, .getfield 93), (22, .iload_n 3), (23, .iaload), (24, .goto 39), (27, .iload_n 2), (28, .bipush 10), (30, .if_icmp .ne 12), (33, .aload_n 0), (34, .getfield 96), (37, .iload_n 3), (38, .iaload), (39, .goto 24), (42, .iload_n 2), (43, .bipush 11), (45, .if_icmp .ne 12), (48, .aload_n 0), (49, .getfield 99), (52, .iload_n 3), (53, .iaload), (54, .goto 9), (57, .aload_n 0), (58, .getfield 102), (61, .iload_n 3), (62, .iaload), (63, .ireturn)]
/-- SlateHalvesModel.lay(I)V -/
def zt_182 : List (Nat × Instr) := [(0, .aload_n 0), (1, .getfield 26), (4, .iload_n 1), (5, .iaload), (6, .istore_n 2), (7, .aload_n 0), (8, .iload_n 1), (9, .invokevirtual 328), (12, .istore_n 3), (13, .aload_n 0), (14, .invokevirtual 307), (17, .istore 4), (19, .aload_n 0), (20, .invokevirtual 325), (23, .istore 5), (25, .aload_n 0), (26, .getfield 93), (29, .iconst 0), (30, .iconst 0), (31, .iastore), (32, .aload_n 0), (33, .getfield 96), (36, .iconst 0), (37, .iconst 0), (38, .iastore), (39, .aload_n 0), (40, .getfield 99), (43, .iconst 0), (44, .iconst 0), (45, .iastore), (46, .aload_n 0), (47, .getfield 102), (50, .iconst 0), (51, .iconst 0), (52, .iastore), (53, .iconst 1), (54, .istore 6), (56, .iload 6), (58, .iload_n 2), (59, .if_icmp .gt 187), (62, .aload_n 0), (63, .getfield 93), (66, .iload 6), (68, .aload_n 0), (69, .iload 6), (71, .iload 4), (73, .iload 5), (75, .invokevirtual 239), (78, .ifCond .eq 7), (81, .iload_n 3), (82, .goto 26), (85, .iload 6), (87, .iload 5), (89, .if_icmp .le 18), (92, .iload 6), (94, .iconst 2), (95, .iload 5), (97, .imul), (98, .if_icmp .gt 9), (101, .iload_n 3), (102, .iconst 2), (103, .idiv), (104, .goto 4), (107, .iconst 0), (108, .iastore), (109, .aload_n 0), (110, .getfield 96), (113, .iload 6), (115, .iconst 0), (116, .iastore), (117, .aload_n 0), (118, .getfield 99), (121, .iload 6), (123, .aload_n 0), (124, .iload 6), (126, .iload 4), (128, .iload 5), (130, .invokevirtual 239), (133, .ifCond .eq 7), (136, .iconst 1), (137, .goto 4), (140, .iconst 0), (141, .iastore), (142, .iload 6), (144, .iconst 2), (145, .idiv), (146, .istore 7), (148, .aload_n 0), (149, .getfield 102), (152, .iload 6), (154, .iload 6), (156, .iload 5), (158, .if_icmp .gt 13), (161, .aload_n 0), (162, .getfield 93), (165, .iload 6), (167, .iaload), (168, .goto 46), (171, .aload_n 0), (172, .iload_n 1), (173, .iload 6), (175, .iload 7), (177, .invokevirtual 331), (180, .ifCond .eq 24), (183, .aload_n 0), (184, .getfield 102), (187, .iload 7), (189, .iaload), (190, .aload_n 0), (191, .getfield 102), (194, .iload 6), (196, .iload 7), (198, .isub), (199, .iaload), (200, .iadd), (201, .goto 13), (204, .aload_n 0), (205, .getfield 102), (208, .iload 6), (210, .iload 7), (212, .isub), (213, .iaload), (214, .iastore), (215, .iconst 1), (216, .istore 8), (218, .iload 8), (220, .iload 6), (222, .if_icmp .ge 18), (225, .aload_n 0), (226, .iload_n 1), (227, .iload 6), (229, .iload 8), (231, .invokevirtual 334), (234, .iinc 8 1), (237, .goto (-19)), (240, .iinc 6 1), (243, .goto (-187)), (246, .return_)]
/-- SlateHalvesModel.isClean(III)Z -/
def zt_183 : List (Nat × Instr) := [(0, .iload_n 3), (1, .aload_n 0), (2, .getfield 23), (5, .iload_n 1), (6, .iaload), (7, .iconst 1), (8, .iadd), (9, .if_icmp .ne 7), (12, .iconst 1), (13, .goto 4), (16, .iconst 0), (17, .istore 4), (19, .aload_n 0), (20, .getfield 19), (23, .iload_n 1), (24, .iaload), (25, .tableswitch 135 2 6 #[35, 56, 114, 35, 77]), (60, .iload 4), (62, .ifCond .ne 13), (65, .aload_n 0), (66, .iload_n 1), (67, .iload_n 2), (68, .iload_n 3), (69, .invokevirtual 322), (72, .ifCond .eq 7), (75, .iconst 1), (76, .goto 4), (79, .iconst 0), (80, .ireturn), (81, .iload 4), (83, .ifCond .ne 17), (86, .aload_n 0), (87, .iload_n 1), (88, .iload_n 2), (89, .iload_n 3), (90, .invokevirtual 322), (93, .ifCond .eq 7), (96, .iconst 1), (97, .goto 4), (100, .iconst 0), (101, .ireturn), (102, .iload 4), (104, .ifCond .ne 33), (107, .aload_n 0), (108, .iload_n 1), (109, .iload_n 2), (110, .aload_n 0), (111, .getfield 35), (114, .iconst 4), (115, .iload_n 1), (116, .imul), (117, .aload_n 0), (118, .getfield 13), (121, .iconst 4), (122, .irem), (123, .iadd), (124, .iaload), (125, .iadd), (126, .iload_n 3), (127, .invokevirtual 322), (130, .ifCond .eq 7), (133, .iconst 1), (134, .goto 4), (137, .iconst 0), (138, .ireturn), (139, .iload_n 2), (140, .iconst 3), (141, .if_icmp .le 17), (144, .aload_n 0), (145, .iload_n 1), (146, .iload_n 2), (147, .iload_n 3), (148, .invokevirtual 322), (151, .ifCond .eq 7), (154, .iconst 1), (155, .goto 4), (158, .iconst 0), (159, .ireturn), (160, .aload_n 0), (161, .iload_n 1), (162, .iload_n 2), (163, .iload_n 3), (164, .invokevirtual 322), (167, .ireturn)]
/-- SlateHalvesModel.isNear(III)Z -/
def zt_184 : List (Nat × Instr) := [(0, .iconst 2), (1, .iload_n 3), (2, .imul), (3, .iload_n 2), (4, .isub), (5, .istore 4), (7, .iload 4), (9, .aload_n 0), (10, .iload_n 1), (11, .invokevirtual 319), (14, .if_icmp .gt 18), (17, .iload 4), (19, .ineg), (20, .aload_n 0), (21, .iload_n 1), (22, .invokevirtual 319), (25, .if_icmp .gt 7), (28, .iconst 1), (29, .goto 4), (32, .iconst 0), (33, .ireturn)]
/-- SlateHalvesModel.layBlow(III)V -/
def zt_185 : List (Nat × Instr) := [(0, .aload_n 0), (1, .iload_n 1), (2, .iload_n 2), (3, .iload_n 3), (4, .invokevirtual 331), (7, .istore 4), (9, .aload_n 0), (10, .iload_n 3), (11, .iload_n 2), (12, .iload_n 3), (13, .isub), (14, .invokevirtual 304), (17, .istore 5), (19, .iload 4), (21, .ifCond .eq 21), (24, .aload_n 0), (25, .getfield 93), (28, .iload_n 3), (29, .iaload), (30, .aload_n 0), (31, .getfield 93), (34, .iload_n 2), (35, .iload_n 3), (36, .isub), (37, .iaload), (38, .iadd), (39, .goto 10), (42, .aload_n 0), (43, .getfield 93), (46, .iload 5), (48, .iaload), (49, .istore 6), (51, .iconst 1), (52, .iload 4), (54, .ifCond .eq 21), (57, .aload_n 0), (58, .getfield 96), (61, .iload_n 3), (62, .iaload), (63, .aload_n 0), (64, .getfield 96), (67, .iload_n 2), (68, .iload_n 3), (69, .isub), (70, .iaload), (71, .iadd), (72, .goto 10), (75, .aload_n 0), (76, .getfield 96), (79, .iload 5), (81, .iaload), (82, .iadd), (83, .istore 7), (85, .iload 4), (87, .ifCond .eq 21), (90, .aload_n 0), (91, .getfield 99), (94, .iload_n 3), (95, .iaload), (96, .aload_n 0), (97, .getfield 99), (100, .iload_n 2), (101, .iload_n 3), (102, .isub), (103, .iaload), (104, .iadd), (105, .goto 10), (108, .aload_n 0), (109, .getfield 99), (112, .iload 5), (114, .iaload), (115, .istore 8), (117, .iload 6), (119, .aload_n 0), (120, .getfield 93), (123, .iload_n 2), (124, .iaload), (125, .if_icmp .gt 25), (128, .iload 6), (130, .aload_n 0), (131, .getfield 93), (134, .iload_n 2), (135, .iaload), (136, .if_icmp .ne 30), (139, .iload 7), (141, .aload_n 0), (142, .getfield 96), (145, .iload_n 2), (146, .iaload), (147, .if_icmp .ge 19), (150, .aload_n 0), (151, .getfield 93), (154, .iload_n 2), (155, .iload 6), (157, .iastore), (158, .aload_n 0), (159, .getfield 96), (162, .iload_n 2), (163, .iload 7), (165, .iastore), (166, .aload_n 0), (167, .getfield 99), (170, .iload_n 2), (171, .aload_n 0), (172, .aload_n 0), (173, .getfield 99), (176, .iload_n 2), (177, .iaload), (178, .iload 8), (180, .invokevirtual 304), (183, .iastore), (184, .return_)]
/-- SlateHalvesModel.blow(I)I -/
def zt_186 : List (Nat × Instr) := [(0, .aload_n 0), (1, .getfield 26), (4, .iload_n 1), (5, .iaload), (6, .istore_n 2), (7, .aload_n 0), (8, .iload_n 1), (9, .invokevirtual 338), (12, .aload_n 0), (13, .getfield 96), (16, .iload_n 2), (17, .iaload), (18, .ifCond .ne 5), (21, .iconst 0), (22, .ireturn), (23, .iconst 1), (24, .istore_n 3), (25, .aload_n 0), (26, .iload_n 1), (27, .iload_n 2), (28, .iload_n 3), (29, .invokevirtual 331), (32, .ifCond .eq 21), (35, .aload_n 0), (36, .getfield 93), (39, .iload_n 3), (40, .iaload), (41, .aload_n 0), (42, .getfield 93), (45, .iload_n 2), (46, .iload_n 3), (47, .isub), (48, .iaload), (49, .iadd), (50, .goto 16), (53, .aload_n 0), (54, .getfield 93), (57, .aload_n 0), (58, .iload_n 3), (59, .iload_n 2), (60, .iload_n 3), (61, .isub), (62, .invokevirtual 304), (65, .iaload), (66, .aload_n 0), (67, .getfield 93), (70, .iload_n 2), (71, .iaload), (72, .if_icmp .ge 9), (75, .iinc 3 1), (78, .goto (-53)), (81, .iload_n 3), (82, .ireturn)]
/-- SlateHalvesModel.told(I)I -/
def zt_187 : List (Nat × Instr) := [(0, .iload_n 1), (1, .tableswitch 71 0 5 #[39, 44, 49, 54, 61, 66]), (40, .aload_n 0), (41, .getfield 13), (44, .ireturn), (45, .aload_n 0), (46, .invokevirtual 307), (49, .ireturn), (50, .aload_n 0), (51, .invokevirtual 325), (54, .ireturn), (55, .aload_n 0), (56, .iconst 4), (57, .iconst 1), (58, .invokevirtual 300), (61, .ireturn), (62, .aload_n 0), (63, .getfield 16), (66, .ireturn), (67, .aload_n 0), (68, .invokevirtual 356), (71, .ireturn), (72, .iconst (-1)), (73, .ireturn)]
/-- SlateHalvesModel.allBest()I -/
def zt_188 : List (Nat × Instr) := [(0, .iconst 0), (1, .istore_n 1), (2, .iconst 0), (3, .istore_n 2), (4, .iload_n 2), (5, .aload_n 0), (6, .getfield 7), (9, .if_icmp .ge 17), (12, .iload_n 1), (13, .aload_n 0), (14, .iload_n 2), (15, .invokevirtual 353), (18, .iadd), (19, .istore_n 1), (20, .iinc 2 1), (23, .goto (-19)), (26, .iload_n 1), (27, .ireturn)]
/-- SlateHalvesModel.best(I)I -/
def zt_189 : List (Nat × Instr) := [(0, .aload_n 0), (1, .iload_n 1), (2, .invokevirtual 338), (5, .aload_n 0), (6, .getfield 93), (9, .aload_n 0), (10, .getfield 26), (13, .iload_n 1), (14, .iaload), (15, .iaload), (16, .ireturn)]
/-- SlateHalvesModel.strike(II)I -/
def zt_190 : List (Nat × Instr) := [(0, .aload_n 0), (1, .iload_n 1), (2, .invokevirtual 243), (5, .ifCond .ne 5), (8, .iconst (-1)), (9, .ireturn), (10, .aload_n 0), (11, .getfield 26), (14, .iload_n 1), (15, .iaload), (16, .istore_n 3), (17, .aload_n 0), (18, .iload_n 2), (19, .iconst 1), (20, .iload_n 3), (21, .iconst 1), (22, .isub), (23, .invokevirtual 239), (26, .ifCond .ne 6), (29, .bipush (-2)), (31, .ireturn), (32, .aload_n 0), (33, .getfield 32), (36, .iload_n 1), (37, .iaload), (38, .sipush 9999), (41, .if_icmp .ne 6), (44, .bipush (-3)), (46, .ireturn), (47, .aload_n 0), (48, .iload_n 1), (49, .iload_n 3), (50, .iload_n 2), (51, .invokevirtual 331), (54, .istore 4), (56, .iload 4), (58, .ifCond .eq 15), (61, .aload_n 0), (62, .getfield 7), (65, .bipush 6), (67, .if_icmp .ne 6), (70, .bipush (-4)), (72, .ireturn), (73, .aload_n 0), (74, .getfield 32), (77, .iload_n 1), (78, .dup2), (79, .iaload), (80, .iconst 1), (81, .iadd), (82, .iastore), (83, .aload_n 0), (84, .getfield 26), (87, .iload_n 1), (88, .iload 4), (90, .ifCond .eq 7), (93, .iload_n 2), (94, .goto 11), (97, .aload_n 0), (98, .iload_n 2), (99, .iload_n 3), (100, .iload_n 2), (101, .isub), (102, .invokevirtual 304), (105, .iastore), (106, .iload 4), (108, .ifCond .ne 5), (111, .iconst 0), (112, .ireturn), (113, .aload_n 0), (114, .getfield 19), (117, .aload_n 0), (118, .getfield 7), (121, .aload_n 0), (122, .getfield 19), (125, .iload_n 1), (126, .iaload), (127, .iastore), (128, .aload_n 0), (129, .getfield 23), (132, .aload_n 0), (133, .getfield 7), (136, .aload_n 0), (137, .getfield 23), (140, .iload_n 1), (141, .iaload), (142, .iastore), (143, .aload_n 0), (144, .getfield 26), (147, .aload_n 0), (148, .getfield 7), (151, .iload_n 3), (152, .iload_n 2), (153, .isub), (154, .iastore), (155, .aload_n 0), (156, .getfield 29), (159, .aload_n 0), (160, .getfield 7), (163, .aload_n 0), (164, .getfield 29), (167, .iload_n 1), (168, .iaload), (169, .iastore), (170, .aload_n 0), (171, .getfield 32), (174, .aload_n 0), (175, .getfield 7), (178, .iconst 0), (179, .iastore), (180, .iconst 0), (181, .istore 5), (183, .iload 5), (185, .iconst 4), (186, .if_icmp .ge 34), (189, .aload_n 0), (190, .getfield 35), (193, .iconst 4), (194, .aload_n 0), (195, .getfield 7), (198, .imul), (199, .iload 5), (201, .iadd), (202, .aload_n 0), (203, .getfield 35), (206, .iconst 4), (207, .iload_n 1), (208, .imul), (209, .iload 5), (211, .iadd), (212, .iaload), (213, .iastore), (214, .iinc 5 1), (217, .goto (-34)), (220, .aload_n 0), (221, .dup), (222, .getfield 7), (225, .iconst 1), (226, .iadd), (227, .putfield 7), (230, .iconst 1), (231, .ireturn)]
/-- SlateHalvesModel.clean(III)I -/
def zt_191 : List (Nat × Instr) := [(0, .aload_n 0), (1, .iload_n 1), (2, .invokevirtual 243), (5, .ifCond .ne 5), (8, .iconst (-1)), (9, .ireturn), (10, .aload_n 0), (11, .iload_n 2), (12, .iconst 2), (13, .bipush 60), (15, .invokevirtual 239), (18, .ifCond .eq 15), (21, .aload_n 0), (22, .iload_n 3), (23, .iconst 1), (24, .iload_n 2), (25, .iconst 1), (26, .isub), (27, .invokevirtual 239), (30, .ifCond .ne 6), (33, .bipush (-2)), (35, .ireturn), (36, .aload_n 0), (37, .iload_n 1), (38, .iload_n 2), (39, .iload_n 3), (40, .invokevirtual 331), (43, .ifCond .eq 7), (46, .iconst 1), (47, .goto 4), (50, .iconst 0), (51, .ireturn)]
/-- SlateHalvesModel.sell(I)I -/
def zt_192 : List (Nat × Instr) := [(0, .aload_n 0), (1, .iload_n 1), (2, .invokevirtual 243), (5, .ifCond .ne 5), (8, .iconst (-1)), (9, .ireturn), (10, .aload_n 0), (11, .getfield 26), (14, .iload_n 1), (15, .iaload), (16, .ifCond .ne 6), (19, .bipush (-3)), (21, .ireturn), (22, .aload_n 0), (23, .iload_n 1), (24, .aload_n 0), (25, .getfield 26), (28, .iload_n 1), (29, .iaload), (30, .invokevirtual 344), (33, .istore_n 2), (34, .aload_n 0), (35, .aload_n 0), (36, .getfield 16), (39, .iload_n 2), (40, .iadd), (41, .ldc_w 359), (44, .if_icmp .le 9), (47, .ldc_w 359), (50, .goto 9), (53, .aload_n 0), (54, .getfield 16), (57, .iload_n 2), (58, .iadd), (59, .putfield 16), (62, .aload_n 0), (63, .getfield 26), (66, .iload_n 1), (67, .iconst 0), (68, .iastore), (69, .iload_n 2), (70, .ireturn)]
/-- SlateHalvesModel.pass(I)I -/
def zt_193 : List (Nat × Instr) := [(0, .aload_n 0), (1, .iload_n 1), (2, .invokevirtual 363), (5, .ifCond .ne 6), (8, .bipush (-2)), (10, .ireturn), (11, .aload_n 0), (12, .getfield 13), (15, .iload_n 1), (16, .iadd), (17, .sipush 9999), (20, .if_icmp .le 6), (23, .bipush (-3)), (25, .ireturn), (26, .aload_n 0), (27, .iload_n 1), (28, .invokevirtual 366), (31, .aload_n 0), (32, .getfield 13), (35, .ireturn)]
/-- SlateHalvesModel.isDays(I)Z -/
def zt_194 : List (Nat × Instr) := [(0, .aload_n 0), (1, .iload_n 1), (2, .iconst 0), (3, .bipush 60), (5, .invokevirtual 239), (8, .ireturn)]
/-- SlateHalvesModel.goDays(I)V -/
def zt_195 : List (Nat × Instr) := [(0, .iconst 0), (1, .istore_n 2), (2, .iload_n 2), (3, .iload_n 1), (4, .if_icmp .ge 13), (7, .aload_n 0), (8, .invokevirtual 360), (11, .iinc 2 1), (14, .goto (-12)), (17, .return_)]
/-- SlateHalvesModel.goDay()V -/
def zt_196 : List (Nat × Instr) := [(0, .iconst 0), (1, .istore_n 1), (2, .iload_n 1), (3, .aload_n 0), (4, .getfield 7), (7, .if_icmp .ge 52), (10, .aload_n 0), (11, .getfield 26), (14, .iload_n 1), (15, .iaload), (16, .ifCond .ne 6), (19, .goto 34), (22, .aload_n 0), (23, .getfield 29), (26, .iload_n 1), (27, .iaload), (28, .aload_n 0), (29, .iload_n 1), (30, .invokevirtual 341), (33, .iadd), (34, .istore_n 2), (35, .aload_n 0), (36, .getfield 29), (39, .iload_n 1), (40, .iload_n 2), (41, .bipush 99), (43, .if_icmp .le 8), (46, .bipush 99), (48, .goto 4), (51, .iload_n 2), (52, .iastore), (53, .iinc 1 1), (56, .goto (-54)), (59, .aload_n 0), (60, .dup), (61, .getfield 13), (64, .iconst 1), (65, .iadd), (66, .putfield 13), (69, .return_)]
/-- SlateHalvesModel.on(II)I -/
def zt_197 : List (Nat × Instr) := [(0, .iload_n 2), (1, .ifCond .eq 39), (4, .aload_n 0), (5, .iload_n 2), (6, .bipush 10), (8, .bipush 9), (10, .aload_n 0), (11, .getfield 7), (14, .iadd), (15, .invokevirtual 239), (18, .ifCond .ne 22), (21, .aload_n 0), (22, .iload_n 2), (23, .bipush 20), (25, .bipush 19), (27, .aload_n 0), (28, .getfield 7), (31, .iadd), (32, .invokevirtual 239), (35, .ifCond .ne 5), (38, .iconst (-1)), (39, .ireturn), (40, .aload_n 0), (41, .iload_n 1), (42, .invokevirtual 363), (45, .ifCond .ne 6), (48, .bipush (-2)), (50, .ireturn), (51, .aload_n 0), (52, .invokevirtual 369), (55, .aload_n 0), (56, .iload_n 1), (57, .invokevirtual 366), (60, .iload_n 2), (61, .ifCond .ne 10), (64, .aload_n 0), (65, .invokevirtual 356), (68, .goto 29), (71, .iload_n 2), (72, .bipush 20), (74, .if_icmp .ge 15), (77, .aload_n 0), (78, .getfield 29), (81, .iload_n 2), (82, .bipush 10), (84, .isub), (85, .iaload), (86, .goto 11), (89, .aload_n 0), (90, .iload_n 2), (91, .bipush 20), (93, .isub), (94, .invokevirtual 353), (97, .istore_n 3), (98, .aload_n 0), (99, .invokevirtual 372), (102, .iload_n 3), (103, .ireturn)]
/-- SlateHalvesModel.save()V -/
def zt_198 : List (Nat × Instr) := [(0, .aload_n 0), (1, .aload_n 0), (2, .getfield 13), (5, .putfield 105), (8, .iconst 0), (9, .istore_n 1), (10, .iload_n 1), (11, .bipush 6), (13, .if_icmp .ge 33), (16, .aload_n 0), (17, .getfield 108), (20, .iload_n 1), (21, .aload_n 0), (22, .getfield 26), (25, .iload_n 1), (26, .iaload), (27, .iastore), (28, .aload_n 0), (29, .getfield 111), (32, .iload_n 1), (33, .aload_n 0), (34, .getfield 29), (37, .iload_n 1), (38, .iaload), (39, .iastore), (40, .iinc 1 1), (43, .goto (-33)), (46, .return_)]
/-- SlateHalvesModel.putBack()V -/
def zt_199 : List (Nat × Instr) := [(0, .aload_n 0), (1, .aload_n 0), (2, .getfield 105), (5, .putfield 13), (8, .iconst 0), (9, .istore_n 1), (10, .iload_n 1), (11, .bipush 6), (13, .if_icmp .ge 33), (16, .aload_n 0), (17, .getfield 26), (20, .iload_n 1), (21, .aload_n 0), (22, .getfield 108), (25, .iload_n 1), (26, .iaload), (27, .iastore), (28, .aload_n 0), (29, .getfield 29), (32, .iload_n 1), (33, .aload_n 0), (34, .getfield 111), (37, .iload_n 1), (38, .iaload), (39, .iastore), (40, .iinc 1 1), (43, .goto (-33)), (46, .return_)]
/-- SlateHalvesModel.lasts(I)I -/
def zt_200 : List (Nat × Instr) := [(0, .aload_n 0), (1, .iload_n 1), (2, .iconst 0), (3, .ldc_w 375), (6, .invokevirtual 239), (9, .ifCond .ne 6), (12, .bipush (-2)), (14, .ireturn), (15, .aload_n 0), (16, .invokevirtual 369), (19, .bipush (-5)), (21, .istore_n 2), (22, .iconst 0), (23, .istore_n 3), (24, .iload_n 3), (25, .bipush 21), (27, .if_icmp .ge 27), (30, .aload_n 0), (31, .invokevirtual 356), (34, .iload_n 1), (35, .if_icmp .lt 7), (38, .iload_n 3), (39, .goto 4), (42, .iload_n 2), (43, .istore_n 2), (44, .aload_n 0), (45, .invokevirtual 360), (48, .iinc 3 1), (51, .goto (-27)), (54, .aload_n 0), (55, .invokevirtual 372), (58, .iload_n 2), (59, .ireturn)]
/-- SlateHalvesModel.order(I)I -/
def zt_201 : List (Nat × Instr) := [(0, .aload_n 0), (1, .iload_n 1), (2, .iconst (-1)), (3, .iconst 5), (4, .invokevirtual 239), (7, .ifCond .ne 5), (10, .iconst (-1)), (11, .ireturn), (12, .aload_n 0), (13, .invokevirtual 379), (16, .iconst 1), (17, .istore_n 2), (18, .iconst 0), (19, .istore_n 3), (20, .iload_n 3), (21, .aload_n 0), (22, .getfield 123), (25, .if_icmp .ge 14), (28, .iload_n 2), (29, .bipush 6), (31, .imul), (32, .istore_n 2), (33, .iinc 3 1), (36, .goto (-16)), (39, .iconst (-1)), (40, .istore_n 3), (41, .iconst 0), (42, .istore 4), (44, .iload 4), (46, .iload_n 2), (47, .if_icmp .ge 107), (50, .aload_n 0), (51, .iload 4), (53, .invokevirtual 382), (56, .ifCond .ne 6), (59, .goto 89), (62, .iconst 0), (63, .istore 5), (65, .iconst 0), (66, .istore 6), (68, .iload 6), (70, .aload_n 0), (71, .getfield 123), (74, .if_icmp .ge 32), (77, .iload 5), (79, .aload_n 0), (80, .getfield 114), (83, .bipush 6), (85, .iload 6), (87, .imul), (88, .aload_n 0), (89, .getfield 117), (92, .iload 6), (94, .iaload), (95, .iadd), (96, .iaload), (97, .iadd), (98, .istore 5), (100, .iinc 6 1), (103, .goto (-35)), (106, .iload 5), (108, .iload_n 3), (109, .if_icmp .gt 6), (112, .goto 36), (115, .iload 5), (117, .istore_n 3), (118, .iconst 0), (119, .istore 6), (121, .iload 6), (123, .bipush 6), (125, .if_icmp .ge 23), (128, .aload_n 0), (129, .getfield 120), (132, .iload 6), (134, .aload_n 0), (135, .getfield 117), (138, .iload 6), (140, .iaload), (141, .iastore), (142, .iinc 6 1), (145, .goto (-24)), (148, .iinc 4 1), (151, .goto (-107)), (154, .iload_n 1), (155, .ifCond .ge 5), (158, .iload_n 3), (159, .ireturn), (160, .iload_n 1), (161, .aload_n 0), (162, .getfield 123), (165, .if_icmp .ge 12), (168, .aload_n 0), (169, .getfield 120), (172, .iload_n 1), (173, .iaload), (174, .goto 5), (177, .bipush (-5)), (179, .ireturn)]
/-- SlateHalvesModel.layThen()V -/
def zt_202 : List (Nat × Instr) := [(0, .aload_n 0), (1, .invokevirtual 369), (4, .aload_n 0), (5, .iconst 0), (6, .putfield 123), (9, .iconst 0), (10, .istore_n 1), (11, .iload_n 1), (12, .aload_n 0), (13, .getfield 7), (16, .if_icmp .ge 32), (19, .aload_n 0), (20, .dup), (21, .getfield 123), (24, .aload_n 0), (25, .getfield 26), (28, .iload_n 1), (29, .iaload), (30, .ifCond .le 7), (33, .iconst 1), (34, .goto 4), (37, .iconst 0), (38, .iadd), (39, .putfield 123), (42, .iinc 1 1), (45, .goto (-34)), (48, .iconst 0), (49, .istore_n 1), (50, .iload_n 1), (51, .aload_n 0), (52, .getfield 123), (55, .if_icmp .ge 45), (58, .iconst 0), (59, .istore_n 2), (60, .iload_n 2), (61, .aload_n 0), (62, .getfield 7), (65, .if_icmp .ge 25), (68, .aload_n 0), (69, .getfield 114), (72, .bipush 6), (74, .iload_n 1), (75, .imul), (76, .iload_n 2), (77, .iadd), (78, .aload_n 0), (79, .iload_n 2), (80, .invokevirtual 353), (83, .iastore), (84, .iinc 2 1), (87, .goto (-27)), (90, .aload_n 0), (91, .invokevirtual 360), (94, .iinc 1 1), (97, .goto (-47)), (100, .aload_n 0), (101, .invokevirtual 372), (104, .return_)]
/-- SlateHalvesModel.layTurn(I)Z -/
def zt_203 : List (Nat × Instr) := [(0, .iload_n 1), (1, .istore_n 2), (2, .iconst 0), (3, .istore_n 3), (4, .aload_n 0), (5, .getfield 123), (8, .iconst 1), (9, .isub), (10, .istore 4), (12, .iload 4), (14, .ifCond .lt 83), (17, .aload_n 0), (18, .getfield 117), (21, .iload 4), (23, .iload_n 2), (24, .bipush 6), (26, .irem), (27, .iastore), (28, .iload_n 2), (29, .bipush 6), (31, .idiv), (32, .istore_n 2), (33, .aload_n 0), (34, .getfield 117), (37, .iload 4), (39, .iaload), (40, .aload_n 0), (41, .getfield 7), (44, .if_icmp .ge 33), (47, .aload_n 0), (48, .getfield 26), (51, .aload_n 0), (52, .getfield 117), (55, .iload 4), (57, .iaload), (58, .iaload), (59, .ifCond .eq 18), (62, .aload_n 0), (63, .iload_n 3), (64, .aload_n 0), (65, .getfield 117), (68, .iload 4), (70, .iaload), (71, .invokevirtual 376), (74, .ifCond .eq 5), (77, .iconst 0), (78, .ireturn), (79, .iload_n 3), (80, .iconst 1), (81, .aload_n 0), (82, .getfield 117), (85, .iload 4), (87, .iaload), (88, .ishl), (89, .ior), (90, .istore_n 3), (91, .iinc 4 (-1)), (94, .goto (-82)), (97, .iconst 1), (98, .ireturn)]
/-- SlateHalvesModel.has(II)Z -/
def zt_204 : List (Nat × Instr) := [(0, .iload_n 1), (1, .iload_n 2), (2, .ishr), (3, .iconst 1), (4, .iand), (5, .iconst 1), (6, .if_icmp .ne 7), (9, .iconst 1), (10, .goto 4), (13, .iconst 0), (14, .ireturn)]
/-- SlateHalvesModel.loses(I)I -/
def zt_205 : List (Nat × Instr) := [(0, .aload_n 0), (1, .iload_n 1), (2, .invokevirtual 243), (5, .ifCond .eq 21), (8, .aload_n 0), (9, .iload_n 1), (10, .invokevirtual 353), (13, .aload_n 0), (14, .iconst 1), (15, .bipush 20), (17, .iload_n 1), (18, .iadd), (19, .invokevirtual 385), (22, .isub), (23, .goto 6), (26, .sipush (-1001)), (29, .ireturn)]
/-- SlateHalvesModel.worst()I -/
def zt_206 : List (Nat × Instr) := [(0, .bipush (-5)), (2, .istore_n 1), (3, .iconst 0), (4, .istore_n 2), (5, .iconst 0), (6, .istore_n 3), (7, .iload_n 3), (8, .aload_n 0), (9, .getfield 7), (12, .if_icmp .ge 46), (15, .aload_n 0), (16, .getfield 26), (19, .iload_n 3), (20, .iaload), (21, .ifCond .ne 6), (24, .goto 28), (27, .aload_n 0), (28, .iload_n 3), (29, .invokevirtual 388), (32, .istore 4), (34, .iload_n 1), (35, .ifCond .lt 12), (38, .iload 4), (40, .iload_n 2), (41, .if_icmp .gt 6), (44, .goto 8), (47, .iload_n 3), (48, .istore_n 1), (49, .iload 4), (51, .istore_n 2), (52, .iinc 3 1), (55, .goto (-48)), (58, .iload_n 1), (59, .ireturn)]
/-- SlateHalvesModel.see(IIZ)I -/
def zt_207 : List (Nat × Instr) := [(0, .iload_n 1), (1, .iconst (-1)), (2, .if_icmp .ne 10), (5, .aload_n 0), (6, .iconst 0), (7, .putfield 126), (10, .iconst 0), (11, .ireturn), (12, .aload_n 0), (13, .iload_n 2), (14, .iconst 2), (15, .bipush 60), (17, .invokevirtual 239), (20, .ifCond .eq 15), (23, .aload_n 0), (24, .iload_n 1), (25, .iconst 1), (26, .iload_n 2), (27, .iconst 1), (28, .isub), (29, .invokevirtual 239), (32, .ifCond .ne 6), (35, .bipush (-2)), (37, .ireturn), (38, .aload_n 0), (39, .getfield 126), (42, .bipush 6), (44, .if_icmp .ne 6), (47, .bipush (-4)), (49, .ireturn), (50, .aload_n 0), (51, .getfield 129), (54, .aload_n 0), (55, .getfield 126), (58, .iload_n 1), (59, .iastore), (60, .aload_n 0), (61, .getfield 132), (64, .aload_n 0), (65, .getfield 126), (68, .iload_n 2), (69, .iastore), (70, .aload_n 0), (71, .getfield 135), (74, .aload_n 0), (75, .getfield 126), (78, .iload_n 3), (79, .bastore), (80, .aload_n 0), (81, .dup), (82, .getfield 126), (85, .iconst 1), (86, .iadd), (87, .putfield 126), (90, .aload_n 0), (91, .getfield 126), (94, .ireturn)]
/-- SlateHalvesModel.dryness(II)I -/
def zt_208 : List (Nat × Instr) := [(0, .aload_n 0), (1, .iload_n 1), (2, .invokevirtual 243), (5, .ifCond .eq 13), (8, .aload_n 0), (9, .iload_n 2), (10, .iconst 0), (11, .iconst 1), (12, .invokevirtual 239), (15, .ifCond .ne 5), (18, .iconst (-1)), (19, .ireturn), (20, .aload_n 0), (21, .getfield 29), (24, .iload_n 1), (25, .iaload), (26, .istore_n 3), (27, .iconst 0), (28, .istore 4), (30, .bipush (-5)), (32, .istore 5), (34, .bipush 99), (36, .istore 6), (38, .iload 6), (40, .ifCond .lt 35), (43, .aload_n 0), (44, .getfield 29), (47, .iload_n 1), (48, .iload 6), (50, .iastore), (51, .aload_n 0), (52, .iload_n 1), (53, .invokevirtual 391), (56, .ifCond .ne 6), (59, .goto 10), (62, .iinc 4 1), (65, .iload 6), (67, .istore 5), (69, .iinc 6 (-1)), (72, .goto (-34)), (75, .aload_n 0), (76, .getfield 29), (79, .iload_n 1), (80, .iload_n 3), (81, .iastore), (82, .iload_n 2), (83, .ifCond .ne 8), (86, .iload 4), (88, .goto 5), (91, .iload 5), (93, .ireturn)]
/-- SlateHalvesModel.isSeen(I)Z -/
def zt_209 : List (Nat × Instr) := [(0, .iconst 0), (1, .istore_n 2), (2, .iload_n 2), (3, .aload_n 0), (4, .getfield 126), (7, .if_icmp .ge 37), (10, .aload_n 0), (11, .iload_n 1), (12, .aload_n 0), (13, .getfield 132), (16, .iload_n 2), (17, .iaload), (18, .aload_n 0), (19, .getfield 129), (22, .iload_n 2), (23, .iaload), (24, .invokevirtual 331), (27, .aload_n 0), (28, .getfield 135), (31, .iload_n 2), (32, .baload), (33, .if_icmp .eq 5), (36, .iconst 0), (37, .ireturn), (38, .iinc 2 1), (41, .goto (-39)), (44, .iconst 1), (45, .ireturn)]
/-- SlateHalvesModel.can(II)I -/
def zt_210 : List (Nat × Instr) := [(0, .aload_n 0), (1, .iload_n 1), (2, .invokevirtual 243), (5, .ifCond .eq 13), (8, .aload_n 0), (9, .iload_n 2), (10, .iconst 0), (11, .iconst 1), (12, .invokevirtual 239), (15, .ifCond .ne 5), (18, .iconst (-1)), (19, .ireturn), (20, .aload_n 0), (21, .getfield 23), (24, .iload_n 1), (25, .iaload), (26, .istore_n 3), (27, .iconst 0), (28, .istore 4), (30, .bipush (-5)), (32, .istore 5), (34, .bipush 9), (36, .istore 6), (38, .iload 6), (40, .ifCond .lt 35), (43, .aload_n 0), (44, .getfield 23), (47, .iload_n 1), (48, .iload 6), (50, .iastore), (51, .aload_n 0), (52, .iload_n 1), (53, .invokevirtual 391), (56, .ifCond .ne 6), (59, .goto 10), (62, .iinc 4 1), (65, .iload 6), (67, .istore 5), (69, .iinc 6 (-1)), (72, .goto (-34)), (75, .aload_n 0), (76, .getfield 23), (79, .iload_n 1), (80, .iload_n 3), (81, .iastore), (82, .iload_n 2), (83, .ifCond .ne 8), (86, .iload 4), (88, .goto 5), (91, .iload 5), (93, .ireturn)]
/-- SlateHalvesModel.odds(II)J -/
def zt_211 : List (Nat × Instr) := [(0, .aload_n 0), (1, .iload_n 1), (2, .invokevirtual 243), (5, .ifCond .eq 23), (8, .aload_n 0), (9, .iload_n 2), (10, .iconst 0), (11, .iconst 1), (12, .invokevirtual 239), (15, .ifCond .eq 13), (18, .aload_n 0), (19, .getfield 26), (22, .iload_n 1), (23, .iaload), (24, .iconst 2), (25, .if_icmp .ge 7), (28, .ldc2_w 397), (31, .lreturn), (32, .iconst 0), (33, .istore_n 3), (34, .iconst 1), (35, .istore 4), (37, .iload 4), (39, .aload_n 0), (40, .getfield 26), (43, .iload_n 1), (44, .iaload), (45, .if_icmp .ge 33), (48, .iload_n 3), (49, .aload_n 0), (50, .iload_n 1), (51, .aload_n 0), (52, .getfield 26), (55, .iload_n 1), (56, .iaload), (57, .iload 4), (59, .invokevirtual 331), (62, .ifCond .eq 7), (65, .iconst 1), (66, .goto 4), (69, .iconst 0), (70, .iadd), (71, .istore_n 3), (72, .iinc 4 1), (75, .goto (-38)), (78, .aload_n 0), (79, .iload_n 3), (80, .aload_n 0), (81, .getfield 26), (84, .iload_n 1), (85, .iaload), (86, .iconst 1), (87, .isub), (88, .iload_n 2), (89, .invokevirtual 399), (92, .lreturn)]
/-- SlateHalvesModel.lowest(III)J -/
def zt_212 : List (Nat × Instr) := [(0, .aload_n 0), (1, .iload_n 1), (2, .iload_n 2), (3, .invokevirtual 394), (6, .istore 4), (8, .iload_n 3), (9, .ifCond .ne 11), (12, .iload_n 1), (13, .iload 4), (15, .idiv), (16, .i2l), (17, .goto 8), (20, .iload_n 2), (21, .iload 4), (23, .idiv), (24, .i2l), (25, .lreturn)]
/-- SlateHalvesModel.divisor(II)I -/
def zt_213 : List (Nat × Instr) := [(0, .iload_n 1), (1, .istore_n 3), (2, .iload_n 2), (3, .istore 4), (5, .iload 4), (7, .ifCond .eq 19), (10, .iload_n 3), (11, .iload 4), (13, .irem), (14, .istore 5), (16, .iload 4), (18, .istore_n 3), (19, .iload 5), (21, .istore 4), (23, .goto (-18)), (26, .iload_n 3), (27, .ireturn)]
/-- SlateHalvesModel.mean(I)J -/
def zt_214 : List (Nat × Instr) := [(0, .iconst 0), (1, .istore_n 2), (2, .iconst 0), (3, .istore_n 3), (4, .iconst 0), (5, .istore 4), (7, .iload 4), (9, .aload_n 0), (10, .getfield 7), (13, .if_icmp .ge 37), (16, .iload_n 2), (17, .aload_n 0), (18, .getfield 26), (21, .iload 4), (23, .iaload), (24, .ifCond .le 7), (27, .iconst 1), (28, .goto 4), (31, .iconst 0), (32, .iadd), (33, .istore_n 2), (34, .iload_n 3), (35, .aload_n 0), (36, .getfield 26), (39, .iload 4), (41, .iaload), (42, .iadd), (43, .istore_n 3), (44, .iinc 4 1), (47, .goto (-40)), (50, .aload_n 0), (51, .iload_n 1), (52, .iconst 0), (53, .iconst 1), (54, .invokevirtual 239), (57, .ifCond .eq 17), (60, .iload_n 2), (61, .ifCond .le 13), (64, .aload_n 0), (65, .iload_n 3), (66, .iload_n 2), (67, .iload_n 1), (68, .invokevirtual 399), (71, .goto 6), (74, .ldc2_w 397), (77, .lreturn)]
/-- SlateHalvesModel.week(II)I -/
def zt_215 : List (Nat × Instr) := [(0, .iload_n 1), (1, .iconst (-1)), (2, .if_icmp .ne 10), (5, .aload_n 0), (6, .iconst 0), (7, .putfield 138), (10, .iconst 0), (11, .ireturn), (12, .aload_n 0), (13, .iload_n 1), (14, .iconst 0), (15, .iconst 2), (16, .invokevirtual 239), (19, .ifCond .eq 15), (22, .iload_n 1), (23, .ifCond .le 13), (26, .aload_n 0), (27, .iload_n 2), (28, .invokevirtual 243), (31, .ifCond .ne 5), (34, .iconst (-1)), (35, .ireturn), (36, .aload_n 0), (37, .getfield 138), (40, .bipush 10), (42, .if_icmp .ne 6), (45, .bipush (-4)), (47, .ireturn), (48, .aload_n 0), (49, .getfield 144), (52, .aload_n 0), (53, .getfield 138), (56, .iload_n 1), (57, .iastore), (58, .aload_n 0), (59, .getfield 147), (62, .aload_n 0), (63, .getfield 138), (66, .iload_n 1), (67, .ifCond .le 7), (70, .iload_n 2), (71, .goto 4), (74, .iconst 0), (75, .iastore), (76, .aload_n 0), (77, .dup), (78, .getfield 138), (81, .iconst 1), (82, .iadd), (83, .putfield 138), (86, .aload_n 0), (87, .getfield 138), (90, .ireturn)]
/-- SlateHalvesModel.ends(I)I -/
def zt_216 : List (Nat × Instr) := [(0, .aload_n 0), (1, .iload_n 1), (2, .iconst 0), (3, .iconst 1), (4, .invokevirtual 239), (7, .ifCond .ne 5), (10, .iconst (-1)), (11, .ireturn), (12, .aload_n 0), (13, .invokevirtual 369), (16, .iconst 0), (17, .istore_n 2), (18, .iconst 0), (19, .istore_n 3), (20, .iload_n 3), (21, .aload_n 0), (22, .getfield 138), (25, .if_icmp .ge 76), (28, .aload_n 0), (29, .getfield 147), (32, .iload_n 3), (33, .iaload), (34, .istore 4), (36, .aload_n 0), (37, .getfield 144), (40, .iload_n 3), (41, .iaload), (42, .ifCond .ne 10), (45, .aload_n 0), (46, .invokevirtual 360), (49, .goto 46), (52, .iload_n 2), (53, .aload_n 0), (54, .getfield 144), (57, .iload_n 3), (58, .iaload), (59, .iconst 1), (60, .if_icmp .ne 19), (63, .aload_n 0), (64, .iload 4), (66, .aload_n 0), (67, .getfield 26), (70, .iload 4), (72, .iaload), (73, .invokevirtual 344), (76, .goto 9), (79, .aload_n 0), (80, .iload 4), (82, .invokevirtual 353), (85, .iadd), (86, .istore_n 2), (87, .aload_n 0), (88, .getfield 26), (91, .iload 4), (93, .iconst 0), (94, .iastore), (95, .iinc 3 1), (98, .goto (-78)), (101, .iconst 0), (102, .istore_n 3), (103, .iconst 0), (104, .istore 4), (106, .iload 4), (108, .aload_n 0), (109, .getfield 7), (112, .if_icmp .ge 27), (115, .iload_n 3), (116, .aload_n 0), (117, .getfield 26), (120, .iload 4), (122, .iaload), (123, .ifCond .le 7), (126, .iconst 1), (127, .goto 4), (130, .iconst 0), (131, .iadd), (132, .istore_n 3), (133, .iinc 4 1), (136, .goto (-30)), (139, .aload_n 0), (140, .invokevirtual 372), (143, .iload_n 1), (144, .ifCond .ne 7), (147, .iload_n 2), (148, .goto 4), (151, .iload_n 3), (152, .ireturn)]
/-- SlateHalvesModel.book(II)I -/
def zt_217 : List (Nat × Instr) := [(0, .iload_n 1), (1, .iconst (-1)), (2, .if_icmp .ne 10), (5, .aload_n 0), (6, .iconst 0), (7, .putfield 141), (10, .iconst 0), (11, .ireturn), (12, .aload_n 0), (13, .iload_n 1), (14, .invokevirtual 243), (17, .ifCond .ne 5), (20, .iconst (-1)), (21, .ireturn), (22, .aload_n 0), (23, .iload_n 2), (24, .iconst 0), (25, .bipush 60), (27, .invokevirtual 239), (30, .ifCond .ne 6), (33, .bipush (-2)), (35, .ireturn), (36, .aload_n 0), (37, .getfield 141), (40, .bipush 8), (42, .if_icmp .ne 6), (45, .bipush (-4)), (47, .ireturn), (48, .aload_n 0), (49, .getfield 150), (52, .aload_n 0), (53, .getfield 141), (56, .iload_n 1), (57, .iastore), (58, .aload_n 0), (59, .getfield 153), (62, .aload_n 0), (63, .getfield 141), (66, .iload_n 2), (67, .iastore), (68, .aload_n 0), (69, .dup), (70, .getfield 141), (73, .iconst 1), (74, .iadd), (75, .putfield 141), (78, .aload_n 0), (79, .getfield 141), (82, .ireturn)]
/-- SlateHalvesModel.looked()I -/
def zt_218 : List (Nat × Instr) := [(0, .iconst 0), (1, .istore_n 1), (2, .iload_n 1), (3, .aload_n 0), (4, .getfield 141), (7, .if_icmp .ge 31), (10, .aload_n 0), (11, .getfield 26), (14, .aload_n 0), (15, .getfield 150), (18, .iload_n 1), (19, .iaload), (20, .iaload), (21, .aload_n 0), (22, .getfield 153), (25, .iload_n 1), (26, .iaload), (27, .if_icmp .eq 5), (30, .iload_n 1), (31, .ireturn), (32, .iinc 1 1), (35, .goto (-33)), (38, .bipush (-5)), (40, .ireturn)]
/-- SlateHalvesModel.judge(II)I -/
def zt_219 : List (Nat × Instr) := [(0, .aload_n 0), (1, .iload_n 1), (2, .invokevirtual 403), (5, .ifCond .ne 5), (8, .iconst (-1)), (9, .ireturn), (10, .aload_n 0), (11, .getfield 226), (14, .iload_n 1), (15, .iaload), (16, .ifCond .le 6), (19, .bipush (-12)), (21, .ireturn), (22, .iconst 0), (23, .istore_n 3), (24, .iload_n 3), (25, .aload_n 0), (26, .getfield 7), (29, .if_icmp .ge 67), (32, .aload_n 0), (33, .getfield 226), (36, .iload_n 1), (37, .iaload), (38, .ifCond .lt 21), (41, .iload_n 2), (42, .ifCond .lt 17), (45, .iload_n 2), (46, .aload_n 0), (47, .getfield 229), (50, .iload_n 1), (51, .iaload), (52, .iload_n 3), (53, .isub), (54, .iconst 1), (55, .isub), (56, .if_icmp .le 8), (59, .bipush 100), (61, .iload_n 3), (62, .iadd), (63, .ireturn), (64, .aload_n 0), (65, .getfield 232), (68, .bipush 60), (70, .iload_n 1), (71, .imul), (72, .iload_n 2), (73, .iadd), (74, .iload_n 3), (75, .iadd), (76, .laload), (77, .aload_n 0), (78, .getfield 26), (81, .iload_n 3), (82, .iaload), (83, .i2l), (84, .lcmp), (85, .ifCond .eq 5), (88, .iload_n 3), (89, .ireturn), (90, .iinc 3 1), (93, .goto (-69)), (96, .bipush (-5)), (98, .ireturn)]
/-- SlateHalvesModel.isTape(I)Z -/
def zt_220 : List (Nat × Instr) := [(0, .aload_n 0), (1, .iload_n 1), (2, .iconst 0), (3, .iconst 5), (4, .invokevirtual 239), (7, .ireturn)]
/-- SlateHalvesModel.image()I -/
def zt_221 : List (Nat × Instr) := [(0, .aload_n 0), (1, .iconst 1), (2, .putfield 156), (5, .aload_n 0), (6, .aload_n 0), (7, .getfield 41), (10, .putfield 160), (13, .aload_n 0), (14, .aload_n 0), (15, .getfield 7), (18, .putfield 163), (21, .aload_n 0), (22, .aload_n 0), (23, .getfield 13), (26, .putfield 166), (29, .aload_n 0), (30, .aload_n 0), (31, .getfield 16), (34, .putfield 169), (37, .aload_n 0), (38, .aload_n 0), (39, .getfield 126), (42, .putfield 172), (45, .aload_n 0), (46, .aload_n 0), (47, .getfield 138), (50, .putfield 175), (53, .aload_n 0), (54, .aload_n 0), (55, .getfield 141), (58, .putfield 178), (61, .iconst 0), (62, .istore_n 1), (63, .iload_n 1), (64, .bipush 6), (66, .if_icmp .ge 105), (69, .aload_n 0), (70, .getfield 181), (73, .iload_n 1), (74, .aload_n 0), (75, .getfield 19), (78, .iload_n 1), (79, .iaload), (80, .iastore), (81, .aload_n 0), (82, .getfield 184), (85, .iload_n 1), (86, .aload_n 0), (87, .getfield 23), (90, .iload_n 1), (91, .iaload), (92, .iastore), (93, .aload_n 0), (94, .getfield 187), (97, .iload_n 1), (98, .aload_n 0), (99, .getfield 26), (102, .iload_n 1), (103, .iaload), (104, .iastore), (105, .aload_n 0), (106, .getfield 190), (109, .iload_n 1), (110, .aload_n 0), (111, .getfield 29), (114, .iload_n 1), (115, .iaload), (116, .iastore), (117, .aload_n 0), (118, .getfield 193), (121, .iload_n 1), (122, .aload_n 0), (123, .getfield 32), (126, .iload_n 1), (127, .iaload), (128, .iastore), (129, .aload_n 0), (130, .getfield 199), (133, .iload_n 1), (134, .aload_n 0), (135, .getfield 129), (138, .iload_n 1), (139, .iaload), (140, .iastore), (141, .aload_n 0), (142, .getfield 202), (145, .iload_n 1), (146, .aload_n 0), (147, .getfield 132), (150, .iload_n 1), (151, .iaload), (152, .iastore), (153, .aload_n 0), (154, .getfield 217), (157, .iload_n 1), (158, .aload_n 0), (159, .getfield 135), (162, .iload_n 1), (163, .baload), (164, .bastore), (165, .iinc 1 1), (168, .goto (-105)), (171, .iconst 0), (172, .istore_n 1), (173, .iload_n 1), (174, .bipush 24), (176, .if_icmp .ge 21), (179, .aload_n 0), (180, .getfield 196), (183, .iload_n 1), (184, .aload_n 0), (185, .getfield 35), (188, .iload_n 1), (189, .iaload), (190, .iastore), (191, .iinc 1 1), (194, .goto (-21)), (197, .iconst 0), (198, .istore_n 1), (199, .iload_n 1), (200, .bipush 10), (202, .if_icmp .ge 33), (205, .aload_n 0), (206, .getfield 205), (209, .iload_n 1), (210, .aload_n 0), (211, .getfield 144), (214, .iload_n 1), (215, .iaload), (216, .iastore), (217, .aload_n 0), (218, .getfield 208), (221, .iload_n 1), (222, .aload_n 0), (223, .getfield 147), (226, .iload_n 1), (227, .iaload), (228, .iastore), (229, .iinc 1 1), (232, .goto (-33)), (235, .iconst 0), (236, .istore_n 1), (237, .iload_n 1), (238, .bipush 8), (240, .if_icmp .ge 33), (243, .aload_n 0), (244, .getfield 211), (247, .iload_n 1), (248, .aload_n 0), (249, .getfield 150), (252, .iload_n 1), (253, .iaload), (254, .iastore), (255, .aload_n 0), (256, .getfield 214), (259, .iload_n 1), (260, .aload_n 0), (261, .getfield 153), (264, .iload_n 1), (265, .iaload), (266, .iastore), (267, .iinc 1 1), (270, .goto (-33)), (273, .aload_n 0), (274, .getfield 7), (277, .ireturn)]
/-- SlateHalvesModel.undo()I -/
def zt_222 : List (Nat × Instr) := [(0, .aload_n 0), (1, .getfield 156), (4, .ifCond .ne 6), (7, .bipush (-3)), (9, .ireturn), (10, .aload_n 0), (11, .aload_n 0), (12, .getfield 160), (15, .putfield 41), (18, .aload_n 0), (19, .aload_n 0), (20, .getfield 163), (23, .putfield 7), (26, .aload_n 0), (27, .aload_n 0), (28, .getfield 166), (31, .putfield 13), (34, .aload_n 0), (35, .aload_n 0), (36, .getfield 169), (39, .putfield 16), (42, .aload_n 0), (43, .aload_n 0), (44, .getfield 172), (47, .putfield 126), (50, .aload_n 0), (51, .aload_n 0), (52, .getfield 175), (55, .putfield 138), (58, .aload_n 0), (59, .aload_n 0), (60, .getfield 178), (63, .putfield 141), (66, .iconst 0), (67, .istore_n 1), (68, .iload_n 1), (69, .bipush 6), (71, .if_icmp .ge 105), (74, .aload_n 0), (75, .getfield 19), (78, .iload_n 1), (79, .aload_n 0), (80, .getfield 181), (83, .iload_n 1), (84, .iaload), (85, .iastore), (86, .aload_n 0), (87, .getfield 23), (90, .iload_n 1), (91, .aload_n 0), (92, .getfield 184), (95, .iload_n 1), (96, .iaload), (97, .iastore), (98, .aload_n 0), (99, .getfield 26), (102, .iload_n 1), (103, .aload_n 0), (104, .getfield 187), (107, .iload_n 1), (108, .iaload), (109, .iastore), (110, .aload_n 0), (111, .getfield 29), (114, .iload_n 1), (115, .aload_n 0), (116, .getfield 190), (119, .iload_n 1), (120, .iaload), (121, .iastore), (122, .aload_n 0), (123, .getfield 32), (126, .iload_n 1), (127, .aload_n 0), (128, .getfield 193), (131, .iload_n 1), (132, .iaload), (133, .iastore), (134, .aload_n 0), (135, .getfield 129), (138, .iload_n 1), (139, .aload_n 0), (140, .getfield 199), (143, .iload_n 1), (144, .iaload), (145, .iastore), (146, .aload_n 0), (147, .getfield 132), (150, .iload_n 1), (151, .aload_n 0), (152, .getfield 202), (155, .iload_n 1), (156, .iaload), (157, .iastore), (158, .aload_n 0), (159, .getfield 135), (162, .iload_n 1), (163, .aload_n 0), (164, .getfield 217), (167, .iload_n 1), (168, .baload), (169, .bastore), (170, .iinc 1 1), (173, .goto (-105)), (176, .iconst 0), (177, .istore_n 1), (178, .iload_n 1), (179, .bipush 24), (181, .if_icmp .ge 21), (184, .aload_n 0), (185, .getfield 35), (188, .iload_n 1), (189, .aload_n 0), (190, .getfield 196), (193, .iload_n 1), (194, .iaload), (195, .iastore), (196, .iinc 1 1), (199, .goto (-21)), (202, .iconst 0), (203, .istore_n 1), (204, .iload_n 1), (205, .bipush 10), (207, .if_icmp .ge 33), (210, .aload_n 0), (211, .getfield 144), (214, .iload_n 1), (215, .aload_n 0), (216, .getfield 205), (219, .iload_n 1), (220, .iaload), (221, .iastore), (222, .aload_n 0), (223, .getfield 147), (226, .iload_n 1), (227, .aload_n 0), (228, .getfield 208), (231, .iload_n 1), (232, .iaload), (233, .iastore), (234, .iinc 1 1), (237, .goto (-33)), (240, .iconst 0), (241, .istore_n 1), (242, .iload_n 1), (243, .bipush 8), (245, .if_icmp .ge 33), (248, .aload_n 0), (249, .getfield 150), (252, .iload_n 1), (253, .aload_n 0), (254, .getfield 211), (257, .iload_n 1), (258, .iaload), (259, .iastore), (260, .aload_n 0), (261, .getfield 153), (264, .iload_n 1), (265, .aload_n 0), (266, .getfield 214), (269, .iload_n 1), (270, .iaload), (271, .iastore), (272, .iinc 1 1), (275, .goto (-33)), (278, .aload_n 0), (279, .getfield 7), (282, .ireturn)]
/-- SlateHalvesModel.act(III)I -/
def zt_223 : List (Nat × Instr) := [(0, .aload_n 0), (1, .iconst 0), (2, .putfield 220), (5, .aload_n 0), (6, .iload_n 1), (7, .invokevirtual 243), (10, .ifCond .eq 13), (13, .aload_n 0), (14, .iload_n 2), (15, .iconst 0), (16, .iconst 2), (17, .invokevirtual 239), (20, .ifCond .ne 5), (23, .iconst 0), (24, .ireturn), (25, .iload_n 2), (26, .ifCond .ne 12), (29, .aload_n 0), (30, .iload_n 1), (31, .iload_n 3), (32, .invokevirtual 412), (35, .goto 23), (38, .iload_n 2), (39, .iconst 1), (40, .if_icmp .ne 12), (43, .aload_n 0), (44, .iload_n 1), (45, .iload_n 3), (46, .invokevirtual 421), (49, .goto 9), (52, .aload_n 0), (53, .iload_n 1), (54, .iload_n 3), (55, .invokevirtual 427), (58, .ireturn)]
/-- SlateHalvesModel.ringsAct(II)I -/
def zt_224 : List (Nat × Instr) := [(0, .aload_n 0), (1, .getfield 19), (4, .iload_n 1), (5, .iaload), (6, .tableswitch 83 2 6 #[34, 83, 49, 34, 63]), (40, .aload_n 0), (41, .bipush 30), (43, .invokevirtual 406), (46, .aload_n 0), (47, .iload_n 1), (48, .iload_n 2), (49, .iconst 3), (50, .imul), (51, .invokevirtual 409), (54, .ireturn), (55, .aload_n 0), (56, .bipush 50), (58, .invokevirtual 406), (61, .aload_n 0), (62, .iload_n 1), (63, .iload_n 2), (64, .invokevirtual 409), (67, .ineg), (68, .ireturn), (69, .aload_n 0), (70, .bipush 71), (72, .invokevirtual 406), (75, .aload_n 0), (76, .iload_n 1), (77, .iload_n 2), (78, .invokevirtual 409), (81, .aload_n 0), (82, .getfield 23), (85, .iload_n 1), (86, .iaload), (87, .ixor), (88, .ireturn), (89, .aload_n 0), (90, .iload_n 1), (91, .iload_n 2), (92, .invokevirtual 409), (95, .ireturn)]
/-- SlateHalvesModel.body(I)V -/
def zt_225 : List (Nat × Instr) := [(0, .aload_n 0), (1, .getfield 220), (4, .bipush 20), (6, .if_icmp .ge 13), (9, .aload_n 0), (10, .getfield 223), (13, .aload_n 0), (14, .getfield 220), (17, .iload_n 1), (18, .iastore), (19, .aload_n 0), (20, .dup), (21, .getfield 220), (24, .iconst 1), (25, .iadd), (26, .putfield 220), (29, .return_)]
/-- SlateHalvesModel.blockRings(II)I -/
def zt_226 : List (Nat × Instr) := [(0, .aload_n 0), (1, .bipush 10), (3, .invokevirtual 406), (6, .iload_n 2), (7, .iload_n 1), (8, .iadd), (9, .ireturn)]
/-- SlateHalvesModel.splitsAct(II)I -/
def zt_227 : List (Nat × Instr) := [(0, .aload_n 0), (1, .getfield 19), (4, .iload_n 1), (5, .iaload), (6, .lookupswitch 78 #[(1, 34), (4, 41), (6, 56)]), (40, .aload_n 0), (41, .iload_n 1), (42, .iload_n 2), (43, .invokevirtual 418), (46, .ireturn), (47, .aload_n 0), (48, .bipush 51), (50, .invokevirtual 406), (53, .aload_n 0), (54, .iload_n 1), (55, .iload_n 2), (56, .iconst 1), (57, .iadd), (58, .invokevirtual 418), (61, .ireturn), (62, .aload_n 0), (63, .bipush 70), (65, .invokevirtual 406), (68, .aload_n 0), (69, .iload_n 1), (70, .iload_n 2), (71, .invokevirtual 415), (74, .istore_n 3), (75, .iload_n 3), (76, .aload_n 0), (77, .iload_n 1), (78, .iconst 2), (79, .invokevirtual 409), (82, .iadd), (83, .ireturn), (84, .aload_n 0), (85, .iload_n 1), (86, .iload_n 2), (87, .invokevirtual 415), (90, .ireturn)]
/-- SlateHalvesModel.fineSplits(II)I -/
def zt_228 : List (Nat × Instr) := [(0, .aload_n 0), (1, .bipush 20), (3, .invokevirtual 406), (6, .aload_n 0), (7, .iload_n 1), (8, .iload_n 2), (9, .invokevirtual 415), (12, .bipush 6), (14, .ixor), (15, .ireturn)]
/-- SlateHalvesModel.blockSplits(II)I -/
def zt_229 : List (Nat × Instr) := [(0, .aload_n 0), (1, .bipush 11), (3, .invokevirtual 406), (6, .aload_n 0), (7, .iload_n 1), (8, .iload_n 2), (9, .invokevirtual 412), (12, .aload_n 0), (13, .getfield 23), (16, .iload_n 1), (17, .iaload), (18, .isub), (19, .ireturn)]
/-- SlateHalvesModel.tellsAct(II)I -/
def zt_230 : List (Nat × Instr) := [(0, .aload_n 0), (1, .getfield 19), (4, .iload_n 1), (5, .iaload), (6, .tableswitch 67 3 6 #[30, 67, 52, 30]), (36, .aload_n 0), (37, .bipush 40), (39, .invokevirtual 406), (42, .aload_n 0), (43, .iload_n 1), (44, .iload_n 2), (45, .invokevirtual 424), (48, .istore_n 3), (49, .iload_n 3), (50, .aload_n 0), (51, .iload_n 1), (52, .iconst 1), (53, .invokevirtual 421), (56, .iadd), (57, .ireturn), (58, .aload_n 0), (59, .bipush 60), (61, .invokevirtual 406), (64, .aload_n 0), (65, .iload_n 1), (66, .iload_n 2), (67, .iload_n 1), (68, .isub), (69, .invokevirtual 424), (72, .ireturn), (73, .aload_n 0), (74, .iload_n 1), (75, .iload_n 2), (76, .invokevirtual 424), (79, .ireturn)]
/-- SlateHalvesModel.blockTells(II)I -/
def zt_231 : List (Nat × Instr) := [(0, .aload_n 0), (1, .bipush 12), (3, .invokevirtual 406), (6, .aload_n 0), (7, .iload_n 1), (8, .iload_n 2), (9, .invokevirtual 421), (12, .iconst 2), (13, .imul), (14, .ireturn)]
/-- SlateHalvesModel.trace(I)I -/
def zt_232 : List (Nat × Instr) := [(0, .aload_n 0), (1, .iload_n 1), (2, .iconst 0), (3, .bipush 19), (5, .invokevirtual 239), (8, .ifCond .eq 20), (11, .iload_n 1), (12, .aload_n 0), (13, .getfield 220), (16, .if_icmp .ge 12), (19, .aload_n 0), (20, .getfield 223), (23, .iload_n 1), (24, .iaload), (25, .goto 4), (28, .iconst (-1)), (29, .ireturn)]
/-- SlateHalvesModel.taken(II)I -/
def zt_233 : List (Nat × Instr) := [(0, .aload_n 0), (1, .iload_n 2), (2, .iconst 0), (3, .bipush 6), (5, .invokevirtual 239), (8, .ifCond .ne 6), (11, .bipush (-2)), (13, .ireturn), (14, .aload_n 0), (15, .iload_n 1), (16, .invokevirtual 243), (19, .ifCond .ne 6), (22, .bipush (-11)), (24, .ireturn), (25, .aload_n 0), (26, .getfield 19), (29, .iload_n 1), (30, .iaload), (31, .istore_n 3), (32, .iload_n 2), (33, .ifCond .eq 39), (36, .iload_n 3), (37, .iload_n 2), (38, .if_icmp .eq 34), (41, .iload_n 2), (42, .iconst 1), (43, .if_icmp .ne 8), (46, .iload_n 3), (47, .iconst 4), (48, .if_icmp .eq 24), (51, .iload_n 2), (52, .iconst 2), (53, .if_icmp .ne 8), (56, .iload_n 3), (57, .iconst 5), (58, .if_icmp .eq 14), (61, .iload_n 2), (62, .iconst 3), (63, .if_icmp .ne 13), (66, .iload_n 3), (67, .bipush 6), (69, .if_icmp .ne 7), (72, .iload_n 3), (73, .goto 5), (76, .bipush (-12)), (78, .ireturn)]
/-- SlateHalvesModel.count(I)I -/
def zt_234 : List (Nat × Instr) := [(0, .iload_n 1), (1, .tableswitch 78 0 6 #[43, 48, 53, 58, 63, 68, 73]), (44, .aload_n 0), (45, .getfield 7), (48, .ireturn), (49, .aload_n 0), (50, .getfield 38), (53, .ireturn), (54, .aload_n 0), (55, .getfield 126), (58, .ireturn), (59, .aload_n 0), (60, .getfield 138), (63, .ireturn), (64, .aload_n 0), (65, .getfield 141), (68, .ireturn), (69, .aload_n 0), (70, .getfield 44), (73, .ireturn), (74, .aload_n 0), (75, .getfield 220), (78, .ireturn), (79, .bipush (-2)), (81, .ireturn)]
/-- SlateHalvesModel.tape(III)I -/
def zt_235 : List (Nat × Instr) := [(0, .aload_n 0), (1, .iload_n 1), (2, .invokevirtual 403), (5, .ifCond .ne 5), (8, .iconst (-1)), (9, .ireturn), (10, .aload_n 0), (11, .iload_n 2), (12, .iconst (-1)), (13, .iconst 4), (14, .invokevirtual 239), (17, .ifCond .eq 13), (20, .iload_n 2), (21, .ifCond .lt 12), (24, .iload_n 3), (25, .bipush 60), (27, .if_icmp .le 6), (30, .bipush (-2)), (32, .ireturn), (33, .iload_n 2), (34, .ifCond .lt 10), (37, .iload_n 3), (38, .ifCond .ge 6), (41, .bipush (-14)), (43, .ireturn), (44, .aload_n 0), (45, .getfield 226), (48, .iload_n 1), (49, .iload_n 2), (50, .iastore), (51, .aload_n 0), (52, .getfield 229), (55, .iload_n 1), (56, .iload_n 2), (57, .ifCond .ge 7), (60, .iconst 0), (61, .goto 4), (64, .iload_n 3), (65, .iastore), (66, .iconst 0), (67, .istore 4), (69, .iload 4), (71, .bipush 60), (73, .if_icmp .ge 22), (76, .aload_n 0), (77, .getfield 232), (80, .bipush 60), (82, .iload_n 1), (83, .imul), (84, .iload 4), (86, .iadd), (87, .lconst 0), (88, .lastore), (89, .iinc 4 1), (92, .goto (-23)), (95, .iconst 1), (96, .ireturn)]
/-- SlateHalvesModel.item(IIJ)I -/
def zt_236 : List (Nat × Instr) := [(0, .aload_n 0), (1, .iload_n 1), (2, .invokevirtual 403), (5, .ifCond .ne 5), (8, .iconst (-1)), (9, .ireturn), (10, .aload_n 0), (11, .getfield 226), (14, .iload_n 1), (15, .iaload), (16, .ifCond .ge 6), (19, .bipush (-11)), (21, .ireturn), (22, .aload_n 0), (23, .iload_n 2), (24, .iconst 0), (25, .aload_n 0), (26, .getfield 229), (29, .iload_n 1), (30, .iaload), (31, .iconst 1), (32, .isub), (33, .invokevirtual 239), (36, .ifCond .ne 6), (39, .bipush (-13)), (41, .ireturn), (42, .aload_n 0), (43, .getfield 232), (46, .bipush 60), (48, .iload_n 1), (49, .imul), (50, .iload_n 2), (51, .iadd), (52, .aload_n 0), (53, .aload_n 0), (54, .getfield 226), (57, .iload_n 1), (58, .iaload), (59, .lload_n 3), (60, .invokevirtual 430), (63, .lastore), (64, .iconst 1), (65, .ireturn)]
/-- SlateHalvesModel.narrow(IJ)J -/
def zt_237 : List (Nat × Instr) := [(0, .iload_n 1), (1, .ifCond .ne 10), (4, .lload_n 2), (5, .l2i), (6, .i2b), (7, .i2l), (8, .goto 46), (11, .iload_n 1), (12, .iconst 1), (13, .if_icmp .ne 10), (16, .lload_n 2), (17, .l2i), (18, .i2s), (19, .i2l), (20, .goto 34), (23, .iload_n 1), (24, .iconst 2), (25, .if_icmp .ne 9), (28, .lload_n 2), (29, .l2i), (30, .i2l), (31, .goto 23), (34, .iload_n 1), (35, .iconst 4), (36, .if_icmp .ne 17), (39, .lload_n 2), (40, .lconst 0), (41, .lcmp), (42, .ifCond .eq 7), (45, .lconst 1), (46, .goto 8), (49, .lconst 0), (50, .goto 4), (53, .lload_n 2), (54, .lreturn)]
/-- SlateHalvesModel.read(II)J -/
def zt_238 : List (Nat × Instr) := [(0, .aload_n 0), (1, .iload_n 1), (2, .invokevirtual 403), (5, .ifCond .eq 29), (8, .aload_n 0), (9, .getfield 226), (12, .iload_n 1), (13, .iaload), (14, .ifCond .lt 20), (17, .aload_n 0), (18, .iload_n 2), (19, .iconst 0), (20, .aload_n 0), (21, .getfield 229), (24, .iload_n 1), (25, .iaload), (26, .iconst 1), (27, .isub), (28, .invokevirtual 239), (31, .ifCond .ne 9), (34, .ldc2_w 397), (37, .goto 14), (40, .aload_n 0), (41, .getfield 232), (44, .bipush 60), (46, .iload_n 1), (47, .imul), (48, .iload_n 2), (49, .iadd), (50, .laload), (51, .lreturn)]
/-- SlateHalvesModel.shift(IIIII)I -/
def zt_239 : List (Nat × Instr) := [(0, .aload_n 0), (1, .iload_n 1), (2, .invokevirtual 403), (5, .ifCond .eq 11), (8, .aload_n 0), (9, .iload_n 3), (10, .invokevirtual 403), (13, .ifCond .ne 5), (16, .iconst (-1)), (17, .ireturn), (18, .aload_n 0), (19, .getfield 226), (22, .iload_n 1), (23, .iaload), (24, .ifCond .lt 12), (27, .aload_n 0), (28, .getfield 226), (31, .iload_n 3), (32, .iaload), (33, .ifCond .ge 6), (36, .bipush (-11)), (38, .ireturn), (39, .aload_n 0), (40, .getfield 226), (43, .iload_n 1), (44, .iaload), (45, .aload_n 0), (46, .getfield 226), (49, .iload_n 3), (50, .iaload), (51, .if_icmp .eq 6), (54, .bipush (-12)), (56, .ireturn), (57, .iload 5), (59, .ifCond .lt 39), (62, .iload_n 2), (63, .ifCond .lt 35), (66, .iload 4), (68, .ifCond .lt 30), (71, .iload_n 2), (72, .aload_n 0), (73, .getfield 229), (76, .iload_n 1), (77, .iaload), (78, .iload 5), (80, .isub), (81, .if_icmp .gt 17), (84, .iload 4), (86, .aload_n 0), (87, .getfield 229), (90, .iload_n 3), (91, .iaload), (92, .iload 5), (94, .isub), (95, .if_icmp .le 6), (98, .bipush (-13)), (100, .ireturn), (101, .iconst 0), (102, .istore 6), (104, .iload 6), (106, .iload 5), (108, .if_icmp .ge 30), (111, .aload_n 0), (112, .getfield 236), (115, .iload 6), (117, .aload_n 0), (118, .getfield 232), (121, .bipush 60), (123, .iload_n 1), (124, .imul), (125, .iload_n 2), (126, .iadd), (127, .iload 6), (129, .iadd), (130, .laload), (131, .lastore), (132, .iinc 6 1), (135, .goto (-31)), (138, .iconst 0), (139, .istore 6), (141, .iload 6), (143, .iload 5), (145, .if_icmp .ge 31), (148, .aload_n 0), (149, .getfield 232), (152, .bipush 60), (154, .iload_n 3), (155, .imul), (156, .iload 4), (158, .iadd), (159, .iload 6), (161, .iadd), (162, .aload_n 0), (163, .getfield 236), (166, .iload 6), (168, .laload), (169, .lastore), (170, .iinc 6 1), (173, .goto (-32)), (176, .iload 5), (178, .ireturn)]
def zts : List (List (Nat × Instr)) := [zt_0, zt_1, zt_2, zt_3, zt_4, zt_5, zt_6, zt_7, zt_8, zt_9, zt_10, zt_11, zt_12, zt_13, zt_14, zt_15, zt_16, zt_17, zt_18, zt_19, zt_20, zt_21, zt_22, zt_23, zt_24, zt_25, zt_26, zt_27, zt_28, zt_29, zt_30, zt_31, zt_32, zt_33, zt_34, zt_35, zt_36, zt_37, zt_38, zt_39, zt_40, zt_41, zt_42, zt_43, zt_44, zt_45, zt_46, zt_47, zt_48, zt_49, zt_50, zt_51, zt_52, zt_53, zt_54, zt_55, zt_56, zt_57, zt_58, zt_59, zt_60, zt_61, zt_62, zt_63, zt_64, zt_65, zt_66, zt_67, zt_68, zt_69, zt_70, zt_71, zt_72, zt_73, zt_74, zt_75, zt_76, zt_77, zt_78, zt_79, zt_80, zt_81, zt_82, zt_83, zt_84, zt_85, zt_86, zt_87, zt_88, zt_89, zt_90, zt_91, zt_92, zt_93, zt_94, zt_95, zt_96, zt_97, zt_98, zt_99, zt_100, zt_101, zt_102, zt_103, zt_104, zt_105, zt_106, zt_107, zt_108, zt_109, zt_110, zt_111, zt_112, zt_113, zt_114, zt_115, zt_116, zt_117, zt_118, zt_119, zt_120, zt_121, zt_122, zt_123, zt_124, zt_125, zt_126, zt_127, zt_128, zt_129, zt_130, zt_131, zt_132, zt_133, zt_134, zt_135, zt_136, zt_137, zt_138, zt_139, zt_140, zt_141, zt_142, zt_143, zt_144, zt_145, zt_146, zt_147, zt_148, zt_149, zt_150, zt_151, zt_152, zt_153, zt_154, zt_155, zt_156, zt_157, zt_158, zt_159, zt_160, zt_161, zt_162, zt_163, zt_164, zt_165, zt_166, zt_167, zt_168, zt_169, zt_170, zt_171, zt_172, zt_173, zt_174, zt_175, zt_176, zt_177, zt_178, zt_179, zt_180, zt_181, zt_182, zt_183, zt_184, zt_185, zt_186, zt_187, zt_188, zt_189, zt_190, zt_191, zt_192, zt_193, zt_194, zt_195, zt_196, zt_197, zt_198, zt_199, zt_200, zt_201, zt_202, zt_203, zt_204, zt_205, zt_206, zt_207, zt_208, zt_209, zt_210, zt_211, zt_212, zt_213, zt_214, zt_215, zt_216, zt_217, zt_218, zt_219, zt_220, zt_221, zt_222, zt_223, zt_224, zt_225, zt_226, zt_227, zt_228, zt_229, zt_230, zt_231, zt_232, zt_233, zt_234, zt_235, zt_236, zt_237, zt_238, zt_239]
/-- a method: its name, bytes, locals, answer, class number, number of parameters -/
def zms : List (MethodName × ByteArray × Nat × Option FieldType × Nat × Nat) := [
  (⟨"SlateHalvesLaw", "law", "([I)Z"⟩, code, 4, (some .boolean), 0, 1),
  (⟨"SlateHalves", "<init>", "()V"⟩, prog_1_method_1_code, 2, none, 1, 0),
  (⟨"SlateHalves$Scene", "<init>", "()V"⟩, prog_9_method_1_code, 1, none, 2, 0),
  (⟨"SlateHalves$Yard", "<init>", "()V"⟩, prog_12_method_1_code, 2, none, 3, 0),
  (⟨"SlateHalves$Block", "<init>", "(I)V"⟩, prog_3_method_1_code, 2, none, 4, 1),
  (⟨"SlateHalves$Rows", "<init>", "(I)V"⟩, prog_8_method_1_code, 2, none, 5, 1),
  (⟨"SlateHalves$Hill", "<init>", "()V"⟩, prog_5_method_1_code, 1, none, 6, 0),
  (⟨"SlateHalves$HillReader", "<init>", "()V"⟩, prog_6_method_1_code, 1, none, 7, 0),
  (⟨"SlateHalves$Blows", "<init>", "()V"⟩, prog_4_method_1_code, 1, none, 8, 0),
  (⟨"SlateHalves$Valuer", "<init>", "()V"⟩, prog_11_method_1_code, 1, none, 9, 0),
  (⟨"SlateHalves$Planner", "<init>", "()V"⟩, prog_7_method_1_code, 1, none, 10, 0),
  (⟨"SlateHalves$Acts", "<init>", "()V"⟩, prog_2_method_1_code, 1, none, 11, 0),
  (⟨"SlateHalves$Tape", "<init>", "()V"⟩, prog_10_method_1_code, 1, none, 12, 0),
  (⟨"SlateHalves", "block", "(III)I"⟩, prog_1_method_2_code, 5, (Option.some FieldType.int), 1, 3),
  (⟨"SlateHalves", "isWithin", "(III)Z"⟩, prog_1_method_44_code, 3, (Option.some FieldType.boolean), 1, 3),
  (⟨"SlateHalves$Yard", "addBlock", "()LSlateHalves$Block;"⟩, prog_12_method_3_code, 1, (some (FieldType.object "SlateHalves$Block")), 3, 0),
  (⟨"SlateHalves$Block", "become", "(III)V"⟩, prog_3_method_3_code, 4, none, 4, 3),
  (⟨"java/util/Arrays", "fill", "([II)V"⟩, prog_22_method_103_code, 4, none, 13, 2),
  (⟨"SlateHalves", "of", "(II)I"⟩, prog_1_method_3_code, 4, (Option.some FieldType.int), 1, 2),
  (⟨"SlateHalves$Yard", "find", "(I)LSlateHalves$Block;"⟩, prog_12_method_2_code, 2, (some (FieldType.object "SlateHalves$Block")), 3, 1),
  (⟨"SlateHalves", "holding", "()LSlateHalves$Hill;"⟩, prog_1_method_49_code, 2, (some (FieldType.object "SlateHalves$Hill")), 1, 0),
  (⟨"SlateHalves$Hill", "priceOf", "(LSlateHalves$Block;I)I"⟩, prog_5_method_6_code, 7, (Option.some FieldType.int), 6, 2),
  (⟨"SlateHalves$Hill", "holdsTest", "(ILSlateHalves$Block;I)Z"⟩, prog_5_method_7_code, 5, (Option.some FieldType.boolean), 6, 3),
  (⟨"SlateHalves$Hill", "looksAt", "(ILSlateHalves$Block;I)I"⟩, prog_5_method_8_code, 3, (Option.some FieldType.int), 6, 3),
  (⟨"java/lang/Math", "max", "(II)I"⟩, prog_17_method_65_code, 2, (Option.some FieldType.int), 14, 2),
  (⟨"SlateHalves", "gripOf", "(III)I"⟩, prog_1_method_46_code, 4, (Option.some FieldType.int), 1, 3),
  (⟨"SlateHalves", "driesOf", "(LSlateHalves$Block;I)I"⟩, prog_1_method_47_code, 2, (Option.some FieldType.int), 1, 2),
  (⟨"SlateHalves", "valueOf", "(LSlateHalves$Block;I)I"⟩, prog_1_method_4_code, 3, (Option.some FieldType.int), 1, 2),
  (⟨"SlateHalves$Valuer", "setBy", "(LSlateHalves$Block;ILSlateHalves$Hill;)V"⟩, prog_11_method_2_code, 4, none, 9, 3),
  (⟨"SlateHalves$Blows", "setAs", "(LSlateHalves$Block;III)V"⟩, prog_4_method_3_code, 5, none, 8, 4),
  (⟨"java/lang/Math", "floorMod", "(II)I"⟩, prog_17_method_50_code, 3, (Option.some FieldType.int), 14, 2),
  (⟨"SlateHalves$Hill", "thinnest", "()I"⟩, prog_5_method_3_code, 1, (Option.some FieldType.int), 6, 0),
  (⟨"SlateHalves$Hill", "thickest", "()I"⟩, prog_5_method_4_code, 1, (Option.some FieldType.int), 6, 0),
  (⟨"SlateHalves$Valuer", "worthOf", "(I)I"⟩, prog_11_method_3_code, 2, (Option.some FieldType.int), 9, 1),
  (⟨"SlateHalves$Valuer", "bestOf", "(I)I"⟩, prog_11_method_4_code, 2, (Option.some FieldType.int), 9, 1),
  (⟨"SlateHalves$Valuer", "fillBest", "(I)V"⟩, prog_11_method_10_code, 7, none, 9, 1),
  (⟨"SlateHalves$Valuer", "limited", "(I)I"⟩, prog_11_method_13_code, 1, (Option.some FieldType.int), 9, 1),
  (⟨"java/lang/Math", "min", "(II)I"⟩, prog_17_method_69_code, 2, (Option.some FieldType.int), 14, 2),
  (⟨"SlateHalves$Blows", "greatestNear", "(I)I"⟩, prog_4_method_6_code, 2, (Option.some FieldType.int), 8, 1),
  (⟨"SlateHalves$Blows", "leastNear", "(I)I"⟩, prog_4_method_5_code, 2, (Option.some FieldType.int), 8, 1),
  (⟨"SlateHalves$Valuer", "cleanSum", "(II)I"⟩, prog_11_method_11_code, 3, (Option.some FieldType.int), 9, 2),
  (⟨"SlateHalves$Blows", "isCleanAt", "(II)Z"⟩, prog_4_method_4_code, 5, (Option.some FieldType.boolean), 8, 2),
  (⟨"SlateHalves$Valuer", "fewOf", "(I)I"⟩, prog_11_method_6_code, 4, (Option.some FieldType.int), 9, 1),
  (⟨"SlateHalves$Valuer", "fewestBehind", "(I)I"⟩, prog_11_method_7_code, 4, (Option.some FieldType.int), 9, 1),
  (⟨"SlateHalves$Valuer", "behind", "([III)I"⟩, prog_11_method_12_code, 4, (Option.some FieldType.int), 9, 3),
  (⟨"SlateHalves$Valuer", "manyOf", "(I)I"⟩, prog_11_method_5_code, 2, (Option.some FieldType.int), 9, 1),
  (⟨"SlateHalves$Valuer", "halvesOf", "(I)I"⟩, prog_11_method_8_code, 4, (Option.some FieldType.int), 9, 1),
  (⟨"SlateHalves$Valuer", "blowOf", "(I)I"⟩, prog_11_method_9_code, 4, (Option.some FieldType.int), 9, 1),
  (⟨"SlateHalves", "dry", "(II)I"⟩, prog_1_method_5_code, 5, (Option.some FieldType.int), 1, 2),
  (⟨"SlateHalves", "row", "(III)I"⟩, prog_1_method_6_code, 6, (Option.some FieldType.int), 1, 3),
  (⟨"SlateHalves", "strike", "(II)I"⟩, prog_1_method_7_code, 6, (Option.some FieldType.int), 1, 2),
  (⟨"SlateHalves", "isCleanBlow", "(LSlateHalves$Block;II)Z"⟩, prog_1_method_50_code, 4, (Option.some FieldType.boolean), 1, 3),
  (⟨"SlateHalves$Blows", "setBy", "(LSlateHalves$Block;I)V"⟩, prog_4_method_2_code, 3, none, 8, 2),
  (⟨"SlateHalves$Block", "copyFrom", "(LSlateHalves$Block;)V"⟩, prog_3_method_4_code, 2, none, 4, 1),
  (⟨"SlateHalves", "clean", "(III)I"⟩, prog_1_method_8_code, 5, (Option.some FieldType.int), 1, 3),
  (⟨"SlateHalves", "isBlow", "(II)Z"⟩, prog_1_method_45_code, 2, (Option.some FieldType.boolean), 1, 2),
  (⟨"SlateHalves", "sell", "(I)I"⟩, prog_1_method_9_code, 4, (Option.some FieldType.int), 1, 1),
  (⟨"SlateHalves$Block", "isGone", "()Z"⟩, prog_3_method_2_code, 1, (Option.some FieldType.boolean), 4, 0),
  (⟨"SlateHalves", "worthIn", "(LSlateHalves$Yard;LSlateHalves$Block;)I"⟩, prog_1_method_51_code, 3, (Option.some FieldType.int), 1, 2),
  (⟨"SlateHalves", "feed", "(I)I"⟩, prog_1_method_10_code, 2, (Option.some FieldType.int), 1, 1),
  (⟨"SlateHalves", "hill", "()I"⟩, prog_1_method_11_code, 2, (Option.some FieldType.int), 1, 0),
  (⟨"SlateHalves$HillReader", "fillHill", "(LSlateHalves$Hill;[BI)I"⟩, prog_6_method_2_code, 5, (Option.some FieldType.int), 7, 3),
  (⟨"SlateHalves$Hill", "clear", "()V"⟩, prog_5_method_2_code, 1, none, 6, 0),
  (⟨"SlateHalves$HillReader", "takeClause", "()Z"⟩, prog_6_method_5_code, 3, (Option.some FieldType.boolean), 7, 0),
  (⟨"SlateHalves$HillReader", "takeWord", "()I"⟩, prog_6_method_7_code, 4, (Option.some FieldType.int), 7, 0),
  (⟨"SlateHalves$HillReader", "wordOf", "(I)Ljava/lang/String;"⟩, prog_6_method_6_code, 1, (some (FieldType.object "java/lang/String")), 7, 1),
  (⟨"SlateHalves$HillReader", "sameSigns", "(Ljava/lang/String;)I"⟩, prog_6_method_8_code, 4, (Option.some FieldType.int), 7, 1),
  (⟨"java/lang/String", "length", "()I"⟩, prog_18_method_54_code, 1, (Option.some FieldType.int), 15, 0),
  (⟨"java/lang/String", "coder", "()B"⟩, prog_18_method_152_code, 1, (Option.some FieldType.byte), 15, 0),
  (⟨"java/lang/String", "charAt", "(I)C"⟩, prog_18_method_56_code, 2, (Option.some FieldType.char), 15, 1),
  (⟨"java/lang/String", "isLatin1", "()Z"⟩, prog_18_method_154_code, 1, (Option.some FieldType.boolean), 15, 0),
  (⟨"java/lang/StringLatin1", "charAt", "([BI)C"⟩, prog_19_method_2_code, 2, (Option.some FieldType.char), 16, 2),
  (⟨"java/lang/String", "checkIndex", "(II)V"⟩, prog_18_method_155_code, 2, none, 15, 2),
  (⟨"jdk/internal/util/Preconditions", "checkIndex", "(IILjava/util/function/BiFunction;)I"⟩, prog_23_method_11_code, 3, (Option.some FieldType.int), 17, 3),
  (⟨"SlateHalves$HillReader", "takeSign", "(I)Z"⟩, prog_6_method_4_code, 2, (Option.some FieldType.boolean), 7, 1),
  (⟨"SlateHalves$HillReader", "sign", "()I"⟩, prog_6_method_3_code, 1, (Option.some FieldType.int), 7, 0),
  (⟨"SlateHalves$HillReader", "takeNumber", "()I"⟩, prog_6_method_9_code, 3, (Option.some FieldType.int), 7, 0),
  (⟨"SlateHalves$HillReader", "takeEither", "(I)Z"⟩, prog_6_method_10_code, 3, (Option.some FieldType.boolean), 7, 1),
  (⟨"SlateHalves$HillReader", "takeBoth", "(I)Z"⟩, prog_6_method_11_code, 3, (Option.some FieldType.boolean), 7, 1),
  (⟨"SlateHalves$HillReader", "takePart", "(I)Z"⟩, prog_6_method_12_code, 2, (Option.some FieldType.boolean), 7, 1),
  (⟨"SlateHalves$HillReader", "takeTest", "()Z"⟩, prog_6_method_13_code, 4, (Option.some FieldType.boolean), 7, 0),
  (⟨"SlateHalves$HillReader", "takeOneOf", "(Ljava/lang/String;)I"⟩, prog_6_method_14_code, 3, (Option.some FieldType.int), 7, 1),
  (⟨"java/lang/String", "indexOf", "(I)I"⟩, prog_18_method_79_code, 2, (Option.some FieldType.int), 15, 1),
  (⟨"java/lang/String", "indexOf", "(II)I"⟩, prog_18_method_80_code, 3, (Option.some FieldType.int), 15, 2),
  (⟨"java/lang/StringLatin1", "indexOf", "([BIII)I"⟩, prog_19_method_22_code, 4, (Option.some FieldType.int), 16, 4),
  (⟨"java/lang/StringLatin1", "canEncode", "(I)Z"⟩, prog_19_method_4_code, 1, (Option.some FieldType.boolean), 16, 1),
  (⟨"java/lang/StringLatin1", "indexOfChar", "([BIII)I"⟩, prog_19_method_23_code, 6, (Option.some FieldType.int), 16, 4),
  (⟨"SlateHalves$Hill", "addStep", "(IIII)V"⟩, prog_5_method_5_code, 5, none, 6, 4),
  (⟨"SlateHalves", "told", "(I)I"⟩, prog_1_method_12_code, 2, (Option.some FieldType.int), 1, 1),
  (⟨"SlateHalves", "bestOfAll", "(LSlateHalves$Yard;)I"⟩, prog_1_method_53_code, 4, (Option.some FieldType.int), 1, 1),
  (⟨"SlateHalves", "bestIn", "(LSlateHalves$Yard;LSlateHalves$Block;)I"⟩, prog_1_method_52_code, 3, (Option.some FieldType.int), 1, 2),
  (⟨"SlateHalves", "pass", "(I)I"⟩, prog_1_method_13_code, 2, (Option.some FieldType.int), 1, 1),
  (⟨"SlateHalves$Yard", "goDays", "(II)V"⟩, prog_12_method_5_code, 5, none, 3, 2),
  (⟨"SlateHalves", "on", "(II)I"⟩, prog_1_method_14_code, 5, (Option.some FieldType.int), 1, 2),
  (⟨"SlateHalves", "lookAhead", "(I)V"⟩, prog_1_method_54_code, 2, none, 1, 1),
  (⟨"SlateHalves$Yard", "copyFrom", "(LSlateHalves$Yard;)V"⟩, prog_12_method_6_code, 3, none, 3, 1),
  (⟨"SlateHalves", "lasts", "(I)I"⟩, prog_1_method_15_code, 3, (Option.some FieldType.int), 1, 1),
  (⟨"SlateHalves", "order", "(I)I"⟩, prog_1_method_16_code, 2, (Option.some FieldType.int), 1, 1),
  (⟨"SlateHalves", "planOrder", "()V"⟩, prog_1_method_17_code, 5, none, 1, 0),
  (⟨"java/lang/Integer", "bitCount", "(I)I"⟩, prog_16_method_49_code, 1, (Option.some FieldType.int), 18, 1),
  (⟨"SlateHalves$Planner", "plan", "(I)V"⟩, prog_7_method_2_code, 4, none, 10, 1),
  (⟨"SlateHalves$Planner", "mostOf", "(I)I"⟩, prog_7_method_3_code, 4, (Option.some FieldType.int), 10, 1),
  (⟨"SlateHalves$Planner", "sumWith", "(II)I"⟩, prog_7_method_5_code, 5, (Option.some FieldType.int), 10, 2),
  (⟨"SlateHalves$Planner", "firstOf", "(I)I"⟩, prog_7_method_4_code, 3, (Option.some FieldType.int), 10, 1),
  (⟨"SlateHalves", "loses", "(I)I"⟩, prog_1_method_18_code, 3, (Option.some FieldType.int), 1, 1),
  (⟨"SlateHalves", "lossOf", "(LSlateHalves$Block;)I"⟩, prog_1_method_19_code, 4, (Option.some FieldType.int), 1, 1),
  (⟨"SlateHalves", "worst", "()I"⟩, prog_1_method_20_code, 6, (Option.some FieldType.int), 1, 0),
  (⟨"SlateHalves", "see", "(IIZ)I"⟩, prog_1_method_21_code, 4, (Option.some FieldType.int), 1, 3),
  (⟨"SlateHalves$Rows", "addRow", "(III)I"⟩, prog_8_method_2_code, 4, (Option.some FieldType.int), 5, 3),
  (⟨"SlateHalves", "dryness", "(II)I"⟩, prog_1_method_22_code, 3, (Option.some FieldType.int), 1, 2),
  (⟨"SlateHalves", "fitting", "(IIIZ)I"⟩, prog_1_method_24_code, 9, (Option.some FieldType.int), 1, 4),
  (⟨"SlateHalves", "isAllSeenSo", "()Z"⟩, prog_1_method_25_code, 3, (Option.some FieldType.boolean), 1, 0),
  (⟨"SlateHalves", "can", "(II)I"⟩, prog_1_method_23_code, 3, (Option.some FieldType.int), 1, 2),
  (⟨"SlateHalves", "odds", "(II)J"⟩, prog_1_method_26_code, 6, (Option.some FieldType.long), 1, 2),
  (⟨"SlateHalves", "partOf", "(III)J"⟩, prog_1_method_48_code, 6, (Option.some FieldType.long), 1, 3),
  (⟨"SlateHalves", "mean", "(I)J"⟩, prog_1_method_27_code, 5, (Option.some FieldType.long), 1, 1),
  (⟨"SlateHalves", "week", "(II)I"⟩, prog_1_method_28_code, 3, (Option.some FieldType.int), 1, 2),
  (⟨"SlateHalves", "ends", "(I)I"⟩, prog_1_method_29_code, 4, (Option.some FieldType.int), 1, 1),
  (⟨"SlateHalves", "goRow", "(ILSlateHalves$Block;)I"⟩, prog_1_method_30_code, 4, (Option.some FieldType.int), 1, 2),
  (⟨"SlateHalves$Yard", "countPresent", "()I"⟩, prog_12_method_4_code, 3, (Option.some FieldType.int), 3, 0),
  (⟨"SlateHalves", "book", "(II)I"⟩, prog_1_method_31_code, 3, (Option.some FieldType.int), 1, 2),
  (⟨"SlateHalves", "looked", "()I"⟩, prog_1_method_32_code, 3, (Option.some FieldType.int), 1, 0),
  (⟨"SlateHalves", "judge", "(II)I"⟩, prog_1_method_33_code, 5, (Option.some FieldType.int), 1, 2),
  (⟨"SlateHalves$Tape", "isNothing", "()Z"⟩, prog_10_method_2_code, 1, (Option.some FieldType.boolean), 12, 0),
  (⟨"SlateHalves", "image", "()I"⟩, prog_1_method_34_code, 1, (Option.some FieldType.int), 1, 0),
  (⟨"SlateHalves$Scene", "copyFrom", "(LSlateHalves$Scene;)V"⟩, prog_9_method_2_code, 2, none, 2, 1),
  (⟨"SlateHalves$Rows", "copyFrom", "(LSlateHalves$Rows;)V"⟩, prog_8_method_3_code, 2, none, 5, 1),
  (⟨"SlateHalves", "undo", "()I"⟩, prog_1_method_35_code, 1, (Option.some FieldType.int), 1, 0),
  (⟨"SlateHalves", "act", "(III)I"⟩, prog_1_method_36_code, 5, (Option.some FieldType.int), 1, 3),
  (⟨"SlateHalves$Acts", "perform", "(LSlateHalves$Block;II)I"⟩, prog_2_method_2_code, 4, (Option.some FieldType.int), 11, 3),
  (⟨"SlateHalves$Acts", "ringsFrom", "(II)I"⟩, prog_2_method_4_code, 3, (Option.some FieldType.int), 11, 2),
  (⟨"SlateHalves$Acts", "begin", "(I)V"⟩, prog_2_method_3_code, 2, none, 11, 1),
  (⟨"SlateHalves$Acts", "splitsFrom", "(II)I"⟩, prog_2_method_5_code, 3, (Option.some FieldType.int), 11, 2),
  (⟨"SlateHalves$Acts", "tellsFrom", "(II)I"⟩, prog_2_method_6_code, 3, (Option.some FieldType.int), 11, 2),
  (⟨"SlateHalves", "trace", "(I)I"⟩, prog_1_method_37_code, 2, (Option.some FieldType.int), 1, 1),
  (⟨"SlateHalves", "taken", "(II)I"⟩, prog_1_method_38_code, 5, (Option.some FieldType.int), 1, 2),
  (⟨"SlateHalves", "count", "(I)I"⟩, prog_1_method_39_code, 2, (Option.some FieldType.int), 1, 1),
  (⟨"SlateHalves", "tape", "(III)I"⟩, prog_1_method_40_code, 4, (Option.some FieldType.int), 1, 3),
  (⟨"SlateHalves$Tape", "becomeNothing", "()V"⟩, prog_10_method_3_code, 1, none, 12, 0),
  (⟨"SlateHalves$Tape", "become", "(II)V"⟩, prog_10_method_4_code, 3, none, 12, 2),
  (⟨"java/util/Arrays", "fill", "([JJ)V"⟩, prog_22_method_101_code, 5, none, 13, 2),
  (⟨"SlateHalves", "item", "(IIJ)I"⟩, prog_1_method_41_code, 6, (Option.some FieldType.int), 1, 3),
  (⟨"SlateHalves$Tape", "fit", "(J)J"⟩, prog_10_method_5_code, 3, (Option.some FieldType.long), 12, 1),
  (⟨"SlateHalves", "read", "(II)J"⟩, prog_1_method_42_code, 3, (Option.some FieldType.long), 1, 2),
  (⟨"SlateHalves", "shift", "(IIIII)I"⟩, prog_1_method_43_code, 8, (Option.some FieldType.int), 1, 5),
  (⟨"SlateHalvesModel", "<init>", "()V"⟩, prog_14_method_1_code, 1, none, 19, 0),
  (⟨"SlateHalvesModel", "block", "(III)I"⟩, prog_14_method_8_code, 5, (Option.some FieldType.int), 19, 3),
  (⟨"SlateHalvesModel", "in", "(III)Z"⟩, prog_14_method_2_code, 4, (Option.some FieldType.boolean), 19, 3),
  (⟨"SlateHalvesModel", "dry", "(II)I"⟩, prog_14_method_9_code, 4, (Option.some FieldType.int), 19, 2),
  (⟨"SlateHalvesModel", "isBlock", "(I)Z"⟩, prog_14_method_6_code, 2, (Option.some FieldType.boolean), 19, 1),
  (⟨"SlateHalvesModel", "row", "(III)I"⟩, prog_14_method_10_code, 5, (Option.some FieldType.int), 19, 3),
  (⟨"SlateHalvesModel", "feed", "(I)I"⟩, prog_14_method_11_code, 2, (Option.some FieldType.int), 19, 1),
  (⟨"SlateHalvesModel", "hill", "()I"⟩, prog_14_method_26_code, 2, (Option.some FieldType.int), 19, 0),
  (⟨"SlateHalvesModel", "goesText", "(I)Z"⟩, prog_14_method_25_code, 3, (Option.some FieldType.boolean), 19, 1),
  (⟨"SlateHalvesModel", "takesClause", "(I)Z"⟩, prog_14_method_24_code, 2, (Option.some FieldType.boolean), 19, 1),
  (⟨"SlateHalvesModel", "takesHead", "(I)Z"⟩, prog_14_method_23_code, 2, (Option.some FieldType.boolean), 19, 1),
  (⟨"SlateHalvesModel", "next", "()I"⟩, prog_14_method_12_code, 1, (Option.some FieldType.int), 19, 0),
  (⟨"SlateHalvesModel", "takesWord", "(II)Z"⟩, prog_14_method_14_code, 4, (Option.some FieldType.boolean), 19, 2),
  (⟨"SlateHalvesModel", "takes", "(I)Z"⟩, prog_14_method_13_code, 2, (Option.some FieldType.boolean), 19, 1),
  (⟨"SlateHalvesModel", "takesNumber", "()Z"⟩, prog_14_method_16_code, 2, (Option.some FieldType.boolean), 19, 0),
  (⟨"SlateHalvesModel", "isDigit", "()Z"⟩, prog_14_method_15_code, 1, (Option.some FieldType.boolean), 19, 0),
  (⟨"SlateHalvesModel", "takesE", "(I)Z"⟩, prog_14_method_22_code, 4, (Option.some FieldType.boolean), 19, 1),
  (⟨"SlateHalvesModel", "takesTest", "()Z"⟩, prog_14_method_21_code, 3, (Option.some FieldType.boolean), 19, 0),
  (⟨"SlateHalvesModel", "place", "(I)I"⟩, prog_14_method_20_code, 2, (Option.some FieldType.int), 19, 1),
  (⟨"SlateHalvesModel", "emits", "(I)V"⟩, prog_14_method_17_code, 2, none, 19, 1),
  (⟨"SlateHalvesModel", "whole", "()V"⟩, prog_14_method_18_code, 1, none, 19, 0),
  (⟨"SlateHalvesModel", "settle", "(I)V"⟩, prog_14_method_19_code, 2, none, 19, 1),
  (⟨"SlateHalvesModel", "of", "(II)I"⟩, prog_14_method_45_code, 3, (Option.some FieldType.int), 19, 2),
  (⟨"SlateHalvesModel", "price", "(I)I"⟩, prog_14_method_34_code, 4, (Option.some FieldType.int), 19, 1),
  (⟨"SlateHalvesModel", "begin", "()I"⟩, prog_14_method_27_code, 1, (Option.some FieldType.int), 19, 0),
  (⟨"SlateHalvesModel", "behind", "()I"⟩, prog_14_method_28_code, 1, (Option.some FieldType.int), 19, 0),
  (⟨"SlateHalvesModel", "holds", "(II)Z"⟩, prog_14_method_33_code, 8, (Option.some FieldType.boolean), 19, 2),
  (⟨"SlateHalvesModel", "factOf", "(II)I"⟩, prog_14_method_32_code, 3, (Option.some FieldType.int), 19, 2),
  (⟨"SlateHalvesModel", "least0", "(I)I"⟩, prog_14_method_4_code, 2, (Option.some FieldType.int), 19, 1),
  (⟨"SlateHalvesModel", "grip", "(I)I"⟩, prog_14_method_35_code, 3, (Option.some FieldType.int), 19, 1),
  (⟨"SlateHalvesModel", "dries", "(I)I"⟩, prog_14_method_38_code, 3, (Option.some FieldType.int), 19, 1),
  (⟨"SlateHalvesModel", "lastOf", "(II)I"⟩, prog_14_method_29_code, 5, (Option.some FieldType.int), 19, 2),
  (⟨"SlateHalvesModel", "worthOf", "(II)I"⟩, prog_14_method_39_code, 3, (Option.some FieldType.int), 19, 2),
  (⟨"SlateHalvesModel", "thin", "()I"⟩, prog_14_method_30_code, 1, (Option.some FieldType.int), 19, 0),
  (⟨"SlateHalvesModel", "greater", "(II)I"⟩, prog_14_method_5_code, 3, (Option.some FieldType.int), 19, 2),
  (⟨"SlateHalvesModel", "most", "()I"⟩, prog_14_method_31_code, 1, (Option.some FieldType.int), 19, 0),
  (⟨"SlateHalvesModel", "laid", "(II)I"⟩, prog_14_method_44_code, 4, (Option.some FieldType.int), 19, 2),
  (⟨"SlateHalvesModel", "lay", "(I)V"⟩, prog_14_method_41_code, 9, none, 19, 1),
  (⟨"SlateHalvesModel", "isClean", "(III)Z"⟩, prog_14_method_37_code, 5, (Option.some FieldType.boolean), 19, 3),
  (⟨"SlateHalvesModel", "isNear", "(III)Z"⟩, prog_14_method_36_code, 5, (Option.some FieldType.boolean), 19, 3),
  (⟨"SlateHalvesModel", "layBlow", "(III)V"⟩, prog_14_method_40_code, 9, none, 19, 3),
  (⟨"SlateHalvesModel", "blow", "(I)I"⟩, prog_14_method_43_code, 4, (Option.some FieldType.int), 19, 1),
  (⟨"SlateHalvesModel", "told", "(I)I"⟩, prog_14_method_47_code, 2, (Option.some FieldType.int), 19, 1),
  (⟨"SlateHalvesModel", "allBest", "()I"⟩, prog_14_method_46_code, 3, (Option.some FieldType.int), 19, 0),
  (⟨"SlateHalvesModel", "best", "(I)I"⟩, prog_14_method_42_code, 2, (Option.some FieldType.int), 19, 1),
  (⟨"SlateHalvesModel", "strike", "(II)I"⟩, prog_14_method_48_code, 6, (Option.some FieldType.int), 19, 2),
  (⟨"SlateHalvesModel", "clean", "(III)I"⟩, prog_14_method_49_code, 4, (Option.some FieldType.int), 19, 3),
  (⟨"SlateHalvesModel", "sell", "(I)I"⟩, prog_14_method_50_code, 3, (Option.some FieldType.int), 19, 1),
  (⟨"SlateHalvesModel", "pass", "(I)I"⟩, prog_14_method_53_code, 2, (Option.some FieldType.int), 19, 1),
  (⟨"SlateHalvesModel", "isDays", "(I)Z"⟩, prog_14_method_7_code, 2, (Option.some FieldType.boolean), 19, 1),
  (⟨"SlateHalvesModel", "goDays", "(I)V"⟩, prog_14_method_52_code, 3, none, 19, 1),
  (⟨"SlateHalvesModel", "goDay", "()V"⟩, prog_14_method_51_code, 3, none, 19, 0),
  (⟨"SlateHalvesModel", "on", "(II)I"⟩, prog_14_method_56_code, 4, (Option.some FieldType.int), 19, 2),
  (⟨"SlateHalvesModel", "save", "()V"⟩, prog_14_method_54_code, 2, none, 19, 0),
  (⟨"SlateHalvesModel", "putBack", "()V"⟩, prog_14_method_55_code, 2, none, 19, 0),
  (⟨"SlateHalvesModel", "lasts", "(I)I"⟩, prog_14_method_57_code, 4, (Option.some FieldType.int), 19, 1),
  (⟨"SlateHalvesModel", "order", "(I)I"⟩, prog_14_method_60_code, 7, (Option.some FieldType.int), 19, 1),
  (⟨"SlateHalvesModel", "layThen", "()V"⟩, prog_14_method_58_code, 3, none, 19, 0),
  (⟨"SlateHalvesModel", "layTurn", "(I)Z"⟩, prog_14_method_59_code, 5, (Option.some FieldType.boolean), 19, 1),
  (⟨"SlateHalvesModel", "has", "(II)Z"⟩, prog_14_method_3_code, 3, (Option.some FieldType.boolean), 19, 2),
  (⟨"SlateHalvesModel", "loses", "(I)I"⟩, prog_14_method_61_code, 2, (Option.some FieldType.int), 19, 1),
  (⟨"SlateHalvesModel", "worst", "()I"⟩, prog_14_method_62_code, 5, (Option.some FieldType.int), 19, 0),
  (⟨"SlateHalvesModel", "see", "(IIZ)I"⟩, prog_14_method_63_code, 4, (Option.some FieldType.int), 19, 3),
  (⟨"SlateHalvesModel", "dryness", "(II)I"⟩, prog_14_method_65_code, 7, (Option.some FieldType.int), 19, 2),
  (⟨"SlateHalvesModel", "isSeen", "(I)Z"⟩, prog_14_method_64_code, 3, (Option.some FieldType.boolean), 19, 1),
  (⟨"SlateHalvesModel", "can", "(II)I"⟩, prog_14_method_66_code, 7, (Option.some FieldType.int), 19, 2),
  (⟨"SlateHalvesModel", "odds", "(II)J"⟩, prog_14_method_69_code, 5, (Option.some FieldType.long), 19, 2),
  (⟨"SlateHalvesModel", "lowest", "(III)J"⟩, prog_14_method_68_code, 5, (Option.some FieldType.long), 19, 3),
  (⟨"SlateHalvesModel", "divisor", "(II)I"⟩, prog_14_method_67_code, 6, (Option.some FieldType.int), 19, 2),
  (⟨"SlateHalvesModel", "mean", "(I)J"⟩, prog_14_method_70_code, 5, (Option.some FieldType.long), 19, 1),
  (⟨"SlateHalvesModel", "week", "(II)I"⟩, prog_14_method_71_code, 3, (Option.some FieldType.int), 19, 2),
  (⟨"SlateHalvesModel", "ends", "(I)I"⟩, prog_14_method_72_code, 5, (Option.some FieldType.int), 19, 1),
  (⟨"SlateHalvesModel", "book", "(II)I"⟩, prog_14_method_73_code, 3, (Option.some FieldType.int), 19, 2),
  (⟨"SlateHalvesModel", "looked", "()I"⟩, prog_14_method_74_code, 2, (Option.some FieldType.int), 19, 0),
  (⟨"SlateHalvesModel", "judge", "(II)I"⟩, prog_14_method_75_code, 4, (Option.some FieldType.int), 19, 2),
  (⟨"SlateHalvesModel", "isTape", "(I)Z"⟩, prog_14_method_90_code, 2, (Option.some FieldType.boolean), 19, 1),
  (⟨"SlateHalvesModel", "image", "()I"⟩, prog_14_method_76_code, 2, (Option.some FieldType.int), 19, 0),
  (⟨"SlateHalvesModel", "undo", "()I"⟩, prog_14_method_77_code, 2, (Option.some FieldType.int), 19, 0),
  (⟨"SlateHalvesModel", "act", "(III)I"⟩, prog_14_method_86_code, 4, (Option.some FieldType.int), 19, 3),
  (⟨"SlateHalvesModel", "ringsAct", "(II)I"⟩, prog_14_method_80_code, 3, (Option.some FieldType.int), 19, 2),
  (⟨"SlateHalvesModel", "body", "(I)V"⟩, prog_14_method_78_code, 2, none, 19, 1),
  (⟨"SlateHalvesModel", "blockRings", "(II)I"⟩, prog_14_method_79_code, 3, (Option.some FieldType.int), 19, 2),
  (⟨"SlateHalvesModel", "splitsAct", "(II)I"⟩, prog_14_method_83_code, 4, (Option.some FieldType.int), 19, 2),
  (⟨"SlateHalvesModel", "fineSplits", "(II)I"⟩, prog_14_method_82_code, 3, (Option.some FieldType.int), 19, 2),
  (⟨"SlateHalvesModel", "blockSplits", "(II)I"⟩, prog_14_method_81_code, 3, (Option.some FieldType.int), 19, 2),
  (⟨"SlateHalvesModel", "tellsAct", "(II)I"⟩, prog_14_method_85_code, 4, (Option.some FieldType.int), 19, 2),
  (⟨"SlateHalvesModel", "blockTells", "(II)I"⟩, prog_14_method_84_code, 3, (Option.some FieldType.int), 19, 2),
  (⟨"SlateHalvesModel", "trace", "(I)I"⟩, prog_14_method_87_code, 2, (Option.some FieldType.int), 19, 1),
  (⟨"SlateHalvesModel", "taken", "(II)I"⟩, prog_14_method_88_code, 4, (Option.some FieldType.int), 19, 2),
  (⟨"SlateHalvesModel", "count", "(I)I"⟩, prog_14_method_89_code, 2, (Option.some FieldType.int), 19, 1),
  (⟨"SlateHalvesModel", "tape", "(III)I"⟩, prog_14_method_91_code, 5, (Option.some FieldType.int), 19, 3),
  (⟨"SlateHalvesModel", "item", "(IIJ)I"⟩, prog_14_method_93_code, 5, (Option.some FieldType.int), 19, 3),
  (⟨"SlateHalvesModel", "narrow", "(IJ)J"⟩, prog_14_method_92_code, 4, (Option.some FieldType.long), 19, 2),
  (⟨"SlateHalvesModel", "read", "(II)J"⟩, prog_14_method_94_code, 3, (Option.some FieldType.long), 19, 2),
  (⟨"SlateHalvesModel", "shift", "(IIIII)I"⟩, prog_14_method_95_code, 7, (Option.some FieldType.int), 19, 5)]
def zown : List String := ["SlateHalvesLaw", "SlateHalves", "SlateHalves$Scene", "SlateHalves$Yard", "SlateHalves$Block", "SlateHalves$Rows", "SlateHalves$Hill", "SlateHalves$HillReader", "SlateHalves$Blows", "SlateHalves$Valuer", "SlateHalves$Planner", "SlateHalves$Acts", "SlateHalves$Tape", "java/util/Arrays", "java/lang/Math", "java/lang/String", "java/lang/StringLatin1", "jdk/internal/util/Preconditions", "java/lang/Integer", "SlateHalvesModel"]
/-- links: (class number, index, kind, a, b, place of the word in lw_tbl) -/
def zlks : List (List (Nat × Nat × Nat × Nat × Nat)) := [
  [(7, 6, 11, 0, 115), (9, 2, 1, 0, 117), (10, 6, 12, 0, 1087), (12, 2, 145, 0, 1089), (13, 2, 13, 3, 469), (17, 2, 146, 3, 1320), (18, 2, 18, 2, 487), (22, 2, 167, 2, 1404), (23, 2, 48, 2, 610), (26, 2, 148, 2, 1328), (27, 2, 49, 3, 614), (30, 2, 150, 3, 1336), (31, 2, 50, 2, 618), (34, 2, 190, 2, 1496), (35, 2, 54, 3, 639), (38, 2, 191, 3, 1500), (39, 2, 56, 1, 646), (43, 2, 192, 1, 1504), (44, 2, 59, 1, 660), (47, 2, 151, 1, 1340), (48, 2, 60, 0, 664), (52, 2, 152, 0, 1344), (53, 2, 88, 1, 840), (56, 2, 187, 1, 1484), (57, 2, 91, 1, 854), (60, 2, 193, 1, 1509), (61, 2, 93, 2, 865), (64, 2, 197, 2, 1525), (65, 2, 96, 1, 878), (68, 2, 200, 1, 1537), (69, 2, 97, 1, 883), (72, 2, 201, 1, 1542), (73, 2, 104, 1, 917), (76, 2, 205, 1, 1558), (77, 2, 106, 0, 925), (80, 2, 206, 0, 1563), (81, 2, 107, 3, 929), (85, 2, 207, 3, 1568), (86, 2, 109, 2, 937), (89, 2, 208, 2, 1572), (90, 2, 112, 2, 950), (93, 2, 210, 2, 1580), (94, 2, 113, 2, 954), (98, 2, 211, 2, 1584), (99, 2, 115, 1, 962), (103, 2, 214, 1, 1597), (104, 2, 116, 2, 966), (107, 2, 215, 2, 1601), (108, 2, 117, 1, 970), (111, 2, 216, 1, 1605), (112, 2, 120, 2, 982), (115, 2, 217, 2, 1609), (116, 2, 121, 0, 986), (119, 2, 218, 0, 1613), (120, 2, 122, 2, 990), (123, 2, 219, 2, 1617), (124, 2, 124, 0, 998), (127, 2, 221, 0, 1625), (128, 2, 127, 0, 1013), (131, 2, 222, 0, 1629), (132, 2, 128, 3, 1017), (135, 2, 223, 3, 1633), (136, 2, 134, 1, 1041), (139, 2, 232, 1, 1669), (140, 2, 135, 2, 1045), (143, 2, 233, 2, 1673), (144, 2, 136, 1, 1051), (147, 2, 234, 1, 1677), (148, 2, 137, 3, 1055), (151, 2, 235, 3, 1681), (154, 2, 141, 3, 1070), (158, 2, 236, 3, 1685), (159, 2, 143, 2, 1078), (162, 2, 238, 2, 1693), (163, 2, 144, 5, 1082), (167, 2, 239, 5, 1697)],
  [(3, 4, 0, 0, 120), (9, 6, 7, 0, 123), (11, 3, 2, 0, 125), (12, 0, 11, 0, 423), (18, 0, 11, 1, 424), (21, 0, 11, 2, 425), (25, 6, 10, 0, 251), (27, 2, 3, 0, 252), (28, 0, 11, 3, 426), (32, 0, 11, 4, 427), (36, 0, 11, 5, 428), (40, 6, 3, 24, 253), (42, 0, 11, 6, 429), (46, 0, 11, 7, 430), (49, 3, 6, 0, 256), (50, 0, 11, 8, 431), (54, 6, 4, 0, 281), (56, 3, 7, 0, 283), (57, 0, 11, 9, 432), (61, 6, 2, 0, 302), (63, 3, 8, 0, 304), (64, 0, 11, 10, 433), (68, 6, 9, 0, 322), (70, 3, 9, 0, 324), (71, 0, 11, 11, 434), (75, 6, 5, 0, 352), (77, 3, 10, 0, 354), (78, 0, 11, 12, 435), (82, 6, 0, 0, 378), (84, 3, 11, 0, 380), (85, 0, 11, 13, 436), (89, 6, 8, 25, 402), (91, 0, 11, 14, 437), (95, 3, 12, 0, 405), (96, 2, 14, 3, 473), (100, 0, 7, 0, 235), (103, 2, 15, 0, 476), (107, 2, 16, 3, 480), (113, 0, 1, 0, 144), (116, 2, 19, 1, 491), (120, 0, 1, 1, 149), (123, 0, 1, 2, 155), (126, 0, 1, 3, 158), (129, 0, 1, 4, 163), (132, 0, 1, 5, 167), (135, 2, 20, 0, 496), (139, 0, 10, 3, 194), (142, 2, 21, 2, 500), (146, 2, 25, 3, 513), (150, 0, 3, 4, 267), (153, 2, 26, 2, 517), (156, 2, 27, 2, 520), (159, 2, 28, 3, 524), (163, 2, 33, 1, 546), (167, 2, 34, 1, 550), (170, 2, 42, 1, 585), (173, 2, 45, 1, 597), (176, 2, 46, 1, 602), (179, 2, 47, 1, 606), (182, 0, 1, 6, 170), (186, 2, 51, 3, 622), (190, 2, 24, 2, 516), (196, 2, 53, 1, 632), (200, 2, 55, 2, 643), (204, 2, 57, 0, 650), (208, 2, 58, 2, 654), (213, 0, 10, 2, 192), (216, 2, 37, 2, 659), (219, 2, 61, 3, 668), (223, 0, 10, 4, 196), (226, 2, 31, 0, 844), (230, 2, 32, 0, 845), (233, 2, 89, 1, 846), (237, 2, 92, 2, 858), (241, 2, 94, 1, 869), (245, 2, 90, 2, 850), (249, 2, 98, 0, 887), (252, 0, 5, 3, 365), (255, 0, 5, 2, 363), (258, 0, 5, 1, 361), (261, 0, 10, 1, 190), (264, 0, 10, 0, 188), (268, 2, 99, 1, 891), (273, 0, 5, 0, 359), (276, 2, 100, 1, 897), (279, 2, 105, 1, 921), (283, 0, 7, 1, 237), (287, 0, 6, 4, 222), (292, 2, 108, 3, 933), (295, 2, 110, 4, 941), (299, 2, 29, 4, 945), (303, 2, 111, 0, 946), (306, 0, 6, 2, 218), (309, 0, 6, 1, 216), (312, 2, 41, 2, 631), (315, 0, 6, 3, 220), (320, 2, 52, 2, 626), (323, 2, 114, 3, 959), (327, 0, 7, 2, 239), (330, 2, 95, 1, 873), (333, 2, 118, 2, 974), (337, 2, 119, 0, 978), (340, 0, 7, 3, 241), (343, 2, 123, 0, 994), (346, 0, 8, 1, 412), (349, 0, 8, 2, 414), (350, 0, 8, 0, 410), (354, 2, 125, 1, 1002), (357, 0, 0, 1, 387), (360, 2, 129, 3, 1021), (364, 0, 0, 0, 385), (367, 1, 0, 0, 1049), (370, 2, 138, 0, 1059), (373, 2, 139, 2, 1063), (375, 2, 142, 1, 1074), (379, 5, 0, 0, 1086)],
  [(3, 4, 0, 0, 128), (9, 6, 10, 0, 129), (11, 2, 3, 0, 131), (12, 0, 7, 0, 234), (18, 6, 6, 0, 208), (20, 2, 5, 1, 210), (23, 0, 7, 1, 236), (27, 0, 7, 2, 238), (30, 0, 7, 3, 240), (33, 2, 95, 1, 1006), (37, 2, 126, 1, 1007)],
  [(3, 4, 0, 0, 134), (9, 6, 1, 26, 135), (11, 0, 10, 0, 187), (17, 0, 10, 1, 189), (21, 0, 10, 2, 191), (24, 0, 10, 3, 193), (27, 0, 10, 4, 195), (30, 2, 4, 1, 138), (33, 3, 14, 3, 495), (37, 2, 57, 0, 862), (41, 0, 1, 4, 164), (44, 3, 26, 2, 863), (48, 2, 37, 2, 864), (54, 2, 53, 1, 877)],
  [(3, 4, 0, 0, 141), (9, 0, 1, 6, 168), (15, 0, 1, 0, 142), (19, 0, 1, 3, 157), (22, 0, 1, 1, 147), (25, 0, 1, 2, 154), (28, 0, 1, 4, 162), (31, 0, 1, 5, 166), (34, 2, 17, 2, 484), (40, 5, 0, 0, 636)],
  [(3, 4, 0, 0, 213), (9, 0, 6, 4, 221), (15, 0, 6, 0, 214), (18, 0, 6, 1, 215), (22, 0, 6, 2, 217), (25, 0, 6, 3, 219), (28, 2, 37, 2, 1011), (34, 5, 0, 0, 1012)],
  [(3, 4, 0, 0, 259), (9, 0, 3, 0, 260), (15, 0, 3, 1, 261), (19, 0, 3, 2, 262), (22, 0, 3, 3, 264), (25, 0, 3, 4, 266), (28, 2, 24, 2, 510), (34, 2, 31, 0, 544), (38, 2, 22, 3, 504), (42, 2, 23, 3, 507), (46, 0, 1, 0, 145), (51, 0, 1, 1, 150), (54, 0, 1, 2, 156), (57, 0, 1, 3, 159), (58, 0, 1, 4, 165)],
  [(1, 4, 0, 0, 286), (7, 0, 4, 0, 289), (13, 0, 4, 1, 290), (17, 0, 4, 2, 291), (20, 6, 3, 24, 287), (22, 3, 6, 0, 288), (23, 0, 4, 3, 292), (27, 2, 37, 2, 672), (33, 2, 62, 0, 673), (36, 2, 63, 0, 677), (40, 2, 74, 1, 746), (44, 2, 75, 0, 750), (48, 2, 64, 0, 681), (51, 2, 76, 0, 754), (54, 2, 77, 1, 759), (57, 2, 87, 4, 836), (61, 0, 3, 2, 263), (64, 0, 3, 3, 265), (67, 0, 3, 4, 268), (70, 9, 0, 0, 688), (72, 9, 1, 0, 689), (74, 9, 2, 0, 690), (75, 9, 3, 0, 691), (76, 9, 4, 0, 692), (77, 2, 65, 1, 685), (81, 2, 66, 1, 693), (85, 2, 67, 0, 697), (89, 2, 24, 2, 745), (92, 2, 69, 1, 707), (96, 3, 14, 3, 758), (102, 2, 78, 1, 763), (105, 2, 79, 1, 767), (108, 2, 80, 0, 771), (111, 9, 5, 0, 775), (113, 2, 81, 1, 776), (116, 9, 6, 0, 835), (118, 2, 82, 1, 780)],
  [(3, 4, 0, 0, 307), (9, 0, 2, 3, 311), (15, 0, 1, 2, 151), (20, 0, 1, 4, 160), (23, 2, 29, 4, 630), (27, 0, 1, 1, 148), (30, 0, 2, 0, 308), (31, 3, 25, 3, 532), (35, 0, 2, 1, 309), (38, 0, 1, 6, 169), (42, 2, 30, 2, 533), (48, 0, 2, 2, 310), (51, 2, 24, 2, 575), (54, 2, 37, 2, 570)],
  [(3, 4, 0, 0, 327), (9, 6, 2, 0, 328), (11, 3, 8, 0, 329), (12, 0, 9, 0, 330), (18, 0, 9, 1, 331), (22, 0, 9, 2, 332), (25, 0, 1, 2, 152), (31, 0, 1, 4, 161), (34, 2, 29, 4, 528), (38, 2, 31, 0, 536), (44, 0, 9, 3, 333), (47, 2, 32, 0, 540), (50, 0, 9, 4, 334), (53, 2, 21, 2, 545), (57, 0, 9, 5, 335), (60, 0, 9, 6, 336), (63, 2, 35, 1, 554), (67, 2, 36, 1, 558), (71, 2, 34, 1, 601), (74, 2, 33, 1, 565), (77, 2, 43, 1, 589), (80, 2, 44, 3, 593), (84, 2, 37, 2, 561), (90, 2, 24, 2, 564), (93, 2, 38, 1, 566), (96, 2, 39, 1, 571), (99, 2, 40, 2, 576), (102, 0, 2, 3, 312), (105, 3, 14, 3, 580), (109, 2, 41, 2, 581)],
  [(3, 4, 0, 0, 357), (9, 0, 5, 0, 358), (15, 0, 5, 1, 360), (18, 0, 5, 2, 362), (22, 0, 5, 3, 364), (25, 0, 5, 4, 366), (28, 2, 99, 1, 901), (34, 2, 37, 2, 902), (40, 2, 101, 1, 903), (43, 2, 103, 1, 913), (46, 2, 102, 2, 907), (49, 2, 24, 2, 912), (52, 3, 14, 3, 911)],
  [(3, 4, 0, 0, 383), (9, 0, 0, 0, 384), (15, 0, 0, 1, 386), (19, 0, 1, 1, 146), (24, 0, 0, 2, 388), (25, 0, 1, 2, 153), (28, 0, 0, 3, 389), (29, 0, 1, 0, 143), (32, 0, 0, 4, 390), (33, 2, 130, 2, 1025), (37, 2, 132, 2, 1033), (40, 2, 133, 2, 1037), (43, 2, 131, 1, 1029)],
  [(3, 4, 0, 0, 408), (9, 0, 8, 0, 409), (15, 0, 8, 1, 411), (19, 0, 8, 2, 413), (22, 2, 140, 2, 1067)],
  [],
  [],
  [(9, 0, 13, 0, 1702), (15, 0, 13, 1, 1703), (38, 1, 1, 0, 705), (335, 2, 68, 0, 701), (492, 2, 70, 0, 711), (495, 2, 71, 2, 715), (505, 2, 67, 0, 788), (633, 2, 83, 2, 784), (637, 2, 84, 4, 789), (1053, 1, 2, 0, 721), (1059, 2, 73, 3, 723)],
  [(9, 2, 72, 2, 718), (38, 2, 37, 2, 796), (88, 2, 85, 1, 792), (92, 2, 24, 2, 795), (95, 2, 86, 4, 797)],
  [],
  [],
  [(1, 4, 0, 0, 1092), (7, 0, 12, 0, 1093), (13, 0, 12, 1, 1094), (16, 0, 12, 2, 1095), (19, 0, 12, 3, 1096), (23, 0, 12, 4, 1097), (26, 0, 12, 5, 1098), (29, 0, 12, 6, 1099), (32, 0, 12, 7, 1100), (35, 0, 12, 8, 1101), (38, 0, 12, 9, 1102), (41, 0, 12, 10, 1103), (44, 0, 12, 11, 1104), (47, 0, 12, 12, 1105), (50, 0, 12, 13, 1106), (53, 0, 12, 14, 1107), (56, 0, 12, 15, 1108), (59, 0, 12, 16, 1109), (62, 0, 12, 17, 1110), (65, 0, 12, 18, 1111), (68, 0, 12, 19, 1112), (71, 0, 12, 20, 1113), (74, 0, 12, 21, 1114), (77, 0, 12, 22, 1115), (80, 0, 12, 23, 1116), (83, 0, 12, 24, 1117), (86, 0, 12, 25, 1118), (89, 0, 12, 26, 1119), (93, 0, 12, 27, 1120), (96, 0, 12, 28, 1121), (99, 0, 12, 29, 1122), (102, 0, 12, 30, 1123), (105, 0, 12, 31, 1124), (108, 0, 12, 32, 1125), (111, 0, 12, 33, 1126), (114, 0, 12, 34, 1127), (117, 0, 12, 35, 1128), (120, 0, 12, 36, 1129), (123, 0, 12, 37, 1130), (126, 0, 12, 38, 1131), (129, 0, 12, 39, 1132), (132, 0, 12, 40, 1133), (135, 0, 12, 41, 1134), (138, 0, 12, 42, 1135), (141, 0, 12, 43, 1136), (144, 0, 12, 44, 1137), (147, 0, 12, 45, 1138), (150, 0, 12, 46, 1139), (153, 0, 12, 47, 1140), (156, 0, 12, 48, 1141), (160, 0, 12, 49, 1142), (163, 0, 12, 50, 1143), (166, 0, 12, 51, 1144), (169, 0, 12, 52, 1145), (172, 0, 12, 53, 1146), (175, 0, 12, 54, 1147), (178, 0, 12, 55, 1148), (181, 0, 12, 56, 1149), (184, 0, 12, 57, 1150), (187, 0, 12, 58, 1151), (190, 0, 12, 59, 1152), (193, 0, 12, 60, 1153), (196, 0, 12, 61, 1154), (199, 0, 12, 62, 1155), (202, 0, 12, 63, 1156), (205, 0, 12, 64, 1157), (208, 0, 12, 65, 1158), (211, 0, 12, 66, 1159), (214, 0, 12, 67, 1160), (217, 0, 12, 68, 1161), (220, 0, 12, 69, 1162), (223, 0, 12, 70, 1163), (226, 0, 12, 71, 1164), (229, 0, 12, 72, 1165), (232, 0, 12, 73, 1166), (236, 0, 12, 74, 1167), (239, 2, 147, 3, 1324), (243, 2, 149, 1, 1332), (247, 2, 156, 0, 1360), (251, 2, 158, 1, 1368), (254, 2, 160, 0, 1376), (258, 2, 164, 1, 1392), (262, 2, 163, 1, 1388), (266, 2, 159, 0, 1372), (269, 2, 165, 0, 1396), (272, 2, 162, 0, 1384), (275, 2, 166, 1, 1400), (278, 2, 157, 2, 1364), (282, 2, 155, 1, 1356), (285, 2, 161, 1, 1380), (288, 2, 154, 1, 1352), (291, 2, 153, 1, 1348), (294, 2, 169, 0, 1412), (297, 2, 170, 0, 1416), (300, 2, 176, 2, 1440), (304, 2, 179, 2, 1452), (307, 2, 178, 0, 1448), (310, 2, 172, 2, 1424), (313, 2, 171, 2, 1420), (316, 2, 173, 1, 1428), (319, 2, 174, 1, 1432), (322, 2, 184, 3, 1472), (325, 2, 180, 0, 1456), (328, 2, 168, 1, 1408), (331, 2, 183, 3, 1468), (334, 2, 185, 3, 1476), (338, 2, 182, 1, 1464), (341, 2, 175, 1, 1436), (344, 2, 177, 2, 1444), (347, 2, 181, 2, 1460), (350, 2, 186, 1, 1480), (353, 2, 189, 1, 1492), (356, 2, 188, 0, 1488), (360, 2, 196, 0, 1521), (363, 2, 194, 1, 1513), (366, 2, 195, 1, 1517), (369, 2, 198, 0, 1529), (372, 2, 199, 0, 1533), (376, 2, 204, 2, 1554), (379, 2, 202, 0, 1546), (382, 2, 203, 1, 1550), (385, 2, 197, 2, 1562), (388, 2, 205, 1, 1567), (391, 2, 209, 1, 1576), (394, 2, 213, 2, 1593), (399, 2, 212, 3, 1589), (403, 2, 220, 1, 1621), (406, 2, 225, 1, 1641), (409, 2, 226, 2, 1645), (412, 2, 224, 2, 1637), (415, 2, 229, 2, 1657), (418, 2, 228, 2, 1653), (421, 2, 227, 2, 1649), (424, 2, 231, 2, 1665), (427, 2, 230, 2, 1661), (430, 2, 237, 2, 1689)]]
def zkis : List (List (Nat × Int32 × Nat)) := [[], [(212, 999999, 658), (248, 99999, 882)], [], [], [], [], [], [], [], [], [], [], [], [], [], [], [], [], [(265, 1431655765, 894), (266, 858993459, 895), (267, 252645135, 896)], [(359, 999999, 1508), (375, 99999, 1541)]]
def zkls : List (List (Nat × Int64 × Nat)) := [[(152, 4294967295, 1701)], [(318, (-9223372036854775808), 958)], [], [], [], [], [], [], [], [], [], [], [], [], [], [], [], [], [], [(397, (-9223372036854775808), 1588)]]
/-- the words of a method: places of static|instanceMethod, selects (0 for a static or a constructor), initialized, code -/
def zmw : List (Nat × Nat × Nat × Nat × Nat) := [
  (2, 0, 0, 0, 0),
  (2, 118, 0, 93, 119),
  (2, 126, 0, 94, 127),
  (2, 132, 0, 95, 133),
  (2, 139, 0, 96, 140),
  (2, 211, 0, 97, 212),
  (2, 257, 0, 98, 258),
  (2, 284, 0, 99, 285),
  (2, 305, 0, 100, 306),
  (2, 325, 0, 101, 326),
  (2, 355, 0, 102, 356),
  (2, 381, 0, 103, 382),
  (2, 406, 0, 104, 407),
  (0, 470, 471, 93, 472),
  (1, 474, 0, 93, 475),
  (0, 477, 478, 95, 479),
  (0, 481, 482, 96, 483),
  (1, 485, 0, 106, 486),
  (0, 488, 489, 93, 490),
  (0, 492, 493, 95, 494),
  (0, 498, 0, 93, 499),
  (0, 501, 502, 98, 503),
  (1, 505, 0, 98, 506),
  (1, 508, 0, 98, 509),
  (1, 511, 0, 107, 512),
  (1, 514, 0, 93, 515),
  (1, 518, 0, 93, 519),
  (0, 522, 1, 93, 523),
  (0, 525, 526, 101, 527),
  (0, 529, 530, 100, 531),
  (1, 534, 0, 107, 535),
  (0, 537, 538, 98, 539),
  (0, 541, 542, 98, 543),
  (0, 547, 548, 101, 549),
  (0, 551, 552, 101, 553),
  (0, 556, 2, 101, 557),
  (1, 559, 0, 101, 560),
  (1, 562, 0, 107, 563),
  (0, 567, 568, 100, 569),
  (0, 572, 573, 100, 574),
  (0, 578, 3, 101, 579),
  (0, 582, 583, 100, 584),
  (0, 586, 587, 101, 588),
  (0, 591, 4, 101, 592),
  (0, 595, 5, 101, 596),
  (0, 598, 599, 101, 600),
  (0, 603, 604, 101, 605),
  (0, 607, 608, 101, 609),
  (0, 611, 612, 93, 613),
  (0, 615, 616, 93, 617),
  (0, 619, 620, 93, 621),
  (0, 624, 6, 93, 625),
  (0, 627, 628, 100, 629),
  (0, 633, 634, 96, 635),
  (0, 640, 641, 93, 642),
  (1, 644, 0, 93, 645),
  (0, 647, 648, 93, 649),
  (0, 651, 652, 96, 653),
  (0, 656, 7, 93, 657),
  (0, 661, 662, 93, 663),
  (0, 665, 666, 93, 667),
  (0, 669, 670, 99, 671),
  (0, 674, 675, 98, 676),
  (0, 679, 8, 99, 680),
  (0, 683, 9, 99, 684),
  (1, 686, 0, 99, 687),
  (0, 695, 10, 99, 696),
  (0, 698, 699, 109, 700),
  (0, 702, 703, 109, 704),
  (0, 708, 709, 109, 710),
  (0, 712, 713, 109, 714),
  (1, 716, 0, 110, 717),
  (1, 719, 0, 109, 720),
  (1, 724, 0, 111, 725),
  (0, 748, 11, 99, 749),
  (0, 752, 12, 99, 753),
  (0, 756, 13, 99, 757),
  (0, 761, 14, 99, 762),
  (0, 765, 15, 99, 766),
  (0, 769, 16, 99, 770),
  (0, 773, 17, 99, 774),
  (0, 778, 18, 99, 779),
  (0, 781, 782, 109, 783),
  (0, 785, 786, 109, 787),
  (1, 790, 0, 110, 791),
  (1, 793, 0, 110, 794),
  (1, 798, 0, 110, 799),
  (0, 837, 838, 98, 839),
  (0, 841, 842, 93, 843),
  (0, 848, 19, 93, 849),
  (0, 852, 20, 93, 853),
  (0, 855, 856, 93, 857),
  (0, 859, 860, 95, 861),
  (0, 866, 867, 93, 868),
  (0, 871, 21, 93, 872),
  (0, 874, 875, 95, 876),
  (0, 879, 880, 93, 881),
  (0, 884, 885, 93, 886),
  (0, 889, 22, 93, 890),
  (1, 892, 0, 114, 893),
  (0, 898, 899, 102, 900),
  (0, 905, 23, 102, 906),
  (0, 909, 24, 102, 910),
  (0, 915, 25, 102, 916),
  (0, 918, 919, 93, 920),
  (0, 923, 26, 93, 924),
  (0, 926, 927, 93, 928),
  (0, 930, 931, 93, 932),
  (0, 934, 935, 97, 936),
  (0, 938, 939, 93, 940),
  (0, 943, 27, 93, 944),
  (0, 948, 28, 93, 949),
  (0, 951, 952, 93, 953),
  (0, 955, 956, 93, 957),
  (1, 960, 0, 93, 961),
  (0, 963, 964, 93, 965),
  (0, 967, 968, 93, 969),
  (0, 971, 972, 93, 973),
  (0, 976, 29, 93, 977),
  (0, 979, 980, 95, 981),
  (0, 983, 984, 93, 985),
  (0, 987, 988, 93, 989),
  (0, 991, 992, 93, 993),
  (0, 995, 996, 104, 997),
  (0, 999, 1000, 93, 1001),
  (0, 1003, 1004, 94, 1005),
  (0, 1008, 1009, 97, 1010),
  (0, 1014, 1015, 93, 1016),
  (0, 1018, 1019, 93, 1020),
  (0, 1022, 1023, 103, 1024),
  (0, 1027, 30, 103, 1028),
  (0, 1031, 31, 103, 1032),
  (0, 1035, 32, 103, 1036),
  (0, 1039, 33, 103, 1040),
  (0, 1042, 1043, 93, 1044),
  (0, 1046, 1047, 93, 1048),
  (0, 1052, 1053, 93, 1054),
  (0, 1056, 1057, 93, 1058),
  (0, 1060, 1061, 104, 1062),
  (0, 1064, 1065, 104, 1066),
  (1, 1068, 0, 106, 1069),
  (0, 1071, 1072, 93, 1073),
  (0, 1075, 1076, 104, 1077),
  (0, 1079, 1080, 93, 1081),
  (0, 1083, 1084, 93, 1085),
  (2, 1090, 0, 105, 1091),
  (0, 1321, 1322, 105, 1323),
  (0, 1326, 34, 105, 1327),
  (0, 1329, 1330, 105, 1331),
  (0, 1334, 35, 105, 1335),
  (0, 1337, 1338, 105, 1339),
  (0, 1341, 1342, 105, 1343),
  (0, 1345, 1346, 105, 1347),
  (0, 1350, 36, 105, 1351),
  (0, 1354, 37, 105, 1355),
  (0, 1358, 38, 105, 1359),
  (0, 1362, 39, 105, 1363),
  (0, 1366, 40, 105, 1367),
  (0, 1370, 41, 105, 1371),
  (0, 1374, 42, 105, 1375),
  (0, 1378, 43, 105, 1379),
  (0, 1382, 44, 105, 1383),
  (0, 1386, 45, 105, 1387),
  (0, 1390, 46, 105, 1391),
  (0, 1394, 47, 105, 1395),
  (0, 1398, 48, 105, 1399),
  (0, 1402, 49, 105, 1403),
  (0, 1405, 1406, 105, 1407),
  (0, 1410, 50, 105, 1411),
  (0, 1414, 51, 105, 1415),
  (0, 1418, 52, 105, 1419),
  (0, 1422, 53, 105, 1423),
  (0, 1426, 54, 105, 1427),
  (0, 1430, 55, 105, 1431),
  (0, 1434, 56, 105, 1435),
  (0, 1438, 57, 105, 1439),
  (0, 1442, 58, 105, 1443),
  (0, 1446, 59, 105, 1447),
  (0, 1450, 60, 105, 1451),
  (0, 1454, 61, 105, 1455),
  (0, 1458, 62, 105, 1459),
  (0, 1462, 63, 105, 1463),
  (0, 1466, 64, 105, 1467),
  (0, 1470, 65, 105, 1471),
  (0, 1474, 66, 105, 1475),
  (0, 1478, 67, 105, 1479),
  (0, 1482, 68, 105, 1483),
  (0, 1485, 1486, 105, 1487),
  (0, 1490, 69, 105, 1491),
  (0, 1494, 70, 105, 1495),
  (0, 1497, 1498, 105, 1499),
  (0, 1501, 1502, 105, 1503),
  (0, 1505, 1506, 105, 1507),
  (0, 1510, 1511, 105, 1512),
  (0, 1515, 71, 105, 1516),
  (0, 1519, 72, 105, 1520),
  (0, 1523, 73, 105, 1524),
  (0, 1526, 1527, 105, 1528),
  (0, 1531, 74, 105, 1532),
  (0, 1535, 75, 105, 1536),
  (0, 1538, 1539, 105, 1540),
  (0, 1543, 1544, 105, 1545),
  (0, 1548, 76, 105, 1549),
  (0, 1552, 77, 105, 1553),
  (0, 1556, 78, 105, 1557),
  (0, 1559, 1560, 105, 1561),
  (0, 1564, 1565, 105, 1566),
  (0, 1569, 1570, 105, 1571),
  (0, 1573, 1574, 105, 1575),
  (0, 1578, 79, 105, 1579),
  (0, 1581, 1582, 105, 1583),
  (0, 1585, 1586, 105, 1587),
  (0, 1591, 80, 105, 1592),
  (0, 1595, 81, 105, 1596),
  (0, 1598, 1599, 105, 1600),
  (0, 1602, 1603, 105, 1604),
  (0, 1606, 1607, 105, 1608),
  (0, 1610, 1611, 105, 1612),
  (0, 1614, 1615, 105, 1616),
  (0, 1618, 1619, 105, 1620),
  (0, 1623, 82, 105, 1624),
  (0, 1626, 1627, 105, 1628),
  (0, 1630, 1631, 105, 1632),
  (0, 1634, 1635, 105, 1636),
  (0, 1639, 83, 105, 1640),
  (0, 1643, 84, 105, 1644),
  (0, 1647, 85, 105, 1648),
  (0, 1651, 86, 105, 1652),
  (0, 1655, 87, 105, 1656),
  (0, 1659, 88, 105, 1660),
  (0, 1663, 89, 105, 1664),
  (0, 1667, 90, 105, 1668),
  (0, 1670, 1671, 105, 1672),
  (0, 1674, 1675, 105, 1676),
  (0, 1678, 1679, 105, 1680),
  (0, 1682, 1683, 105, 1684),
  (0, 1686, 1687, 105, 1688),
  (0, 1691, 91, 105, 1692),
  (0, 1694, 1695, 105, 1696),
  (0, 1698, 1699, 105, 1700)]
def zcw : List (Nat × Nat) := [(379, 103), (137, 96), (303, 100), (255, 98), (282, 99), (353, 102), (209, 97), (124, 94), (404, 104), (323, 101), (130, 95), (116, 93), (1088, 105)]
def zstr : List (Nat × Nat × String) := [(7, 70, "dear"), (7, 72, "cheap"), (7, 74, "thin"), (7, 75, "thick"), (7, 76, "wind"), (7, 111, "bkvtdy"), (7, 116, "<=>")]
/-- nest links: own, index, callee, host -/
def znest : List (String × Nat × Nat × String) := [("SlateHalves", 11, 2, "SlateHalves"), ("SlateHalves", 49, 6, "SlateHalves"), ("SlateHalves", 56, 7, "SlateHalves"), ("SlateHalves$HillReader", 22, 6, "SlateHalves"), ("SlateHalves", 63, 8, "SlateHalves"), ("SlateHalves", 70, 9, "SlateHalves"), ("SlateHalves$Valuer", 11, 8, "SlateHalves"), ("SlateHalves", 77, 10, "SlateHalves"), ("SlateHalves", 84, 11, "SlateHalves"), ("SlateHalves", 95, 12, "SlateHalves"), ("SlateHalves$Yard", 33, 14, "SlateHalves"), ("SlateHalves$Blows", 31, 25, "SlateHalves"), ("SlateHalves$Valuer", 105, 14, "SlateHalves"), ("SlateHalves$HillReader", 96, 14, "SlateHalves"), ("SlateHalves$Yard", 44, 26, "SlateHalves"), ("SlateHalves$Planner", 52, 14, "SlateHalves")]
end
section
/-! what the kernel checks of the tables, once -/
def zln : Instr → Option Nat
  | .tableswitch _ _ _ _ => none
  | .lookupswitch _ _ => none
  | .iload _ => some 2
  | .lload _ => some 2
  | .aload _ => some 2
  | .istore _ => some 2
  | .astore _ => some 2
  | .bipush _ => some 2
  | .ldc _ => some 2
  | .newarray _ => some 2
  | .sipush _ => some 3
  | .ldc_w _ => some 3
  | .ldc2_w _ => some 3
  | .iinc _ _ => some 3
  | .goto _ => some 3
  | .ifCond _ _ => some 3
  | .if_icmp _ _ => some 3
  | .ifnull _ => some 3
  | .ifnonnull _ => some 3
  | .getfield _ => some 3
  | .putfield _ => some 3
  | .getstatic _ => some 3
  | .invokevirtual _ => some 3
  | .invokestatic _ => some 3
  | .invokespecial _ => some 3
  | .new _ => some 3
  | .anewarray _ => some 3
  | _ => some 1
def zdk (b : ByteArray) (e : Nat × Instr) : Bool := match decode b e.1 with
  | .ok (i, n) => decide (i = e.2) && (match zln i with
    | none => true
    | some n' => n == n')
  | .error _ => false
theorem zall_join {α : Type} (p : α → Bool) (l : List α) (a n : Nat) (h1 : ((l.drop a).take n).all p = true) (h2 : (l.drop (a + n)).all p = true) : (l.drop a).all p = true := by
  rw [← List.take_append_drop n (l.drop a), List.all_append, h1, Bool.true_and, List.drop_drop]
  exact h2
theorem zd_0_0 : ((zt_0.drop 0).take 60).all (zdk code) = true := by decide +kernel
theorem zd_0_60 : ((zt_0.drop 60).take 60).all (zdk code) = true := by decide +kernel
theorem zd_0_120 : ((zt_0.drop 120).take 60).all (zdk code) = true := by decide +kernel
theorem zd_0_180 : ((zt_0.drop 180).take 60).all (zdk code) = true := by decide +kernel
theorem zd_0_240 : ((zt_0.drop 240).take 60).all (zdk code) = true := by decide +kernel
theorem zd_0_300 : ((zt_0.drop 300).take 60).all (zdk code) = true := by decide +kernel
theorem zd_0_360 : ((zt_0.drop 360).take 60).all (zdk code) = true := by decide +kernel
theorem zd_0_420 : ((zt_0.drop 420).take 60).all (zdk code) = true := by decide +kernel
theorem zd_0_480 : ((zt_0.drop 480).take 60).all (zdk code) = true := by decide +kernel
theorem zd_0_540 : ((zt_0.drop 540).take 60).all (zdk code) = true := by decide +kernel
theorem zd_0_600 : ((zt_0.drop 600).take 60).all (zdk code) = true := by decide +kernel
theorem zd_0_660 : ((zt_0.drop 660).take 60).all (zdk code) = true := by decide +kernel
theorem zd_0_720 : ((zt_0.drop 720).take 60).all (zdk code) = true := by decide +kernel
theorem zd_0_780 : ((zt_0.drop 780).take 60).all (zdk code) = true := by decide +kernel
theorem zd_0_840 : ((zt_0.drop 840).take 60).all (zdk code) = true := by decide +kernel
theorem zd_0_900 : (zt_0.drop 900).all (zdk code) = true := by decide +kernel
theorem zd_0 : zt_0.all (zdk code) = true := zall_join _ _ 0 60 zd_0_0 (zall_join _ _ 60 60 zd_0_60 (zall_join _ _ 120 60 zd_0_120 (zall_join _ _ 180 60 zd_0_180 (zall_join _ _ 240 60 zd_0_240 (zall_join _ _ 300 60 zd_0_300 (zall_join _ _ 360 60 zd_0_360 (zall_join _ _ 420 60 zd_0_420 (zall_join _ _ 480 60 zd_0_480 (zall_join _ _ 540 60 zd_0_540 (zall_join _ _ 600 60 zd_0_600 (zall_join _ _ 660 60 zd_0_660 (zall_join _ _ 720 60 zd_0_720 (zall_join _ _ 780 60 zd_0_780 (zall_join _ _ 840 60 zd_0_840 (zd_0_900)))))))))))))))
theorem zd_1_0 : ((zt_1.drop 0).take 60).all (zdk prog_1_method_1_code) = true := by decide +kernel
theorem zd_1_60 : (zt_1.drop 60).all (zdk prog_1_method_1_code) = true := by decide +kernel
theorem zd_1 : zt_1.all (zdk prog_1_method_1_code) = true := zall_join _ _ 0 60 zd_1_0 (zd_1_60)
theorem zd_2 : zt_2.all (zdk prog_9_method_1_code) = true := by decide +kernel
theorem zd_3 : zt_3.all (zdk prog_12_method_1_code) = true := by decide +kernel
theorem zd_4 : zt_4.all (zdk prog_3_method_1_code) = true := by decide +kernel
theorem zd_5 : zt_5.all (zdk prog_8_method_1_code) = true := by decide +kernel
theorem zd_6 : zt_6.all (zdk prog_5_method_1_code) = true := by decide +kernel
theorem zd_7 : zt_7.all (zdk prog_6_method_1_code) = true := by decide +kernel
theorem zd_8 : zt_8.all (zdk prog_4_method_1_code) = true := by decide +kernel
theorem zd_9 : zt_9.all (zdk prog_11_method_1_code) = true := by decide +kernel
theorem zd_10 : zt_10.all (zdk prog_7_method_1_code) = true := by decide +kernel
theorem zd_11 : zt_11.all (zdk prog_2_method_1_code) = true := by decide +kernel
theorem zd_12 : zt_12.all (zdk prog_10_method_1_code) = true := by decide +kernel
theorem zd_13 : zt_13.all (zdk prog_1_method_2_code) = true := by decide +kernel
theorem zd_14 : zt_14.all (zdk prog_1_method_44_code) = true := by decide +kernel
theorem zd_15 : zt_15.all (zdk prog_12_method_3_code) = true := by decide +kernel
theorem zd_16 : zt_16.all (zdk prog_3_method_3_code) = true := by decide +kernel
theorem zd_17 : zt_17.all (zdk prog_22_method_103_code) = true := by decide +kernel
theorem zd_18 : zt_18.all (zdk prog_1_method_3_code) = true := by decide +kernel
theorem zd_19 : zt_19.all (zdk prog_12_method_2_code) = true := by decide +kernel
theorem zd_20 : zt_20.all (zdk prog_1_method_49_code) = true := by decide +kernel
theorem zd_21_0 : ((zt_21.drop 0).take 60).all (zdk prog_5_method_6_code) = true := by decide +kernel
theorem zd_21_60 : (zt_21.drop 60).all (zdk prog_5_method_6_code) = true := by decide +kernel
theorem zd_21 : zt_21.all (zdk prog_5_method_6_code) = true := zall_join _ _ 0 60 zd_21_0 (zd_21_60)
theorem zd_22 : zt_22.all (zdk prog_5_method_7_code) = true := by decide +kernel
theorem zd_23 : zt_23.all (zdk prog_5_method_8_code) = true := by decide +kernel
theorem zd_24 : zt_24.all (zdk prog_17_method_65_code) = true := by decide +kernel
theorem zd_25 : zt_25.all (zdk prog_1_method_46_code) = true := by decide +kernel
theorem zd_26 : zt_26.all (zdk prog_1_method_47_code) = true := by decide +kernel
theorem zd_27 : zt_27.all (zdk prog_1_method_4_code) = true := by decide +kernel
theorem zd_28 : zt_28.all (zdk prog_11_method_2_code) = true := by decide +kernel
theorem zd_29 : zt_29.all (zdk prog_4_method_3_code) = true := by decide +kernel
theorem zd_30 : zt_30.all (zdk prog_17_method_50_code) = true := by decide +kernel
theorem zd_31 : zt_31.all (zdk prog_5_method_3_code) = true := by decide +kernel
theorem zd_32 : zt_32.all (zdk prog_5_method_4_code) = true := by decide +kernel
theorem zd_33 : zt_33.all (zdk prog_11_method_3_code) = true := by decide +kernel
theorem zd_34 : zt_34.all (zdk prog_11_method_4_code) = true := by decide +kernel
theorem zd_35_0 : ((zt_35.drop 0).take 60).all (zdk prog_11_method_10_code) = true := by decide +kernel
theorem zd_35_60 : (zt_35.drop 60).all (zdk prog_11_method_10_code) = true := by decide +kernel
theorem zd_35 : zt_35.all (zdk prog_11_method_10_code) = true := zall_join _ _ 0 60 zd_35_0 (zd_35_60)
theorem zd_36 : zt_36.all (zdk prog_11_method_13_code) = true := by decide +kernel
theorem zd_37 : zt_37.all (zdk prog_17_method_69_code) = true := by decide +kernel
theorem zd_38 : zt_38.all (zdk prog_4_method_6_code) = true := by decide +kernel
theorem zd_39 : zt_39.all (zdk prog_4_method_5_code) = true := by decide +kernel
theorem zd_40 : zt_40.all (zdk prog_11_method_11_code) = true := by decide +kernel
theorem zd_41 : zt_41.all (zdk prog_4_method_4_code) = true := by decide +kernel
theorem zd_42 : zt_42.all (zdk prog_11_method_6_code) = true := by decide +kernel
theorem zd_43 : zt_43.all (zdk prog_11_method_7_code) = true := by decide +kernel
theorem zd_44 : zt_44.all (zdk prog_11_method_12_code) = true := by decide +kernel
theorem zd_45 : zt_45.all (zdk prog_11_method_5_code) = true := by decide +kernel
theorem zd_46 : zt_46.all (zdk prog_11_method_8_code) = true := by decide +kernel
theorem zd_47 : zt_47.all (zdk prog_11_method_9_code) = true := by decide +kernel
theorem zd_48 : zt_48.all (zdk prog_1_method_5_code) = true := by decide +kernel
theorem zd_49 : zt_49.all (zdk prog_1_method_6_code) = true := by decide +kernel
theorem zd_50_0 : ((zt_50.drop 0).take 60).all (zdk prog_1_method_7_code) = true := by decide +kernel
theorem zd_50_60 : (zt_50.drop 60).all (zdk prog_1_method_7_code) = true := by decide +kernel
theorem zd_50 : zt_50.all (zdk prog_1_method_7_code) = true := zall_join _ _ 0 60 zd_50_0 (zd_50_60)
theorem zd_51 : zt_51.all (zdk prog_1_method_50_code) = true := by decide +kernel
theorem zd_52 : zt_52.all (zdk prog_4_method_2_code) = true := by decide +kernel
theorem zd_53 : zt_53.all (zdk prog_3_method_4_code) = true := by decide +kernel
theorem zd_54 : zt_54.all (zdk prog_1_method_8_code) = true := by decide +kernel
theorem zd_55 : zt_55.all (zdk prog_1_method_45_code) = true := by decide +kernel
theorem zd_56 : zt_56.all (zdk prog_1_method_9_code) = true := by decide +kernel
theorem zd_57 : zt_57.all (zdk prog_3_method_2_code) = true := by decide +kernel
theorem zd_58 : zt_58.all (zdk prog_1_method_51_code) = true := by decide +kernel
theorem zd_59 : zt_59.all (zdk prog_1_method_10_code) = true := by decide +kernel
theorem zd_60 : zt_60.all (zdk prog_1_method_11_code) = true := by decide +kernel
theorem zd_61 : zt_61.all (zdk prog_6_method_2_code) = true := by decide +kernel
theorem zd_62 : zt_62.all (zdk prog_5_method_2_code) = true := by decide +kernel
theorem zd_63_0 : ((zt_63.drop 0).take 60).all (zdk prog_6_method_5_code) = true := by decide +kernel
theorem zd_63_60 : (zt_63.drop 60).all (zdk prog_6_method_5_code) = true := by decide +kernel
theorem zd_63 : zt_63.all (zdk prog_6_method_5_code) = true := zall_join _ _ 0 60 zd_63_0 (zd_63_60)
theorem zd_64 : zt_64.all (zdk prog_6_method_7_code) = true := by decide +kernel
theorem zd_65 : zt_65.all (zdk prog_6_method_6_code) = true := by decide +kernel
theorem zd_66 : zt_66.all (zdk prog_6_method_8_code) = true := by decide +kernel
theorem zd_67 : zt_67.all (zdk prog_18_method_54_code) = true := by decide +kernel
theorem zd_68 : zt_68.all (zdk prog_18_method_152_code) = true := by decide +kernel
theorem zd_69 : zt_69.all (zdk prog_18_method_56_code) = true := by decide +kernel
theorem zd_70 : zt_70.all (zdk prog_18_method_154_code) = true := by decide +kernel
theorem zd_71 : zt_71.all (zdk prog_19_method_2_code) = true := by decide +kernel
theorem zd_72 : zt_72.all (zdk prog_18_method_155_code) = true := by decide +kernel
theorem zd_73 : zt_73.all (zdk prog_23_method_11_code) = true := by decide +kernel
theorem zd_74 : zt_74.all (zdk prog_6_method_4_code) = true := by decide +kernel
theorem zd_75 : zt_75.all (zdk prog_6_method_3_code) = true := by decide +kernel
theorem zd_76 : zt_76.all (zdk prog_6_method_9_code) = true := by decide +kernel
theorem zd_77 : zt_77.all (zdk prog_6_method_10_code) = true := by decide +kernel
theorem zd_78 : zt_78.all (zdk prog_6_method_11_code) = true := by decide +kernel
theorem zd_79 : zt_79.all (zdk prog_6_method_12_code) = true := by decide +kernel
theorem zd_80 : zt_80.all (zdk prog_6_method_13_code) = true := by decide +kernel
theorem zd_81 : zt_81.all (zdk prog_6_method_14_code) = true := by decide +kernel
theorem zd_82 : zt_82.all (zdk prog_18_method_79_code) = true := by decide +kernel
theorem zd_83 : zt_83.all (zdk prog_18_method_80_code) = true := by decide +kernel
theorem zd_84 : zt_84.all (zdk prog_19_method_22_code) = true := by decide +kernel
theorem zd_85 : zt_85.all (zdk prog_19_method_4_code) = true := by decide +kernel
theorem zd_86 : zt_86.all (zdk prog_19_method_23_code) = true := by decide +kernel
theorem zd_87 : zt_87.all (zdk prog_5_method_5_code) = true := by decide +kernel
theorem zd_88 : zt_88.all (zdk prog_1_method_12_code) = true := by decide +kernel
theorem zd_89 : zt_89.all (zdk prog_1_method_53_code) = true := by decide +kernel
theorem zd_90 : zt_90.all (zdk prog_1_method_52_code) = true := by decide +kernel
theorem zd_91 : zt_91.all (zdk prog_1_method_13_code) = true := by decide +kernel
theorem zd_92 : zt_92.all (zdk prog_12_method_5_code) = true := by decide +kernel
theorem zd_93 : zt_93.all (zdk prog_1_method_14_code) = true := by decide +kernel
theorem zd_94 : zt_94.all (zdk prog_1_method_54_code) = true := by decide +kernel
theorem zd_95 : zt_95.all (zdk prog_12_method_6_code) = true := by decide +kernel
theorem zd_96 : zt_96.all (zdk prog_1_method_15_code) = true := by decide +kernel
theorem zd_97 : zt_97.all (zdk prog_1_method_16_code) = true := by decide +kernel
theorem zd_98_0 : ((zt_98.drop 0).take 60).all (zdk prog_1_method_17_code) = true := by decide +kernel
theorem zd_98_60 : (zt_98.drop 60).all (zdk prog_1_method_17_code) = true := by decide +kernel
theorem zd_98 : zt_98.all (zdk prog_1_method_17_code) = true := zall_join _ _ 0 60 zd_98_0 (zd_98_60)
theorem zd_99 : zt_99.all (zdk prog_16_method_49_code) = true := by decide +kernel
theorem zd_100_0 : ((zt_100.drop 0).take 60).all (zdk prog_7_method_2_code) = true := by decide +kernel
theorem zd_100_60 : (zt_100.drop 60).all (zdk prog_7_method_2_code) = true := by decide +kernel
theorem zd_100 : zt_100.all (zdk prog_7_method_2_code) = true := zall_join _ _ 0 60 zd_100_0 (zd_100_60)
theorem zd_101 : zt_101.all (zdk prog_7_method_3_code) = true := by decide +kernel
theorem zd_102 : zt_102.all (zdk prog_7_method_5_code) = true := by decide +kernel
theorem zd_103 : zt_103.all (zdk prog_7_method_4_code) = true := by decide +kernel
theorem zd_104 : zt_104.all (zdk prog_1_method_18_code) = true := by decide +kernel
theorem zd_105 : zt_105.all (zdk prog_1_method_19_code) = true := by decide +kernel
theorem zd_106 : zt_106.all (zdk prog_1_method_20_code) = true := by decide +kernel
theorem zd_107 : zt_107.all (zdk prog_1_method_21_code) = true := by decide +kernel
theorem zd_108 : zt_108.all (zdk prog_8_method_2_code) = true := by decide +kernel
theorem zd_109 : zt_109.all (zdk prog_1_method_22_code) = true := by decide +kernel
theorem zd_110 : zt_110.all (zdk prog_1_method_24_code) = true := by decide +kernel
theorem zd_111 : zt_111.all (zdk prog_1_method_25_code) = true := by decide +kernel
theorem zd_112 : zt_112.all (zdk prog_1_method_23_code) = true := by decide +kernel
theorem zd_113 : zt_113.all (zdk prog_1_method_26_code) = true := by decide +kernel
theorem zd_114 : zt_114.all (zdk prog_1_method_48_code) = true := by decide +kernel
theorem zd_115 : zt_115.all (zdk prog_1_method_27_code) = true := by decide +kernel
theorem zd_116 : zt_116.all (zdk prog_1_method_28_code) = true := by decide +kernel
theorem zd_117 : zt_117.all (zdk prog_1_method_29_code) = true := by decide +kernel
theorem zd_118 : zt_118.all (zdk prog_1_method_30_code) = true := by decide +kernel
theorem zd_119 : zt_119.all (zdk prog_12_method_4_code) = true := by decide +kernel
theorem zd_120 : zt_120.all (zdk prog_1_method_31_code) = true := by decide +kernel
theorem zd_121 : zt_121.all (zdk prog_1_method_32_code) = true := by decide +kernel
theorem zd_122_0 : ((zt_122.drop 0).take 60).all (zdk prog_1_method_33_code) = true := by decide +kernel
theorem zd_122_60 : (zt_122.drop 60).all (zdk prog_1_method_33_code) = true := by decide +kernel
theorem zd_122 : zt_122.all (zdk prog_1_method_33_code) = true := zall_join _ _ 0 60 zd_122_0 (zd_122_60)
theorem zd_123 : zt_123.all (zdk prog_10_method_2_code) = true := by decide +kernel
theorem zd_124 : zt_124.all (zdk prog_1_method_34_code) = true := by decide +kernel
theorem zd_125 : zt_125.all (zdk prog_9_method_2_code) = true := by decide +kernel
theorem zd_126 : zt_126.all (zdk prog_8_method_3_code) = true := by decide +kernel
theorem zd_127 : zt_127.all (zdk prog_1_method_35_code) = true := by decide +kernel
theorem zd_128 : zt_128.all (zdk prog_1_method_36_code) = true := by decide +kernel
theorem zd_129 : zt_129.all (zdk prog_2_method_2_code) = true := by decide +kernel
theorem zd_130 : zt_130.all (zdk prog_2_method_4_code) = true := by decide +kernel
theorem zd_131 : zt_131.all (zdk prog_2_method_3_code) = true := by decide +kernel
theorem zd_132 : zt_132.all (zdk prog_2_method_5_code) = true := by decide +kernel
theorem zd_133 : zt_133.all (zdk prog_2_method_6_code) = true := by decide +kernel
theorem zd_134 : zt_134.all (zdk prog_1_method_37_code) = true := by decide +kernel
theorem zd_135 : zt_135.all (zdk prog_1_method_38_code) = true := by decide +kernel
theorem zd_136 : zt_136.all (zdk prog_1_method_39_code) = true := by decide +kernel
theorem zd_137 : zt_137.all (zdk prog_1_method_40_code) = true := by decide +kernel
theorem zd_138 : zt_138.all (zdk prog_10_method_3_code) = true := by decide +kernel
theorem zd_139 : zt_139.all (zdk prog_10_method_4_code) = true := by decide +kernel
theorem zd_140 : zt_140.all (zdk prog_22_method_101_code) = true := by decide +kernel
theorem zd_141 : zt_141.all (zdk prog_1_method_41_code) = true := by decide +kernel
theorem zd_142 : zt_142.all (zdk prog_10_method_5_code) = true := by decide +kernel
theorem zd_143 : zt_143.all (zdk prog_1_method_42_code) = true := by decide +kernel
theorem zd_144_0 : ((zt_144.drop 0).take 60).all (zdk prog_1_method_43_code) = true := by decide +kernel
theorem zd_144_60 : (zt_144.drop 60).all (zdk prog_1_method_43_code) = true := by decide +kernel
theorem zd_144 : zt_144.all (zdk prog_1_method_43_code) = true := zall_join _ _ 0 60 zd_144_0 (zd_144_60)
theorem zd_145_0 : ((zt_145.drop 0).take 60).all (zdk prog_14_method_1_code) = true := by decide +kernel
theorem zd_145_60 : ((zt_145.drop 60).take 60).all (zdk prog_14_method_1_code) = true := by decide +kernel
theorem zd_145_120 : ((zt_145.drop 120).take 60).all (zdk prog_14_method_1_code) = true := by decide +kernel
theorem zd_145_180 : ((zt_145.drop 180).take 60).all (zdk prog_14_method_1_code) = true := by decide +kernel
theorem zd_145_240 : ((zt_145.drop 240).take 60).all (zdk prog_14_method_1_code) = true := by decide +kernel
theorem zd_145_300 : ((zt_145.drop 300).take 60).all (zdk prog_14_method_1_code) = true := by decide +kernel
theorem zd_145_360 : (zt_145.drop 360).all (zdk prog_14_method_1_code) = true := by decide +kernel
theorem zd_145 : zt_145.all (zdk prog_14_method_1_code) = true := zall_join _ _ 0 60 zd_145_0 (zall_join _ _ 60 60 zd_145_60 (zall_join _ _ 120 60 zd_145_120 (zall_join _ _ 180 60 zd_145_180 (zall_join _ _ 240 60 zd_145_240 (zall_join _ _ 300 60 zd_145_300 (zd_145_360))))))
theorem zd_146_0 : ((zt_146.drop 0).take 60).all (zdk prog_14_method_8_code) = true := by decide +kernel
theorem zd_146_60 : (zt_146.drop 60).all (zdk prog_14_method_8_code) = true := by decide +kernel
theorem zd_146 : zt_146.all (zdk prog_14_method_8_code) = true := zall_join _ _ 0 60 zd_146_0 (zd_146_60)
theorem zd_147 : zt_147.all (zdk prog_14_method_2_code) = true := by decide +kernel
theorem zd_148 : zt_148.all (zdk prog_14_method_9_code) = true := by decide +kernel
theorem zd_149 : zt_149.all (zdk prog_14_method_6_code) = true := by decide +kernel
theorem zd_150 : zt_150.all (zdk prog_14_method_10_code) = true := by decide +kernel
theorem zd_151 : zt_151.all (zdk prog_14_method_11_code) = true := by decide +kernel
theorem zd_152 : zt_152.all (zdk prog_14_method_26_code) = true := by decide +kernel
theorem zd_153 : zt_153.all (zdk prog_14_method_25_code) = true := by decide +kernel
theorem zd_154 : zt_154.all (zdk prog_14_method_24_code) = true := by decide +kernel
theorem zd_155_0 : ((zt_155.drop 0).take 60).all (zdk prog_14_method_23_code) = true := by decide +kernel
theorem zd_155_60 : (zt_155.drop 60).all (zdk prog_14_method_23_code) = true := by decide +kernel
theorem zd_155 : zt_155.all (zdk prog_14_method_23_code) = true := zall_join _ _ 0 60 zd_155_0 (zd_155_60)
theorem zd_156 : zt_156.all (zdk prog_14_method_12_code) = true := by decide +kernel
theorem zd_157 : zt_157.all (zdk prog_14_method_14_code) = true := by decide +kernel
theorem zd_158 : zt_158.all (zdk prog_14_method_13_code) = true := by decide +kernel
theorem zd_159 : zt_159.all (zdk prog_14_method_16_code) = true := by decide +kernel
theorem zd_160 : zt_160.all (zdk prog_14_method_15_code) = true := by decide +kernel
theorem zd_161_0 : ((zt_161.drop 0).take 60).all (zdk prog_14_method_22_code) = true := by decide +kernel
theorem zd_161_60 : ((zt_161.drop 60).take 60).all (zdk prog_14_method_22_code) = true := by decide +kernel
theorem zd_161_120 : (zt_161.drop 120).all (zdk prog_14_method_22_code) = true := by decide +kernel
theorem zd_161 : zt_161.all (zdk prog_14_method_22_code) = true := zall_join _ _ 0 60 zd_161_0 (zall_join _ _ 60 60 zd_161_60 (zd_161_120))
theorem zd_162 : zt_162.all (zdk prog_14_method_21_code) = true := by decide +kernel
theorem zd_163 : zt_163.all (zdk prog_14_method_20_code) = true := by decide +kernel
theorem zd_164 : zt_164.all (zdk prog_14_method_17_code) = true := by decide +kernel
theorem zd_165 : zt_165.all (zdk prog_14_method_18_code) = true := by decide +kernel
theorem zd_166 : zt_166.all (zdk prog_14_method_19_code) = true := by decide +kernel
theorem zd_167_0 : ((zt_167.drop 0).take 60).all (zdk prog_14_method_45_code) = true := by decide +kernel
theorem zd_167_60 : (zt_167.drop 60).all (zdk prog_14_method_45_code) = true := by decide +kernel
theorem zd_167 : zt_167.all (zdk prog_14_method_45_code) = true := zall_join _ _ 0 60 zd_167_0 (zd_167_60)
theorem zd_168 : zt_168.all (zdk prog_14_method_34_code) = true := by decide +kernel
theorem zd_169 : zt_169.all (zdk prog_14_method_27_code) = true := by decide +kernel
theorem zd_170 : zt_170.all (zdk prog_14_method_28_code) = true := by decide +kernel
theorem zd_171_0 : ((zt_171.drop 0).take 60).all (zdk prog_14_method_33_code) = true := by decide +kernel
theorem zd_171_60 : ((zt_171.drop 60).take 60).all (zdk prog_14_method_33_code) = true := by decide +kernel
theorem zd_171_120 : (zt_171.drop 120).all (zdk prog_14_method_33_code) = true := by decide +kernel
theorem zd_171 : zt_171.all (zdk prog_14_method_33_code) = true := zall_join _ _ 0 60 zd_171_0 (zall_join _ _ 60 60 zd_171_60 (zd_171_120))
theorem zd_172 : zt_172.all (zdk prog_14_method_32_code) = true := by decide +kernel
theorem zd_173 : zt_173.all (zdk prog_14_method_4_code) = true := by decide +kernel
theorem zd_174 : zt_174.all (zdk prog_14_method_35_code) = true := by decide +kernel
theorem zd_175 : zt_175.all (zdk prog_14_method_38_code) = true := by decide +kernel
theorem zd_176 : zt_176.all (zdk prog_14_method_29_code) = true := by decide +kernel
theorem zd_177 : zt_177.all (zdk prog_14_method_39_code) = true := by decide +kernel
theorem zd_178 : zt_178.all (zdk prog_14_method_30_code) = true := by decide +kernel
theorem zd_179 : zt_179.all (zdk prog_14_method_5_code) = true := by decide +kernel
theorem zd_180 : zt_180.all (zdk prog_14_method_31_code) = true := by decide +kernel
theorem zd_181 : zt_181.all (zdk prog_14_method_44_code) = true := by decide +kernel
theorem zd_182_0 : ((zt_182.drop 0).take 60).all (zdk prog_14_method_41_code) = true := by decide +kernel
theorem zd_182_60 : ((zt_182.drop 60).take 60).all (zdk prog_14_method_41_code) = true := by decide +kernel
theorem zd_182_120 : (zt_182.drop 120).all (zdk prog_14_method_41_code) = true := by decide +kernel
theorem zd_182 : zt_182.all (zdk prog_14_method_41_code) = true := zall_join _ _ 0 60 zd_182_0 (zall_join _ _ 60 60 zd_182_60 (zd_182_120))
theorem zd_183_0 : ((zt_183.drop 0).take 60).all (zdk prog_14_method_37_code) = true := by decide +kernel
theorem zd_183_60 : (zt_183.drop 60).all (zdk prog_14_method_37_code) = true := by decide +kernel
theorem zd_183 : zt_183.all (zdk prog_14_method_37_code) = true := zall_join _ _ 0 60 zd_183_0 (zd_183_60)
theorem zd_184 : zt_184.all (zdk prog_14_method_36_code) = true := by decide +kernel
theorem zd_185_0 : ((zt_185.drop 0).take 60).all (zdk prog_14_method_40_code) = true := by decide +kernel
theorem zd_185_60 : (zt_185.drop 60).all (zdk prog_14_method_40_code) = true := by decide +kernel
theorem zd_185 : zt_185.all (zdk prog_14_method_40_code) = true := zall_join _ _ 0 60 zd_185_0 (zd_185_60)
theorem zd_186 : zt_186.all (zdk prog_14_method_43_code) = true := by decide +kernel
theorem zd_187 : zt_187.all (zdk prog_14_method_47_code) = true := by decide +kernel
theorem zd_188 : zt_188.all (zdk prog_14_method_46_code) = true := by decide +kernel
theorem zd_189 : zt_189.all (zdk prog_14_method_42_code) = true := by decide +kernel
theorem zd_190_0 : ((zt_190.drop 0).take 60).all (zdk prog_14_method_48_code) = true := by decide +kernel
theorem zd_190_60 : ((zt_190.drop 60).take 60).all (zdk prog_14_method_48_code) = true := by decide +kernel
theorem zd_190_120 : (zt_190.drop 120).all (zdk prog_14_method_48_code) = true := by decide +kernel
theorem zd_190 : zt_190.all (zdk prog_14_method_48_code) = true := zall_join _ _ 0 60 zd_190_0 (zall_join _ _ 60 60 zd_190_60 (zd_190_120))
theorem zd_191 : zt_191.all (zdk prog_14_method_49_code) = true := by decide +kernel
theorem zd_192 : zt_192.all (zdk prog_14_method_50_code) = true := by decide +kernel
theorem zd_193 : zt_193.all (zdk prog_14_method_53_code) = true := by decide +kernel
theorem zd_194 : zt_194.all (zdk prog_14_method_7_code) = true := by decide +kernel
theorem zd_195 : zt_195.all (zdk prog_14_method_52_code) = true := by decide +kernel
theorem zd_196 : zt_196.all (zdk prog_14_method_51_code) = true := by decide +kernel
theorem zd_197 : zt_197.all (zdk prog_14_method_56_code) = true := by decide +kernel
theorem zd_198 : zt_198.all (zdk prog_14_method_54_code) = true := by decide +kernel
theorem zd_199 : zt_199.all (zdk prog_14_method_55_code) = true := by decide +kernel
theorem zd_200 : zt_200.all (zdk prog_14_method_57_code) = true := by decide +kernel
theorem zd_201_0 : ((zt_201.drop 0).take 60).all (zdk prog_14_method_60_code) = true := by decide +kernel
theorem zd_201_60 : (zt_201.drop 60).all (zdk prog_14_method_60_code) = true := by decide +kernel
theorem zd_201 : zt_201.all (zdk prog_14_method_60_code) = true := zall_join _ _ 0 60 zd_201_0 (zd_201_60)
theorem zd_202 : zt_202.all (zdk prog_14_method_58_code) = true := by decide +kernel
theorem zd_203 : zt_203.all (zdk prog_14_method_59_code) = true := by decide +kernel
theorem zd_204 : zt_204.all (zdk prog_14_method_3_code) = true := by decide +kernel
theorem zd_205 : zt_205.all (zdk prog_14_method_61_code) = true := by decide +kernel
theorem zd_206 : zt_206.all (zdk prog_14_method_62_code) = true := by decide +kernel
theorem zd_207 : zt_207.all (zdk prog_14_method_63_code) = true := by decide +kernel
theorem zd_208 : zt_208.all (zdk prog_14_method_65_code) = true := by decide +kernel
theorem zd_209 : zt_209.all (zdk prog_14_method_64_code) = true := by decide +kernel
theorem zd_210 : zt_210.all (zdk prog_14_method_66_code) = true := by decide +kernel
theorem zd_211 : zt_211.all (zdk prog_14_method_69_code) = true := by decide +kernel
theorem zd_212 : zt_212.all (zdk prog_14_method_68_code) = true := by decide +kernel
theorem zd_213 : zt_213.all (zdk prog_14_method_67_code) = true := by decide +kernel
theorem zd_214 : zt_214.all (zdk prog_14_method_70_code) = true := by decide +kernel
theorem zd_215 : zt_215.all (zdk prog_14_method_71_code) = true := by decide +kernel
theorem zd_216_0 : ((zt_216.drop 0).take 60).all (zdk prog_14_method_72_code) = true := by decide +kernel
theorem zd_216_60 : (zt_216.drop 60).all (zdk prog_14_method_72_code) = true := by decide +kernel
theorem zd_216 : zt_216.all (zdk prog_14_method_72_code) = true := zall_join _ _ 0 60 zd_216_0 (zd_216_60)
theorem zd_217 : zt_217.all (zdk prog_14_method_73_code) = true := by decide +kernel
theorem zd_218 : zt_218.all (zdk prog_14_method_74_code) = true := by decide +kernel
theorem zd_219_0 : ((zt_219.drop 0).take 60).all (zdk prog_14_method_75_code) = true := by decide +kernel
theorem zd_219_60 : (zt_219.drop 60).all (zdk prog_14_method_75_code) = true := by decide +kernel
theorem zd_219 : zt_219.all (zdk prog_14_method_75_code) = true := zall_join _ _ 0 60 zd_219_0 (zd_219_60)
theorem zd_220 : zt_220.all (zdk prog_14_method_90_code) = true := by decide +kernel
theorem zd_221_0 : ((zt_221.drop 0).take 60).all (zdk prog_14_method_76_code) = true := by decide +kernel
theorem zd_221_60 : ((zt_221.drop 60).take 60).all (zdk prog_14_method_76_code) = true := by decide +kernel
theorem zd_221_120 : (zt_221.drop 120).all (zdk prog_14_method_76_code) = true := by decide +kernel
theorem zd_221 : zt_221.all (zdk prog_14_method_76_code) = true := zall_join _ _ 0 60 zd_221_0 (zall_join _ _ 60 60 zd_221_60 (zd_221_120))
theorem zd_222_0 : ((zt_222.drop 0).take 60).all (zdk prog_14_method_77_code) = true := by decide +kernel
theorem zd_222_60 : ((zt_222.drop 60).take 60).all (zdk prog_14_method_77_code) = true := by decide +kernel
theorem zd_222_120 : (zt_222.drop 120).all (zdk prog_14_method_77_code) = true := by decide +kernel
theorem zd_222 : zt_222.all (zdk prog_14_method_77_code) = true := zall_join _ _ 0 60 zd_222_0 (zall_join _ _ 60 60 zd_222_60 (zd_222_120))
theorem zd_223 : zt_223.all (zdk prog_14_method_86_code) = true := by decide +kernel
theorem zd_224 : zt_224.all (zdk prog_14_method_80_code) = true := by decide +kernel
theorem zd_225 : zt_225.all (zdk prog_14_method_78_code) = true := by decide +kernel
theorem zd_226 : zt_226.all (zdk prog_14_method_79_code) = true := by decide +kernel
theorem zd_227 : zt_227.all (zdk prog_14_method_83_code) = true := by decide +kernel
theorem zd_228 : zt_228.all (zdk prog_14_method_82_code) = true := by decide +kernel
theorem zd_229 : zt_229.all (zdk prog_14_method_81_code) = true := by decide +kernel
theorem zd_230 : zt_230.all (zdk prog_14_method_85_code) = true := by decide +kernel
theorem zd_231 : zt_231.all (zdk prog_14_method_84_code) = true := by decide +kernel
theorem zd_232 : zt_232.all (zdk prog_14_method_87_code) = true := by decide +kernel
theorem zd_233 : zt_233.all (zdk prog_14_method_88_code) = true := by decide +kernel
theorem zd_234 : zt_234.all (zdk prog_14_method_89_code) = true := by decide +kernel
theorem zd_235 : zt_235.all (zdk prog_14_method_91_code) = true := by decide +kernel
theorem zd_236 : zt_236.all (zdk prog_14_method_93_code) = true := by decide +kernel
theorem zd_237 : zt_237.all (zdk prog_14_method_92_code) = true := by decide +kernel
theorem zd_238 : zt_238.all (zdk prog_14_method_94_code) = true := by decide +kernel
theorem zd_239_0 : ((zt_239.drop 0).take 60).all (zdk prog_14_method_95_code) = true := by decide +kernel
theorem zd_239_60 : (zt_239.drop 60).all (zdk prog_14_method_95_code) = true := by decide +kernel
theorem zd_239 : zt_239.all (zdk prog_14_method_95_code) = true := zall_join _ _ 0 60 zd_239_0 (zd_239_60)
end
section
/-! THE ABSTRACT MACHINE: memory by places; places 0 .. 19 are old (0 the script, 1 ABOVE, 2 .. 8 the texts, 9 .. 15 their bytes, 18 the formatter), 20 .. are what the run has made -/
/-- count, slots, shapes (tag, length); whole numbers; longs; references -/
abbrev ZMem : Type := (Nat × Nat × (Nat → Nat × Nat)) × (Nat → Nat → Int32) × (Nat → Nat → Int64) × (Nat → Nat → Option Nat)
def zn (M : ZMem) : Nat := M.1.1
def zc (M : ZMem) : Nat := M.1.2.1
def zsh (M : ZMem) : Nat → Nat × Nat := M.1.2.2
def zI (M : ZMem) : Nat → Nat → Int32 := M.2.1
def zL (M : ZMem) : Nat → Nat → Int64 := M.2.2.1
def zR (M : ZMem) : Nat → Nat → Option Nat := M.2.2.2
def zpI (M : ZMem) (p k : Nat) (v : Int32) : ZMem := (M.1, fun a b => if a = p ∧ b = k then v else zI M a b, zL M, zR M)
def zpL (M : ZMem) (p k : Nat) (v : Int64) : ZMem := (M.1, zI M, fun a b => if a = p ∧ b = k then v else zL M a b, zR M)
def zpR (M : ZMem) (p k : Nat) (v : Option Nat) : ZMem := (M.1, zI M, zL M, fun a b => if a = p ∧ b = k then v else zR M a b)
def zcpI (M : ZMem) (p sp q dp n : Nat) : ZMem := (M.1, fun a b => if a = q ∧ dp ≤ b ∧ b < dp + n then zI M p (sp + (b - dp)) else zI M a b, zL M, zR M)
def zcpL (M : ZMem) (p sp q dp n : Nat) : ZMem := (M.1, zI M, fun a b => if a = q ∧ dp ≤ b ∧ b < dp + n then zL M p (sp + (b - dp)) else zL M a b, zR M)
def znew (M : ZMem) (tag len sl : Nat) : ZMem := ((zn M + 1, zc M + sl, fun a => if a = zn M then (tag, len) else zsh M a), fun a b => if a = zn M then 0 else zI M a b, fun a b => if a = zn M then 0 else zL M a b, fun a b => if a = zn M then none else zR M a b)
/-- fields: their types by tag and place; 13 is a text: value, coder -/
def zty (t j : Nat) : FieldType := match t with
  | 0 => tyX0 j
  | 1 => tyX1 j
  | 2 => tyX2 j
  | 3 => tyX3 j
  | 4 => tyX4 j
  | 5 => tyX5 j
  | 6 => tyX6 j
  | 7 => tyX7 j
  | 8 => tyX8 j
  | 9 => tyX9 j
  | 10 => tyX10 j
  | 11 => tyX11 j
  | 12 => tyX12 j
  | _ => if j = 0 then .array .byte else .byte
def zcl (t : Nat) : vw_C := vwCl.getD t (RX0, TX0, 5)
def zN (t : Nat) : Nat := if t = 13 then 2 else (zcl t).2.2
def zfin (t j : Nat) : Bool := if t = 13 then true else ((zcl t).2.1 j).2.2.2
def zkd (ty : FieldType) : Nat := match ty with
  | .long => 1
  | .object _ => 2
  | .array _ => 2
  | .float => 3
  | .double => 3
  | _ => 0
def zrf (r : Option Nat) : Value := match r with
  | none => .null
  | some q => .ref q
def zfv (M : ZMem) (t o j : Nat) : Value := match zkd (zty t j) with
  | 0 => .int (zI M o j)
  | 1 => .long (zL M o j)
  | _ => zrf (zR M o j)
/-- links -/
def zfind2 {α : Type} (l : List (Nat × α)) (i : Nat) : Option α := match l with
  | [] => none
  | (j, v) :: r => if j = i then some v else zfind2 r i
def zmeth (k : Nat) : MethodName × ByteArray × Nat × Option FieldType × Nat × Nat := zms.getD k (⟨"", "", ""⟩, ⟨#[]⟩, 0, none, 0, 0)
def zcid (k : Nat) : Nat := (zmeth k).2.2.2.2.1
def zml (k : Nat) : Nat := (zmeth k).2.2.1
def zret (k : Nat) : Option FieldType := (zmeth k).2.2.2.1
def zlk (k i : Nat) : Option (Nat × Nat × Nat × Nat) := zfind2 (zlks.getD (zcid k) []) i
def zki (k i : Nat) : Option (Int32 × Nat) := zfind2 (zkis.getD (zcid k) []) i
def zkl (k i : Nat) : Option (Int64 × Nat) := zfind2 (zkls.getD (zcid k) []) i
def ztab (k : Nat) : List (Nat × Instr) := zts.getD k []
def zi (k pc : Nat) : Option Instr := zfind2 (ztab k) pc
/-- locals -/
def zget (l : List (Nat × Value)) (i : Nat) : Option Value := zfind2 l i
def zst1 (l : List (Nat × Value)) (i : Nat) (v : Value) : List (Nat × Value) := (i, v) :: l.filter (fun q => !(q.1 == i) && !(q.1 + 1 == i && q.2.category == 2))
def zjmp (pc : Nat) (off : Int) : Option Nat := if 0 ≤ (pc : Int) + off then some ((pc : Int) + off).toNat else none
def zcnd (c : ClassFile.Cond) (x y : Int32) : Prop := match c with
  | .eq => x = y
  | .ne => ¬ x = y
  | .lt => x < y
  | .ge => y ≤ x
  | .gt => y < x
  | .le => x ≤ y
def zcndB (c : ClassFile.Cond) (x y : Int32) : Bool := match c with
  | .eq => decide (x = y)
  | .ne => decide (¬ x = y)
  | .lt => decide (x < y)
  | .ge => decide (y ≤ x)
  | .gt => decide (y < x)
  | .le => decide (x ≤ y)
theorem zcndB_iff (c : ClassFile.Cond) (x y : Int32) : zcndB c x y = true ↔ zcnd c x y := by cases c <;> simp [zcndB, zcnd]
/-- the arm of a table of jumps: the first key that is x -/
def zsel (x : Int32) (ks : List (Int × Int)) (d : Int) : Int := match ks with
  | [] => d
  | (k, o) :: r => if x.toInt = k then o else zsel x r d
def zkeys (lo : Int) (os : List Int) : List (Int × Int) := match os with
  | [] => []
  | o :: r => (lo, o) :: zkeys (lo + 1) r
/-- the field that a link names: read and written -/
def zgf (M : ZMem) (t j o : Nat) : Option Value := if (zsh M o).1 = t ∧ t < 14 ∧ j < zN t ∧ o < zn M ∧ (20 ≤ o ∨ t = 13) ∧ (t = 13 → 2 ≤ o ∧ o < 9) then some (zfv M t o j) else none
def zpf (M : ZMem) (t j o : Nat) (v : Value) (isI : Bool) : Option ZMem := if (zsh M o).1 = t ∧ t < 13 ∧ j < zN t ∧ o < zn M ∧ 20 ≤ o ∧ (zfin t j = true → isI = true) ∧ narrow (zty t j) v = v ∧ fits (zty t j) v = true then
    match zkd (zty t j), v with
    | 0, .int x => some (zpI M o j x)
    | 1, .long x => some (zpL M o j x)
    | 2, .null => some (zpR M o j none)
    | 2, .ref q => some (zpR M o j (some q))
    | _, _ => none
  else none
def zin (i : Int32) (n : Nat) : Prop := ¬ (i < 0 ∨ n ≤ i.toNatClampNeg)
/-- rows of whole numbers: 20 int, 21 byte, 22 boolean; 31 the old row of ints, 32 old bytes -/
def zla (M : ZMem) (t p : Nat) (i : Int32) : Option Int32 := if (zsh M p).1 = t ∧ (20 ≤ p ∨ t = 31 ∨ t = 32) ∧ p < zn M ∧ ¬ (i < 0 ∨ (zsh M p).2 ≤ i.toNatClampNeg) then some (zI M p i.toNatClampNeg) else none
def zlaL (M : ZMem) (p : Nat) (i : Int32) : Option Int64 := if (zsh M p).1 = 23 ∧ 20 ≤ p ∧ p < zn M ∧ ¬ (i < 0 ∨ (zsh M p).2 ≤ i.toNatClampNeg) then some (zL M p i.toNatClampNeg) else none
def zlaR (M : ZMem) (p : Nat) (i : Int32) : Option (Option Nat) := if 24 ≤ (zsh M p).1 ∧ (zsh M p).1 ≤ 26 ∧ 20 ≤ p ∧ p < zn M ∧ ¬ (i < 0 ∨ (zsh M p).2 ≤ i.toNatClampNeg) then some (zR M p i.toNatClampNeg) else none
def zsa (M : ZMem) (t p : Nat) (i x : Int32) : Option ZMem := if (zsh M p).1 = t ∧ 20 ≤ p ∧ p < zn M ∧ ¬ (i < 0 ∨ (zsh M p).2 ≤ i.toNatClampNeg) then some (zpI M p i.toNatClampNeg x) else none
def zsaL (M : ZMem) (p : Nat) (i : Int32) (x : Int64) : Option ZMem := if (zsh M p).1 = 23 ∧ 20 ≤ p ∧ p < zn M ∧ ¬ (i < 0 ∨ (zsh M p).2 ≤ i.toNatClampNeg) then some (zpL M p i.toNatClampNeg x) else none
/-- the class of which a row of references is: Hill, Tape, Block -/
def zact (t : Nat) : Nat := match t with
  | 24 => 3
  | 25 => 8
  | _ => 1
def zsaR (M : ZMem) (p : Nat) (i : Int32) (q : Nat) : Option ZMem := if 24 ≤ (zsh M p).1 ∧ (zsh M p).1 ≤ 26 ∧ 20 ≤ p ∧ p < zn M ∧ ¬ (i < 0 ∨ (zsh M p).2 ≤ i.toNatClampNeg) ∧ 20 ≤ q ∧ q < zn M ∧ (zsh M q).1 = zact (zsh M p).1 then some (zpR M p i.toNatClampNeg (some q)) else none
def zlen (sc : Option (Nat × (Nat → Int32))) (M : ZMem) (p : Nat) : Option Int32 :=
  if p = 0 then sc.map (fun s => Int32.ofNat s.1)
  else if p < zn M ∧ ((20 ≤ p ∧ 20 ≤ (zsh M p).1 ∧ (zsh M p).1 ≤ 26) ∨ (p < 20 ∧ ((zsh M p).1 = 31 ∨ (zsh M p).1 = 32))) then some (Int32.ofNat (zsh M p).2) else none
/-- copying: rows of ints or of longs, both ends within -/
def zcopy (M : ZMem) (p : Nat) (sp : Int32) (q : Nat) (dp n : Int32) : Option ZMem :=
  if 20 ≤ p ∧ p < zn M ∧ 20 ≤ q ∧ q < zn M ∧ ¬ sp < 0 ∧ ¬ dp < 0 ∧ ¬ n < 0 ∧ sp.toNatClampNeg + n.toNatClampNeg ≤ (zsh M p).2 ∧ dp.toNatClampNeg + n.toNatClampNeg ≤ (zsh M q).2 then
    if (zsh M p).1 = 20 ∧ (zsh M q).1 = 20 then some (zcpI M p sp.toNatClampNeg q dp.toNatClampNeg n.toNatClampNeg)
    else if (zsh M p).1 = 23 ∧ (zsh M q).1 = 23 then some (zcpL M p sp.toNatClampNeg q dp.toNatClampNeg n.toNatClampNeg)
    else none
  else none
/-- what a machine's frame is: place in the bytes, locals, stack -/
abbrev ZFr : Type := Nat × List (Nat × Value) × List Value
/-- is the method a constructor -/
def zini (k : Nat) : Bool := (zmeth k).1.name == "<init>"
def zatag (a : ArrayType) : Option Nat := match a with
  | .int => some 20
  | .byte => some 21
  | .boolean => some 22
  | .long => some 23
  | _ => none
/-- one instruction that is no call and no return -/
def zs (sc : Option (Nat × (Nat → Int32))) (d k pc : Nat) (l : List (Nat × Value)) (st : List Value) (M : ZMem) (i : Instr) : Option (ZFr × ZMem) :=
  match i, st with
  | .iconst n, st => some ((pc + 1, l, .int (Int32.ofInt n) :: st), M)
  | .bipush n, st => some ((pc + 2, l, .int (Int8.ofInt n).toInt32 :: st), M)
  | .sipush n, st => some ((pc + 3, l, .int (Int16.ofInt n).toInt32 :: st), M)
  | .lconst n, st => some ((pc + 1, l, .long (Int64.ofNat (n : Nat)) :: st), M)
  | .ldc n, st => match zlk k n with
    | some (9, a, _, _) => some ((pc + 2, l, .ref (2 + a) :: st), M)
    | _ => (zki k n).map (fun v => ((pc + 2, l, .int v.1 :: st), M))
  | .ldc_w n, st => (zki k n).map (fun v => ((pc + 3, l, .int v.1 :: st), M))
  | .ldc2_w n, st => (zkl k n).map (fun v => ((pc + 3, l, .long v.1 :: st), M))
  | .aconst_null, st => some ((pc + 1, l, .null :: st), M)
  | .iload_n n, st => match zget l n with
    | some (.int x) => some ((pc + 1, l, .int x :: st), M)
    | _ => none
  | .iload n, st => match zget l n with
    | some (.int x) => some ((pc + 2, l, .int x :: st), M)
    | _ => none
  | .lload_n n, st => match zget l n with
    | some (.long x) => some ((pc + 1, l, .long x :: st), M)
    | _ => none
  | .lload n, st => match zget l n with
    | some (.long x) => some ((pc + 2, l, .long x :: st), M)
    | _ => none
  | .aload_n n, st => match zget l n with
    | some (.ref x) => some ((pc + 1, l, .ref x :: st), M)
    | some .null => some ((pc + 1, l, .null :: st), M)
    | _ => none
  | .aload n, st => match zget l n with
    | some (.ref x) => some ((pc + 2, l, .ref x :: st), M)
    | some .null => some ((pc + 2, l, .null :: st), M)
    | _ => none
  | .istore_n n, .int x :: st => if (n : Nat) < zml k then some ((pc + 1, zst1 l n (.int x), st), M) else none
  | .istore n, .int x :: st => if n < zml k then some ((pc + 2, zst1 l n (.int x), st), M) else none
  | .astore_n n, .ref x :: st => if (n : Nat) < zml k then some ((pc + 1, zst1 l n (.ref x), st), M) else none
  | .astore_n n, .null :: st => if (n : Nat) < zml k then some ((pc + 1, zst1 l n .null, st), M) else none
  | .astore n, .ref x :: st => if n < zml k then some ((pc + 2, zst1 l n (.ref x), st), M) else none
  | .astore n, .null :: st => if n < zml k then some ((pc + 2, zst1 l n .null, st), M) else none
  | .iinc n c, st => match zget l n with
    | some (.int x) => if n < zml k then some ((pc + 3, zst1 l n (.int (x + Int32.ofInt c)), st), M) else none
    | _ => none
  | .iadd, .int y :: .int x :: st => some ((pc + 1, l, .int (x + y) :: st), M)
  | .isub, .int y :: .int x :: st => some ((pc + 1, l, .int (x - y) :: st), M)
  | .imul, .int y :: .int x :: st => some ((pc + 1, l, .int (x * y) :: st), M)
  | .idiv, .int y :: .int x :: st => if y = 0 then none else some ((pc + 1, l, .int (x / y) :: st), M)
  | .irem, .int y :: .int x :: st => if y = 0 then none else some ((pc + 1, l, .int (x - x / y * y) :: st), M)
  | .ineg, .int x :: st => some ((pc + 1, l, .int (-x) :: st), M)
  | .iand, .int y :: .int x :: st => some ((pc + 1, l, .int (x &&& y) :: st), M)
  | .ior, .int y :: .int x :: st => some ((pc + 1, l, .int (x ||| y) :: st), M)
  | .ixor, .int y :: .int x :: st => some ((pc + 1, l, .int (x ^^^ y) :: st), M)
  | .ishl, .int y :: .int x :: st => some ((pc + 1, l, .int (x <<< (y &&& 31)) :: st), M)
  | .ishr, .int y :: .int x :: st => some ((pc + 1, l, .int (x >>> (y &&& 31)) :: st), M)
  | .iushr, .int y :: .int x :: st => some ((pc + 1, l, .int (x.toUInt32 >>> (y.toUInt32 &&& Int32.toUInt32 31)).toInt32 :: st), M)
  | .lshl, .int y :: .long x :: st => some ((pc + 1, l, .long (x <<< (y.toInt64 &&& 63)) :: st), M)
  | .lor, .long y :: .long x :: st => some ((pc + 1, l, .long (x ||| y) :: st), M)
  | .land, .long y :: .long x :: st => some ((pc + 1, l, .long (x &&& y) :: st), M)
  | .lcmp, .long y :: .long x :: st => some ((pc + 1, l, .int (lg_cmp x y) :: st), M)
  | .i2l, .int x :: st => some ((pc + 1, l, .long x.toInt64 :: st), M)
  | .l2i, .long x :: st => some ((pc + 1, l, .int x.toInt32 :: st), M)
  | .i2b, .int x :: st => some ((pc + 1, l, .int x.toInt8.toInt32 :: st), M)
  | .i2s, .int x :: st => some ((pc + 1, l, .int x.toInt16.toInt32 :: st), M)
  | .i2c, .int x :: st => some ((pc + 1, l, .int (x.toUInt32 % 65536).toInt32 :: st), M)
  | .dup, v :: st => if v.category = 1 then some ((pc + 1, l, v :: v :: st), M) else none
  | .dup2, v :: w :: st => if v.category = 1 ∧ w.category = 1 then some ((pc + 1, l, v :: w :: v :: w :: st), M) else none
  | .pop, v :: st => if v.category = 1 then some ((pc + 1, l, st), M) else none
  | .goto o, st => (zjmp pc o).map (fun t => ((t, l, st), M))
  | .ifCond c o, .int x :: st => (zjmp pc o).map (fun t => ((if zcndB c x 0 then t else pc + 3, l, st), M))
  | .if_icmp c o, .int y :: .int x :: st => (zjmp pc o).map (fun t => ((if zcndB c x y then t else pc + 3, l, st), M))
  | .ifnull o, .null :: st => (zjmp pc o).map (fun t => ((t, l, st), M))
  | .ifnull _, .ref q :: st => if q = 18 then none else some ((pc + 3, l, st), M)
  | .ifnonnull _, .null :: st => some ((pc + 3, l, st), M)
  | .ifnonnull o, .ref q :: st => if q = 18 then none else (zjmp pc o).map (fun t => ((t, l, st), M))
  | .tableswitch df lo hi os, .int x :: st => if os.toList.length = (hi - lo + 1).toNat ∧ lo ≤ hi then (zjmp pc (zsel x (zkeys lo os.toList) df)).map (fun t => ((t, l, st), M)) else none
  | .lookupswitch df ps, .int x :: st => if (ps.toList.zip (ps.toList.drop 1)).all (fun (a, next) => a.1 < next.1) = true then (zjmp pc (zsel x ps.toList df)).map (fun t => ((t, l, st), M)) else none
  | .getfield n, .ref o :: st => match zlk k n with
    | some (0, t, j, _) => (zgf M t j o).map (fun v => ((pc + 3, l, v :: st), M))
    | _ => none
  | .putfield n, v :: .ref o :: st => match zlk k n with
    | some (0, t, j, _) => (zpf M t j o v (zini k && ((zcl t).1 == (zmeth k).1.cls))).map (fun M' => ((pc + 3, l, st), M'))
    | _ => none
  | .getstatic n, st => match zlk k n with
    | some (1, 0, _, _) => some ((pc + 3, l, .ref 1 :: st), M)
    | some (1, 1, _, _) => some ((pc + 3, l, .int 1 :: st), M)
    | some (1, 2, _, _) => some ((pc + 3, l, .ref 18 :: st), M)
    | _ => none
  | .iaload, .int i :: .ref p :: st =>
    if p = 0 then match sc with
      | some (n, xs) => if i < 0 ∨ n ≤ i.toNatClampNeg then none else some ((pc + 1, l, .int (xs i.toNatClampNeg) :: st), M)
      | none => none
    else (zla M (if p = 1 then 31 else 20) p i).map (fun x => ((pc + 1, l, .int x :: st), M))
  | .baload, .int i :: .ref p :: st => (zla M (if p < 20 then 32 else if (zsh M p).1 = 21 then 21 else 22) p i).map (fun x => ((pc + 1, l, .int x :: st), M))
  | .laload, .int i :: .ref p :: st => (zlaL M p i).map (fun x => ((pc + 1, l, .long x :: st), M))
  | .aaload, .int i :: .ref p :: st => (zlaR M p i).map (fun r => ((pc + 1, l, zrf r :: st), M))
  | .iastore, .int x :: .int i :: .ref p :: st => (zsa M 20 p i x).map (fun M' => ((pc + 1, l, st), M'))
  | .bastore, .int x :: .int i :: .ref p :: st => (zsa M (if (zsh M p).1 = 21 then 21 else 22) p i (if (zsh M p).1 = 21 then vp_nar .byte x else vp_nar .boolean x)).map (fun M' => ((pc + 1, l, st), M'))
  | .lastore, .long x :: .int i :: .ref p :: st => (zsaL M p i x).map (fun M' => ((pc + 1, l, st), M'))
  | .aastore, .ref q :: .int i :: .ref p :: st => (zsaR M p i q).map (fun M' => ((pc + 1, l, st), M'))
  | .arraylength, .ref p :: st => (zlen sc M p).map (fun x => ((pc + 1, l, .int x :: st), M))
  | .newarray a, .int n :: st => match zatag a with
    | some t => if ¬ n < 0 ∧ n.toNatClampNeg ≤ 1000 then some ((pc + 2, l, .ref (zn M) :: st), znew M t n.toNatClampNeg n.toNatClampNeg) else none
    | none => none
  | .anewarray n, .int x :: st => match zlk k n with
    | some (6, _, t, _) => if 24 ≤ t ∧ t ≤ 26 ∧ ¬ x < 0 ∧ x.toNatClampNeg ≤ 1000 then some ((pc + 3, l, .ref (zn M) :: st), znew M t x.toNatClampNeg x.toNatClampNeg) else none
    | _ => none
  | .new n, st => match zlk k n with
    | some (6, t, _, _) => if t < 13 then some ((pc + 3, l, .ref (zn M) :: st), znew M t 0 (zN t)) else none
    | _ => none
  | .invokespecial n, .ref o :: st => match zlk k n with
    | some (4, _, _, _) => if 1 ≤ d ∧ o ≠ 18 ∧ (st.map fun v => v.category).sum ≤ 8 then some ((pc + 3, l, st), M) else none
    | _ => none
  | .invokestatic n, .int c :: .int dp :: .ref q :: .int sp :: .ref p :: st => match zlk k n with
    | some (5, _, _, _) => if 1 ≤ d ∧ (st.map fun v => v.category).sum ≤ 8 then (zcopy M p sp q dp c).map (fun M' => ((pc + 3, l, st), M')) else none
    | _ => none
  | _, _ => none
/-- a call: whom, with what, what is left below -/
def zargs (n : Nat) (st : List Value) : Option (List Value × List Value) := if n ≤ st.length then some ((st.take n).reverse, st.drop n) else none
/-- the kind of a method: 0 by its object, 1 static, 2 a constructor -/
def zmk (k : Nat) : Nat := (zmw.getD k (3, 0, 0, 0, 0)).1
def zcall (k : Nat) (i : Instr) (st : List Value) (M : ZMem) : Option (Nat × List Value × List Value) :=
  match i with
  | .invokevirtual n => match zlk k n with
    | some (2, q, np, _) => match zargs np st with
      | some (as, .ref o :: r) => if zmk q = 0 ∧ (((zsh M o).1 < 13 ∧ 20 ≤ o ∧ o < zn M ∧ (zcl (zsh M o).1).1 = (zmeth q).1.cls) ∨ ((zsh M o).1 = 13 ∧ 2 ≤ o ∧ o < 9 ∧ (zmeth q).1.cls = "java/lang/String")) ∧ (r.map fun v => v.category).sum ≤ 8 ∧ (lg_sl (.ref o :: as)).length ≤ zml q then some (q, .ref o :: as, r) else none
      | _ => none
    | _ => none
  | .invokestatic n => match zlk k n with
    | some (2, q, np, _) => match zargs np st with
      | some (as, r) => if zmk q = 1 ∧ (r.map fun v => v.category).sum ≤ 8 ∧ (lg_sl as).length ≤ zml q then some (q, as, r) else none
      | _ => none
    | some (3, q, np, _) => match zargs np st with
      | some (as, r) => if zmk q = 1 ∧ (r.map fun v => v.category).sum ≤ 8 ∧ (lg_sl as).length ≤ zml q then some (q, as, r) else none
      | _ => none
    | _ => none
  | .invokespecial n => match zlk k n with
    | some (2, q, np, _) => match zargs np st with
      | some (as, .ref o :: r) => if zmk q = 2 ∧ o ≠ 18 ∧ (r.map fun v => v.category).sum ≤ 8 ∧ (lg_sl (.ref o :: as)).length ≤ zml q then some (q, .ref o :: as, r) else none
      | _ => none
    | some (3, q, np, _) => match zargs np st with
      | some (as, .ref o :: r) => if zmk q = 2 ∧ o ≠ 18 ∧ (r.map fun v => v.category).sum ≤ 8 ∧ (lg_sl (.ref o :: as)).length ≤ zml q then some (q, .ref o :: as, r) else none
      | _ => none
    | _ => none
  | _ => none
/-- a return: the answer, as the method's type has it -/
def zend (k : Nat) (i : Instr) (st : List Value) : Option (Option Value) :=
  match i, st with
  | .ireturn, [.int v] => match zret k with
    | some ty => if zkd ty = 0 ∧ narrow ty (.int v) = .int v then some (some (.int v)) else none
    | none => none
  | .lreturn, [.long v] => if zret k = some .long then some (some (.long v)) else none
  | .areturn, [.ref v] => match zret k with
    | some ty => if zkd ty = 2 ∧ v ≠ 18 then some (some (.ref v)) else none
    | none => none
  | .areturn, [.null] => match zret k with
    | some ty => if zkd ty = 2 then some (some .null) else none
    | none => none
  | .return_, [] => if zret k = none then some none else none
  | _, _ => none
/-- the run of a method from a frame: depth d of calls, f instructions at most at each depth -/
def zr (sc : Option (Nat × (Nat → Int32))) (d f k : Nat) (g : ZFr) (M : ZMem) : Option (Option Value × ZMem) :=
  match f with
  | 0 => none
  | f + 1 => match zi k g.1 with
    | none => none
    | some i => match zs sc d k g.1 g.2.1 g.2.2 M i with
      | some (g', M') => zr sc d f k g' M'
      | none => match zcall k i g.2.2 M with
        | some (q, as, r) => match d with
          | 0 => none
          | d' + 1 => match zr none d' f q (0, lv_args 0 as, []) M with
            | some (v, M') => zr sc (d' + 1) f k (g.1 + 3, g.2.1, v.toList ++ r) M'
            | none => none
        | none => match zend k i g.2.2 with
          | some v => some (v, M)
          | none => none
end
section
/-! what the kernel checks of the links and words -/
def zG : List Jvm.Cond := lw_tbl.filter goodWord
def zat (w : Nat) (c : Jvm.Cond) : Bool := decide (lw_tbl[w]? = some c) && goodWord c
theorem zat_in {w : Nat} {c : Jvm.Cond} (h : zat w c = true) : c ∈ zG := by
  simp only [zat, Bool.and_eq_true, decide_eq_true_eq] at h
  exact List.mem_filter.mpr ⟨List.mem_of_getElem? h.1, h.2⟩
theorem zG_good : GoodIn lw_tbl zG := fun w hw => ⟨(List.mem_filter.mp hw).1, good_of_word (List.mem_filter.mp hw).2⟩
theorem zG_zG : GoodIn zG zG := fun w hw => ⟨hw, good_of_word (List.mem_filter.mp hw).2⟩
def zown1 (c : Nat) : String := zown.getD c ""
def zlok (c : Nat) (e : Nat × Nat × Nat × Nat × Nat) : Bool := match e with
  | (i, 0, t, j, w) => if t < 13 then decide (j < zN t) && zat w (.fieldLink (zown1 c) i ((zcl t).2.1 j).1 ((zcl t).2.1 j).2.1 ((zcl t).2.1 j).2.2.1) else
      decide (t = 13) && (decide (j = 0) && zat w (.fieldLink (zown1 c) i "java/lang/String" "value" "[B") || decide (j = 1) && zat w (.fieldLink (zown1 c) i "java/lang/String" "coder" "B"))
  | (i, 1, 0, _, w) => zat w (.fieldLink (zown1 c) i "SlateHalves" "ABOVE" "[I")
  | (i, 1, 1, _, w) => zat w (.fieldLink (zown1 c) i "java/lang/String" "COMPACT_STRINGS" "Z")
  | (i, 1, 2, _, w) => zat w (.fieldLink (zown1 c) i "jdk/internal/util/Preconditions" "SIOOBE_FORMATTER" "Ljava/util/function/BiFunction;")
  | (i, 2, q, n, w) => decide (0 < q ∧ q < 240) && decide (n = (zmeth q).2.2.2.2.2) && zat w (.methodLink (zown1 c) i (zmeth q).1)
  | (i, 3, q, n, _) => decide (0 < q ∧ q < 240) && decide (n = (zmeth q).2.2.2.2.2) && znest.any (fun z => decide (z.1 = zown1 c ∧ z.2.1 = i ∧ z.2.2.1 = q))
  | (i, 4, _, _, w) => zat w (.methodLink (zown1 c) i Lib.objectInit)
  | (i, 5, _, _, w) => zat w (.methodLink (zown1 c) i arraycopyName)
  | (i, 6, t, b, w) => decide (t < 13) && zat w (.classLink (zown1 c) i (zcl t).1) && (decide (b = 0) || decide (24 ≤ b ∧ b ≤ 26 ∧ zact b = t))
  | (i, 9, a, _, _) => decide (a < 7) && (match zstr.getD a (0, 0, "") with
    | (c', i', _) => decide (c' = c ∧ i' = i))
  | _ => false
def zkok (c : Nat) (e : Nat × Int32 × Nat) : Bool := zat e.2.2 (.constant (zown1 c) e.1 e.2.1)
def zklok (c : Nat) (e : Nat × Int64 × Nat) : Bool := zat e.2.2 (.constantLong (zown1 c) e.1 e.2.1)
theorem zlok_all : ∀ c, c < 20 → (zlks.getD c []).all (zlok c) = true := by decide +kernel
theorem zkok_all : ∀ c, c < 20 → (zkis.getD c []).all (zkok c) = true := by decide +kernel
theorem zklok_all : ∀ c, c < 20 → (zkls.getD c []).all (zklok c) = true := by decide +kernel
/-- a method's own words -/
def zmok (k : Nat) : Bool := match zmw.getD k (3, 0, 0, 0, 0), zmeth k with
  | (kd, p1, p2, p3, _), (y, _, n, r, _, np) => zat p3 (.initialized y.cls) && plainFor y && decide (y.cls ≠ "java/lang/invoke/MethodHandle" ∧ y.cls ≠ "java/lang/invoke/VarHandle") &&
    decide ((parseMethodDescriptor y.desc).map (fun d => d.parameters.length) = some np) && decide (n ≤ 30) &&
    (match kd with
    | 0 => zat p1 (.instanceMethod y) && zat p2 (.selects y.cls y y) && decide (y.name ≠ "<init>")
    | 1 => zat p1 (.static y)
    | 2 => zat p1 (.instanceMethod y) && decide (y.name = "<init>") && decide (r = none)
    | _ => false)

theorem zmok_1 : ∀ k, k < 20 → zmok (k + 1) = true := by decide +kernel
theorem zmok_21 : ∀ k, k < 20 → zmok (k + 21) = true := by decide +kernel
theorem zmok_41 : ∀ k, k < 20 → zmok (k + 41) = true := by decide +kernel
theorem zmok_61 : ∀ k, k < 20 → zmok (k + 61) = true := by decide +kernel
theorem zmok_81 : ∀ k, k < 20 → zmok (k + 81) = true := by decide +kernel
theorem zmok_101 : ∀ k, k < 20 → zmok (k + 101) = true := by decide +kernel
theorem zmok_121 : ∀ k, k < 20 → zmok (k + 121) = true := by decide +kernel
theorem zmok_141 : ∀ k, k < 20 → zmok (k + 141) = true := by decide +kernel
theorem zmok_161 : ∀ k, k < 20 → zmok (k + 161) = true := by decide +kernel
theorem zmok_181 : ∀ k, k < 20 → zmok (k + 181) = true := by decide +kernel
theorem zmok_201 : ∀ k, k < 20 → zmok (k + 201) = true := by decide +kernel
theorem zmok_221 : ∀ k, k < 19 → zmok (k + 221) = true := by decide +kernel
theorem zmok_all : ∀ k, 0 < k → k < 240 → zmok k = true := by
  intro k h0 hk
  by_cases h1 : k < 21
  · have h := zmok_1 (k - 1) (by omega)
    rwa [show k - 1 + 1 = k by omega] at h
  by_cases h21 : k < 41
  · have h := zmok_21 (k - 21) (by omega)
    rwa [show k - 21 + 21 = k by omega] at h
  by_cases h41 : k < 61
  · have h := zmok_41 (k - 41) (by omega)
    rwa [show k - 41 + 41 = k by omega] at h
  by_cases h61 : k < 81
  · have h := zmok_61 (k - 61) (by omega)
    rwa [show k - 61 + 61 = k by omega] at h
  by_cases h81 : k < 101
  · have h := zmok_81 (k - 81) (by omega)
    rwa [show k - 81 + 81 = k by omega] at h
  by_cases h101 : k < 121
  · have h := zmok_101 (k - 101) (by omega)
    rwa [show k - 101 + 101 = k by omega] at h
  by_cases h121 : k < 141
  · have h := zmok_121 (k - 121) (by omega)
    rwa [show k - 121 + 121 = k by omega] at h
  by_cases h141 : k < 161
  · have h := zmok_141 (k - 141) (by omega)
    rwa [show k - 141 + 141 = k by omega] at h
  by_cases h161 : k < 181
  · have h := zmok_161 (k - 161) (by omega)
    rwa [show k - 161 + 161 = k by omega] at h
  by_cases h181 : k < 201
  · have h := zmok_181 (k - 181) (by omega)
    rwa [show k - 181 + 181 = k by omega] at h
  by_cases h201 : k < 221
  · have h := zmok_201 (k - 201) (by omega)
    rwa [show k - 201 + 201 = k by omega] at h
  by_cases h221 : k < 240
  · have h := zmok_221 (k - 221) (by omega)
    rwa [show k - 221 + 221 = k by omega] at h
  omega
theorem zown_all : ∀ k, k < 240 → zown1 (zcid k) = (zmeth k).1.cls ∧ zcid k < 20 := by decide +kernel
theorem zcw_all : ∀ t, t < 13 → zat (zcw.getD t (0, 0)).1 (.instantiable (zcl t).1 (zcl t).2.2) = true ∧ zat (zcw.getD t (0, 0)).2 (.initialized (zcl t).1) = true := by decide +kernel
theorem zuws : ∀ t, t < 13 → ∀ j, j < zN t → u_lay (zcl t).1 (zcl t).2.1 j ∈ zG := by decide +kernel
theorem zty_ok : ∀ t, t < 13 → ∀ j, j < zN t → parseFieldDescriptor ((zcl t).2.1 j).2.2.1 = some (zty t j) := by decide +kernel
theorem zkd_ok : ∀ t, t < 13 → ∀ j, j < zN t → zkd (zty t j) ≠ 3 := by decide +kernel
theorem znm_ok : ∀ t, t < 13 → ∀ a, a < zN t → ∀ b, b < zN t → a ≠ b → ((zcl t).2.1 a).2.1 ≠ ((zcl t).2.1 b).2.1 := by decide +kernel
theorem zdcl_ok : ∀ t, t < 13 → ∀ j, j < zN t → ((zcl t).2.1 j).1 = (zcl t).1 := by decide +kernel
theorem zvw : ∀ t, t < 13 → vwCl[t]? = some (zcl t) := by
  intro t ht
  unfold zcl
  have h : t < vwCl.length := ht
  rw [List.getD_eq_getElem?_getD, List.getElem?_eq_getElem h]
  rfl
theorem zw_arri : (.arrayClass .int : Jvm.Cond) ∈ zG := List.mem_filter.mpr ⟨by decide +kernel, by decide +kernel⟩
theorem zw_arrb : (.arrayClass .byte : Jvm.Cond) ∈ zG := List.mem_filter.mpr ⟨by decide +kernel, by decide +kernel⟩
theorem zw_arrz : (.arrayClass .boolean : Jvm.Cond) ∈ zG := List.mem_filter.mpr ⟨by decide +kernel, by decide +kernel⟩
theorem zw_arrl : (.arrayClass .long : Jvm.Cond) ∈ zG := List.mem_filter.mpr ⟨by decide +kernel, by decide +kernel⟩
theorem zw_obji : (.instanceMethod Lib.objectInit : Jvm.Cond) ∈ zG := List.mem_filter.mpr ⟨by decide +kernel, by decide +kernel⟩
theorem zw_objc : (.code Lib.objectInit ⟨#[0xb1]⟩ 1 none : Jvm.Cond) ∈ zG := List.mem_filter.mpr ⟨by decide +kernel, by decide +kernel⟩
theorem zw_acn : (.native arraycopyName : Jvm.Cond) ∈ zG := List.mem_filter.mpr ⟨by decide +kernel, by decide +kernel⟩
theorem zw_acs : (.static arraycopyName : Jvm.Cond) ∈ zG := List.mem_filter.mpr ⟨by decide +kernel, by decide +kernel⟩
theorem zw_aci : (.initialized "java/lang/System" : Jvm.Cond) ∈ zG := List.mem_filter.mpr ⟨by decide +kernel, by decide +kernel⟩
theorem zd_all : ∀ k, k < 240 → (ztab k).all (zdk (zmeth k).2.1) = true := by
  intro k hk
  match k, hk with
  | 0, _ => exact zd_0
  | 1, _ => exact zd_1
  | 2, _ => exact zd_2
  | 3, _ => exact zd_3
  | 4, _ => exact zd_4
  | 5, _ => exact zd_5
  | 6, _ => exact zd_6
  | 7, _ => exact zd_7
  | 8, _ => exact zd_8
  | 9, _ => exact zd_9
  | 10, _ => exact zd_10
  | 11, _ => exact zd_11
  | 12, _ => exact zd_12
  | 13, _ => exact zd_13
  | 14, _ => exact zd_14
  | 15, _ => exact zd_15
  | 16, _ => exact zd_16
  | 17, _ => exact zd_17
  | 18, _ => exact zd_18
  | 19, _ => exact zd_19
  | 20, _ => exact zd_20
  | 21, _ => exact zd_21
  | 22, _ => exact zd_22
  | 23, _ => exact zd_23
  | 24, _ => exact zd_24
  | 25, _ => exact zd_25
  | 26, _ => exact zd_26
  | 27, _ => exact zd_27
  | 28, _ => exact zd_28
  | 29, _ => exact zd_29
  | 30, _ => exact zd_30
  | 31, _ => exact zd_31
  | 32, _ => exact zd_32
  | 33, _ => exact zd_33
  | 34, _ => exact zd_34
  | 35, _ => exact zd_35
  | 36, _ => exact zd_36
  | 37, _ => exact zd_37
  | 38, _ => exact zd_38
  | 39, _ => exact zd_39
  | 40, _ => exact zd_40
  | 41, _ => exact zd_41
  | 42, _ => exact zd_42
  | 43, _ => exact zd_43
  | 44, _ => exact zd_44
  | 45, _ => exact zd_45
  | 46, _ => exact zd_46
  | 47, _ => exact zd_47
  | 48, _ => exact zd_48
  | 49, _ => exact zd_49
  | 50, _ => exact zd_50
  | 51, _ => exact zd_51
  | 52, _ => exact zd_52
  | 53, _ => exact zd_53
  | 54, _ => exact zd_54
  | 55, _ => exact zd_55
  | 56, _ => exact zd_56
  | 57, _ => exact zd_57
  | 58, _ => exact zd_58
  | 59, _ => exact zd_59
  | 60, _ => exact zd_60
  | 61, _ => exact zd_61
  | 62, _ => exact zd_62
  | 63, _ => exact zd_63
  | 64, _ => exact zd_64
  | 65, _ => exact zd_65
  | 66, _ => exact zd_66
  | 67, _ => exact zd_67
  | 68, _ => exact zd_68
  | 69, _ => exact zd_69
  | 70, _ => exact zd_70
  | 71, _ => exact zd_71
  | 72, _ => exact zd_72
  | 73, _ => exact zd_73
  | 74, _ => exact zd_74
  | 75, _ => exact zd_75
  | 76, _ => exact zd_76
  | 77, _ => exact zd_77
  | 78, _ => exact zd_78
  | 79, _ => exact zd_79
  | 80, _ => exact zd_80
  | 81, _ => exact zd_81
  | 82, _ => exact zd_82
  | 83, _ => exact zd_83
  | 84, _ => exact zd_84
  | 85, _ => exact zd_85
  | 86, _ => exact zd_86
  | 87, _ => exact zd_87
  | 88, _ => exact zd_88
  | 89, _ => exact zd_89
  | 90, _ => exact zd_90
  | 91, _ => exact zd_91
  | 92, _ => exact zd_92
  | 93, _ => exact zd_93
  | 94, _ => exact zd_94
  | 95, _ => exact zd_95
  | 96, _ => exact zd_96
  | 97, _ => exact zd_97
  | 98, _ => exact zd_98
  | 99, _ => exact zd_99
  | 100, _ => exact zd_100
  | 101, _ => exact zd_101
  | 102, _ => exact zd_102
  | 103, _ => exact zd_103
  | 104, _ => exact zd_104
  | 105, _ => exact zd_105
  | 106, _ => exact zd_106
  | 107, _ => exact zd_107
  | 108, _ => exact zd_108
  | 109, _ => exact zd_109
  | 110, _ => exact zd_110
  | 111, _ => exact zd_111
  | 112, _ => exact zd_112
  | 113, _ => exact zd_113
  | 114, _ => exact zd_114
  | 115, _ => exact zd_115
  | 116, _ => exact zd_116
  | 117, _ => exact zd_117
  | 118, _ => exact zd_118
  | 119, _ => exact zd_119
  | 120, _ => exact zd_120
  | 121, _ => exact zd_121
  | 122, _ => exact zd_122
  | 123, _ => exact zd_123
  | 124, _ => exact zd_124
  | 125, _ => exact zd_125
  | 126, _ => exact zd_126
  | 127, _ => exact zd_127
  | 128, _ => exact zd_128
  | 129, _ => exact zd_129
  | 130, _ => exact zd_130
  | 131, _ => exact zd_131
  | 132, _ => exact zd_132
  | 133, _ => exact zd_133
  | 134, _ => exact zd_134
  | 135, _ => exact zd_135
  | 136, _ => exact zd_136
  | 137, _ => exact zd_137
  | 138, _ => exact zd_138
  | 139, _ => exact zd_139
  | 140, _ => exact zd_140
  | 141, _ => exact zd_141
  | 142, _ => exact zd_142
  | 143, _ => exact zd_143
  | 144, _ => exact zd_144
  | 145, _ => exact zd_145
  | 146, _ => exact zd_146
  | 147, _ => exact zd_147
  | 148, _ => exact zd_148
  | 149, _ => exact zd_149
  | 150, _ => exact zd_150
  | 151, _ => exact zd_151
  | 152, _ => exact zd_152
  | 153, _ => exact zd_153
  | 154, _ => exact zd_154
  | 155, _ => exact zd_155
  | 156, _ => exact zd_156
  | 157, _ => exact zd_157
  | 158, _ => exact zd_158
  | 159, _ => exact zd_159
  | 160, _ => exact zd_160
  | 161, _ => exact zd_161
  | 162, _ => exact zd_162
  | 163, _ => exact zd_163
  | 164, _ => exact zd_164
  | 165, _ => exact zd_165
  | 166, _ => exact zd_166
  | 167, _ => exact zd_167
  | 168, _ => exact zd_168
  | 169, _ => exact zd_169
  | 170, _ => exact zd_170
  | 171, _ => exact zd_171
  | 172, _ => exact zd_172
  | 173, _ => exact zd_173
  | 174, _ => exact zd_174
  | 175, _ => exact zd_175
  | 176, _ => exact zd_176
  | 177, _ => exact zd_177
  | 178, _ => exact zd_178
  | 179, _ => exact zd_179
  | 180, _ => exact zd_180
  | 181, _ => exact zd_181
  | 182, _ => exact zd_182
  | 183, _ => exact zd_183
  | 184, _ => exact zd_184
  | 185, _ => exact zd_185
  | 186, _ => exact zd_186
  | 187, _ => exact zd_187
  | 188, _ => exact zd_188
  | 189, _ => exact zd_189
  | 190, _ => exact zd_190
  | 191, _ => exact zd_191
  | 192, _ => exact zd_192
  | 193, _ => exact zd_193
  | 194, _ => exact zd_194
  | 195, _ => exact zd_195
  | 196, _ => exact zd_196
  | 197, _ => exact zd_197
  | 198, _ => exact zd_198
  | 199, _ => exact zd_199
  | 200, _ => exact zd_200
  | 201, _ => exact zd_201
  | 202, _ => exact zd_202
  | 203, _ => exact zd_203
  | 204, _ => exact zd_204
  | 205, _ => exact zd_205
  | 206, _ => exact zd_206
  | 207, _ => exact zd_207
  | 208, _ => exact zd_208
  | 209, _ => exact zd_209
  | 210, _ => exact zd_210
  | 211, _ => exact zd_211
  | 212, _ => exact zd_212
  | 213, _ => exact zd_213
  | 214, _ => exact zd_214
  | 215, _ => exact zd_215
  | 216, _ => exact zd_216
  | 217, _ => exact zd_217
  | 218, _ => exact zd_218
  | 219, _ => exact zd_219
  | 220, _ => exact zd_220
  | 221, _ => exact zd_221
  | 222, _ => exact zd_222
  | 223, _ => exact zd_223
  | 224, _ => exact zd_224
  | 225, _ => exact zd_225
  | 226, _ => exact zd_226
  | 227, _ => exact zd_227
  | 228, _ => exact zd_228
  | 229, _ => exact zd_229
  | 230, _ => exact zd_230
  | 231, _ => exact zd_231
  | 232, _ => exact zd_232
  | 233, _ => exact zd_233
  | 234, _ => exact zd_234
  | 235, _ => exact zd_235
  | 236, _ => exact zd_236
  | 237, _ => exact zd_237
  | 238, _ => exact zd_238
  | 239, _ => exact zd_239
  | k + 240, h => exact absurd h (by omega)
end
section
/-! each code word among the words -/
theorem zch_t {w : Jvm.Cond} (h : w ∈ tables_1) (hg : goodWord w = true) : w ∈ zG := List.mem_filter.mpr ⟨List.mem_append_right _ h, hg⟩
theorem zch_1 {w : Jvm.Cond} (h : w ∈ tables_1_1) (hg : goodWord w = true) : w ∈ zG := zch_t (List.mem_append_left _ h) hg
theorem zch_2 {w : Jvm.Cond} (h : w ∈ tables_1_2) (hg : goodWord w = true) : w ∈ zG := zch_t (List.mem_append_right _ (List.mem_append_left _ h)) hg
theorem zch_3 {w : Jvm.Cond} (h : w ∈ tables_1_3) (hg : goodWord w = true) : w ∈ zG := zch_t (List.mem_append_right _ (List.mem_append_right _ (List.mem_append_left _ h))) hg
theorem zch_4 {w : Jvm.Cond} (h : w ∈ tables_1_4) (hg : goodWord w = true) : w ∈ zG := zch_t (List.mem_append_right _ (List.mem_append_right _ (List.mem_append_right _ (List.mem_append_left _ h)))) hg
theorem zch_5 {w : Jvm.Cond} (h : w ∈ tables_1_5) (hg : goodWord w = true) : w ∈ zG := zch_t (List.mem_append_right _ (List.mem_append_right _ (List.mem_append_right _ (List.mem_append_right _ (List.mem_append_left _ h))))) hg
theorem zch_6 {w : Jvm.Cond} (h : w ∈ tables_1_6) (hg : goodWord w = true) : w ∈ zG := zch_t (List.mem_append_right _ (List.mem_append_right _ (List.mem_append_right _ (List.mem_append_right _ (List.mem_append_right _ (List.mem_append_left _ h)))))) hg
theorem zch_7 {w : Jvm.Cond} (h : w ∈ tables_1_7) (hg : goodWord w = true) : w ∈ zG := zch_t (List.mem_append_right _ (List.mem_append_right _ (List.mem_append_right _ (List.mem_append_right _ (List.mem_append_right _ (List.mem_append_right _ (h))))))) hg
set_option maxRecDepth 8000 in
theorem zcd_1 : Jvm.Cond.code ⟨"SlateHalves", "<init>", "()V"⟩ prog_1_method_1_code 2 none ∈ zG := zch_1 (List.mem_of_getElem? (i := 27) rfl) rfl
set_option maxRecDepth 8000 in
theorem zcd_2 : Jvm.Cond.code ⟨"SlateHalves$Scene", "<init>", "()V"⟩ prog_9_method_1_code 1 none ∈ zG := zch_1 (List.mem_of_getElem? (i := 35) rfl) rfl
set_option maxRecDepth 8000 in
theorem zcd_3 : Jvm.Cond.code ⟨"SlateHalves$Yard", "<init>", "()V"⟩ prog_12_method_1_code 2 none ∈ zG := zch_1 (List.mem_of_getElem? (i := 41) rfl) rfl
set_option maxRecDepth 8000 in
theorem zcd_4 : Jvm.Cond.code ⟨"SlateHalves$Block", "<init>", "(I)V"⟩ prog_3_method_1_code 2 none ∈ zG := zch_1 (List.mem_of_getElem? (i := 48) rfl) rfl
set_option maxRecDepth 8000 in
theorem zcd_5 : Jvm.Cond.code ⟨"SlateHalves$Rows", "<init>", "(I)V"⟩ prog_8_method_1_code 2 none ∈ zG := zch_1 (List.mem_of_getElem? (i := 120) rfl) rfl
set_option maxRecDepth 8000 in
theorem zcd_6 : Jvm.Cond.code ⟨"SlateHalves$Hill", "<init>", "()V"⟩ prog_5_method_1_code 1 none ∈ zG := zch_1 (List.mem_of_getElem? (i := 166) rfl) rfl
set_option maxRecDepth 8000 in
theorem zcd_7 : Jvm.Cond.code ⟨"SlateHalves$HillReader", "<init>", "()V"⟩ prog_6_method_1_code 1 none ∈ zG := zch_1 (List.mem_of_getElem? (i := 193) rfl) rfl
set_option maxRecDepth 8000 in
theorem zcd_8 : Jvm.Cond.code ⟨"SlateHalves$Blows", "<init>", "()V"⟩ prog_4_method_1_code 1 none ∈ zG := zch_1 (List.mem_of_getElem? (i := 214) rfl) rfl
set_option maxRecDepth 8000 in
theorem zcd_9 : Jvm.Cond.code ⟨"SlateHalves$Valuer", "<init>", "()V"⟩ prog_11_method_1_code 1 none ∈ zG := zch_1 (List.mem_of_getElem? (i := 234) rfl) rfl
set_option maxRecDepth 8000 in
theorem zcd_10 : Jvm.Cond.code ⟨"SlateHalves$Planner", "<init>", "()V"⟩ prog_7_method_1_code 1 none ∈ zG := zch_2 (List.mem_of_getElem? (i := 24) rfl) rfl
set_option maxRecDepth 8000 in
theorem zcd_11 : Jvm.Cond.code ⟨"SlateHalves$Acts", "<init>", "()V"⟩ prog_2_method_1_code 1 none ∈ zG := zch_2 (List.mem_of_getElem? (i := 50) rfl) rfl
set_option maxRecDepth 8000 in
theorem zcd_12 : Jvm.Cond.code ⟨"SlateHalves$Tape", "<init>", "()V"⟩ prog_10_method_1_code 1 none ∈ zG := zch_2 (List.mem_of_getElem? (i := 75) rfl) rfl
set_option maxRecDepth 8000 in
theorem zcd_13 : Jvm.Cond.code ⟨"SlateHalves", "block", "(III)I"⟩ prog_1_method_2_code 5 (Option.some FieldType.int) ∈ zG := zch_2 (List.mem_of_getElem? (i := 140) rfl) rfl
set_option maxRecDepth 8000 in
theorem zcd_14 : Jvm.Cond.code ⟨"SlateHalves", "isWithin", "(III)Z"⟩ prog_1_method_44_code 3 (Option.some FieldType.boolean) ∈ zG := zch_2 (List.mem_of_getElem? (i := 143) rfl) rfl
set_option maxRecDepth 8000 in
theorem zcd_15 : Jvm.Cond.code ⟨"SlateHalves$Yard", "addBlock", "()LSlateHalves$Block;"⟩ prog_12_method_3_code 1 (some (FieldType.object "SlateHalves$Block")) ∈ zG := zch_2 (List.mem_of_getElem? (i := 147) rfl) rfl
set_option maxRecDepth 8000 in
theorem zcd_16 : Jvm.Cond.code ⟨"SlateHalves$Block", "become", "(III)V"⟩ prog_3_method_3_code 4 none ∈ zG := zch_2 (List.mem_of_getElem? (i := 151) rfl) rfl
set_option maxRecDepth 8000 in
theorem zcd_17 : Jvm.Cond.code ⟨"java/util/Arrays", "fill", "([II)V"⟩ prog_22_method_103_code 4 none ∈ zG := zch_2 (List.mem_of_getElem? (i := 154) rfl) rfl
set_option maxRecDepth 8000 in
theorem zcd_18 : Jvm.Cond.code ⟨"SlateHalves", "of", "(II)I"⟩ prog_1_method_3_code 4 (Option.some FieldType.int) ∈ zG := zch_2 (List.mem_of_getElem? (i := 158) rfl) rfl
set_option maxRecDepth 8000 in
theorem zcd_19 : Jvm.Cond.code ⟨"SlateHalves$Yard", "find", "(I)LSlateHalves$Block;"⟩ prog_12_method_2_code 2 (some (FieldType.object "SlateHalves$Block")) ∈ zG := zch_2 (List.mem_of_getElem? (i := 162) rfl) rfl
set_option maxRecDepth 8000 in
theorem zcd_20 : Jvm.Cond.code ⟨"SlateHalves", "holding", "()LSlateHalves$Hill;"⟩ prog_1_method_49_code 2 (some (FieldType.object "SlateHalves$Hill")) ∈ zG := zch_2 (List.mem_of_getElem? (i := 167) rfl) rfl
set_option maxRecDepth 8000 in
theorem zcd_21 : Jvm.Cond.code ⟨"SlateHalves$Hill", "priceOf", "(LSlateHalves$Block;I)I"⟩ prog_5_method_6_code 7 (Option.some FieldType.int) ∈ zG := zch_2 (List.mem_of_getElem? (i := 171) rfl) rfl
set_option maxRecDepth 8000 in
theorem zcd_22 : Jvm.Cond.code ⟨"SlateHalves$Hill", "holdsTest", "(ILSlateHalves$Block;I)Z"⟩ prog_5_method_7_code 5 (Option.some FieldType.boolean) ∈ zG := zch_2 (List.mem_of_getElem? (i := 174) rfl) rfl
set_option maxRecDepth 8000 in
theorem zcd_23 : Jvm.Cond.code ⟨"SlateHalves$Hill", "looksAt", "(ILSlateHalves$Block;I)I"⟩ prog_5_method_8_code 3 (Option.some FieldType.int) ∈ zG := zch_2 (List.mem_of_getElem? (i := 177) rfl) rfl
set_option maxRecDepth 8000 in
theorem zcd_24 : Jvm.Cond.code ⟨"java/lang/Math", "max", "(II)I"⟩ prog_17_method_65_code 2 (Option.some FieldType.int) ∈ zG := zch_2 (List.mem_of_getElem? (i := 180) rfl) rfl
set_option maxRecDepth 8000 in
theorem zcd_25 : Jvm.Cond.code ⟨"SlateHalves", "gripOf", "(III)I"⟩ prog_1_method_46_code 4 (Option.some FieldType.int) ∈ zG := zch_2 (List.mem_of_getElem? (i := 183) rfl) rfl
set_option maxRecDepth 8000 in
theorem zcd_26 : Jvm.Cond.code ⟨"SlateHalves", "driesOf", "(LSlateHalves$Block;I)I"⟩ prog_1_method_47_code 2 (Option.some FieldType.int) ∈ zG := zch_2 (List.mem_of_getElem? (i := 187) rfl) rfl
set_option maxRecDepth 8000 in
theorem zcd_27 : Jvm.Cond.code ⟨"SlateHalves", "valueOf", "(LSlateHalves$Block;I)I"⟩ prog_1_method_4_code 3 (Option.some FieldType.int) ∈ zG := zch_2 (List.mem_of_getElem? (i := 191) rfl) rfl
set_option maxRecDepth 8000 in
theorem zcd_28 : Jvm.Cond.code ⟨"SlateHalves$Valuer", "setBy", "(LSlateHalves$Block;ILSlateHalves$Hill;)V"⟩ prog_11_method_2_code 4 none ∈ zG := zch_2 (List.mem_of_getElem? (i := 195) rfl) rfl
set_option maxRecDepth 8000 in
theorem zcd_29 : Jvm.Cond.code ⟨"SlateHalves$Blows", "setAs", "(LSlateHalves$Block;III)V"⟩ prog_4_method_3_code 5 none ∈ zG := zch_2 (List.mem_of_getElem? (i := 199) rfl) rfl
set_option maxRecDepth 8000 in
theorem zcd_30 : Jvm.Cond.code ⟨"java/lang/Math", "floorMod", "(II)I"⟩ prog_17_method_50_code 3 (Option.some FieldType.int) ∈ zG := zch_2 (List.mem_of_getElem? (i := 203) rfl) rfl
set_option maxRecDepth 8000 in
theorem zcd_31 : Jvm.Cond.code ⟨"SlateHalves$Hill", "thinnest", "()I"⟩ prog_5_method_3_code 1 (Option.some FieldType.int) ∈ zG := zch_2 (List.mem_of_getElem? (i := 207) rfl) rfl
set_option maxRecDepth 8000 in
theorem zcd_32 : Jvm.Cond.code ⟨"SlateHalves$Hill", "thickest", "()I"⟩ prog_5_method_4_code 1 (Option.some FieldType.int) ∈ zG := zch_2 (List.mem_of_getElem? (i := 211) rfl) rfl
set_option maxRecDepth 8000 in
theorem zcd_33 : Jvm.Cond.code ⟨"SlateHalves$Valuer", "worthOf", "(I)I"⟩ prog_11_method_3_code 2 (Option.some FieldType.int) ∈ zG := zch_2 (List.mem_of_getElem? (i := 217) rfl) rfl
set_option maxRecDepth 8000 in
theorem zcd_34 : Jvm.Cond.code ⟨"SlateHalves$Valuer", "bestOf", "(I)I"⟩ prog_11_method_4_code 2 (Option.some FieldType.int) ∈ zG := zch_2 (List.mem_of_getElem? (i := 221) rfl) rfl
set_option maxRecDepth 8000 in
theorem zcd_35 : Jvm.Cond.code ⟨"SlateHalves$Valuer", "fillBest", "(I)V"⟩ prog_11_method_10_code 7 none ∈ zG := zch_2 (List.mem_of_getElem? (i := 225) rfl) rfl
set_option maxRecDepth 8000 in
theorem zcd_36 : Jvm.Cond.code ⟨"SlateHalves$Valuer", "limited", "(I)I"⟩ prog_11_method_13_code 1 (Option.some FieldType.int) ∈ zG := zch_2 (List.mem_of_getElem? (i := 228) rfl) rfl
set_option maxRecDepth 8000 in
theorem zcd_37 : Jvm.Cond.code ⟨"java/lang/Math", "min", "(II)I"⟩ prog_17_method_69_code 2 (Option.some FieldType.int) ∈ zG := zch_2 (List.mem_of_getElem? (i := 231) rfl) rfl
set_option maxRecDepth 8000 in
theorem zcd_38 : Jvm.Cond.code ⟨"SlateHalves$Blows", "greatestNear", "(I)I"⟩ prog_4_method_6_code 2 (Option.some FieldType.int) ∈ zG := zch_2 (List.mem_of_getElem? (i := 237) rfl) rfl
set_option maxRecDepth 8000 in
theorem zcd_39 : Jvm.Cond.code ⟨"SlateHalves$Blows", "leastNear", "(I)I"⟩ prog_4_method_5_code 2 (Option.some FieldType.int) ∈ zG := zch_3 (List.mem_of_getElem? (i := 2) rfl) rfl
set_option maxRecDepth 8000 in
theorem zcd_40 : Jvm.Cond.code ⟨"SlateHalves$Valuer", "cleanSum", "(II)I"⟩ prog_11_method_11_code 3 (Option.some FieldType.int) ∈ zG := zch_3 (List.mem_of_getElem? (i := 7) rfl) rfl
set_option maxRecDepth 8000 in
theorem zcd_41 : Jvm.Cond.code ⟨"SlateHalves$Blows", "isCleanAt", "(II)Z"⟩ prog_4_method_4_code 5 (Option.some FieldType.boolean) ∈ zG := zch_3 (List.mem_of_getElem? (i := 12) rfl) rfl
set_option maxRecDepth 8000 in
theorem zcd_42 : Jvm.Cond.code ⟨"SlateHalves$Valuer", "fewOf", "(I)I"⟩ prog_11_method_6_code 4 (Option.some FieldType.int) ∈ zG := zch_3 (List.mem_of_getElem? (i := 16) rfl) rfl
set_option maxRecDepth 8000 in
theorem zcd_43 : Jvm.Cond.code ⟨"SlateHalves$Valuer", "fewestBehind", "(I)I"⟩ prog_11_method_7_code 4 (Option.some FieldType.int) ∈ zG := zch_3 (List.mem_of_getElem? (i := 20) rfl) rfl
set_option maxRecDepth 8000 in
theorem zcd_44 : Jvm.Cond.code ⟨"SlateHalves$Valuer", "behind", "([III)I"⟩ prog_11_method_12_code 4 (Option.some FieldType.int) ∈ zG := zch_3 (List.mem_of_getElem? (i := 24) rfl) rfl
set_option maxRecDepth 8000 in
theorem zcd_45 : Jvm.Cond.code ⟨"SlateHalves$Valuer", "manyOf", "(I)I"⟩ prog_11_method_5_code 2 (Option.some FieldType.int) ∈ zG := zch_3 (List.mem_of_getElem? (i := 28) rfl) rfl
set_option maxRecDepth 8000 in
theorem zcd_46 : Jvm.Cond.code ⟨"SlateHalves$Valuer", "halvesOf", "(I)I"⟩ prog_11_method_8_code 4 (Option.some FieldType.int) ∈ zG := zch_3 (List.mem_of_getElem? (i := 33) rfl) rfl
set_option maxRecDepth 8000 in
theorem zcd_47 : Jvm.Cond.code ⟨"SlateHalves$Valuer", "blowOf", "(I)I"⟩ prog_11_method_9_code 4 (Option.some FieldType.int) ∈ zG := zch_3 (List.mem_of_getElem? (i := 37) rfl) rfl
set_option maxRecDepth 8000 in
theorem zcd_48 : Jvm.Cond.code ⟨"SlateHalves", "dry", "(II)I"⟩ prog_1_method_5_code 5 (Option.some FieldType.int) ∈ zG := zch_3 (List.mem_of_getElem? (i := 41) rfl) rfl
set_option maxRecDepth 8000 in
theorem zcd_49 : Jvm.Cond.code ⟨"SlateHalves", "row", "(III)I"⟩ prog_1_method_6_code 6 (Option.some FieldType.int) ∈ zG := zch_3 (List.mem_of_getElem? (i := 45) rfl) rfl
set_option maxRecDepth 8000 in
theorem zcd_50 : Jvm.Cond.code ⟨"SlateHalves", "strike", "(II)I"⟩ prog_1_method_7_code 6 (Option.some FieldType.int) ∈ zG := zch_3 (List.mem_of_getElem? (i := 49) rfl) rfl
set_option maxRecDepth 8000 in
theorem zcd_51 : Jvm.Cond.code ⟨"SlateHalves", "isCleanBlow", "(LSlateHalves$Block;II)Z"⟩ prog_1_method_50_code 4 (Option.some FieldType.boolean) ∈ zG := zch_3 (List.mem_of_getElem? (i := 53) rfl) rfl
set_option maxRecDepth 8000 in
theorem zcd_52 : Jvm.Cond.code ⟨"SlateHalves$Blows", "setBy", "(LSlateHalves$Block;I)V"⟩ prog_4_method_2_code 3 none ∈ zG := zch_3 (List.mem_of_getElem? (i := 57) rfl) rfl
set_option maxRecDepth 8000 in
theorem zcd_53 : Jvm.Cond.code ⟨"SlateHalves$Block", "copyFrom", "(LSlateHalves$Block;)V"⟩ prog_3_method_4_code 2 none ∈ zG := zch_3 (List.mem_of_getElem? (i := 63) rfl) rfl
set_option maxRecDepth 8000 in
theorem zcd_54 : Jvm.Cond.code ⟨"SlateHalves", "clean", "(III)I"⟩ prog_1_method_8_code 5 (Option.some FieldType.int) ∈ zG := zch_3 (List.mem_of_getElem? (i := 70) rfl) rfl
set_option maxRecDepth 8000 in
theorem zcd_55 : Jvm.Cond.code ⟨"SlateHalves", "isBlow", "(II)Z"⟩ prog_1_method_45_code 2 (Option.some FieldType.boolean) ∈ zG := zch_3 (List.mem_of_getElem? (i := 73) rfl) rfl
set_option maxRecDepth 8000 in
theorem zcd_56 : Jvm.Cond.code ⟨"SlateHalves", "sell", "(I)I"⟩ prog_1_method_9_code 4 (Option.some FieldType.int) ∈ zG := zch_3 (List.mem_of_getElem? (i := 77) rfl) rfl
set_option maxRecDepth 8000 in
theorem zcd_57 : Jvm.Cond.code ⟨"SlateHalves$Block", "isGone", "()Z"⟩ prog_3_method_2_code 1 (Option.some FieldType.boolean) ∈ zG := zch_3 (List.mem_of_getElem? (i := 81) rfl) rfl
set_option maxRecDepth 8000 in
theorem zcd_58 : Jvm.Cond.code ⟨"SlateHalves", "worthIn", "(LSlateHalves$Yard;LSlateHalves$Block;)I"⟩ prog_1_method_51_code 3 (Option.some FieldType.int) ∈ zG := zch_3 (List.mem_of_getElem? (i := 85) rfl) rfl
set_option maxRecDepth 8000 in
theorem zcd_59 : Jvm.Cond.code ⟨"SlateHalves", "feed", "(I)I"⟩ prog_1_method_10_code 2 (Option.some FieldType.int) ∈ zG := zch_3 (List.mem_of_getElem? (i := 91) rfl) rfl
set_option maxRecDepth 8000 in
theorem zcd_60 : Jvm.Cond.code ⟨"SlateHalves", "hill", "()I"⟩ prog_1_method_11_code 2 (Option.some FieldType.int) ∈ zG := zch_3 (List.mem_of_getElem? (i := 95) rfl) rfl
set_option maxRecDepth 8000 in
theorem zcd_61 : Jvm.Cond.code ⟨"SlateHalves$HillReader", "fillHill", "(LSlateHalves$Hill;[BI)I"⟩ prog_6_method_2_code 5 (Option.some FieldType.int) ∈ zG := zch_3 (List.mem_of_getElem? (i := 99) rfl) rfl
set_option maxRecDepth 8000 in
theorem zcd_62 : Jvm.Cond.code ⟨"SlateHalves$Hill", "clear", "()V"⟩ prog_5_method_2_code 1 none ∈ zG := zch_3 (List.mem_of_getElem? (i := 104) rfl) rfl
set_option maxRecDepth 8000 in
theorem zcd_63 : Jvm.Cond.code ⟨"SlateHalves$HillReader", "takeClause", "()Z"⟩ prog_6_method_5_code 3 (Option.some FieldType.boolean) ∈ zG := zch_3 (List.mem_of_getElem? (i := 108) rfl) rfl
set_option maxRecDepth 8000 in
theorem zcd_64 : Jvm.Cond.code ⟨"SlateHalves$HillReader", "takeWord", "()I"⟩ prog_6_method_7_code 4 (Option.some FieldType.int) ∈ zG := zch_3 (List.mem_of_getElem? (i := 112) rfl) rfl
set_option maxRecDepth 8000 in
theorem zcd_65 : Jvm.Cond.code ⟨"SlateHalves$HillReader", "wordOf", "(I)Ljava/lang/String;"⟩ prog_6_method_6_code 1 (some (FieldType.object "java/lang/String")) ∈ zG := zch_3 (List.mem_of_getElem? (i := 115) rfl) rfl
set_option maxRecDepth 8000 in
theorem zcd_66 : Jvm.Cond.code ⟨"SlateHalves$HillReader", "sameSigns", "(Ljava/lang/String;)I"⟩ prog_6_method_8_code 4 (Option.some FieldType.int) ∈ zG := zch_3 (List.mem_of_getElem? (i := 124) rfl) rfl
set_option maxRecDepth 8000 in
theorem zcd_67 : Jvm.Cond.code ⟨"java/lang/String", "length", "()I"⟩ prog_18_method_54_code 1 (Option.some FieldType.int) ∈ zG := zch_3 (List.mem_of_getElem? (i := 128) rfl) rfl
set_option maxRecDepth 8000 in
theorem zcd_68 : Jvm.Cond.code ⟨"java/lang/String", "coder", "()B"⟩ prog_18_method_152_code 1 (Option.some FieldType.byte) ∈ zG := zch_3 (List.mem_of_getElem? (i := 132) rfl) rfl
set_option maxRecDepth 8000 in
theorem zcd_69 : Jvm.Cond.code ⟨"java/lang/String", "charAt", "(I)C"⟩ prog_18_method_56_code 2 (Option.some FieldType.char) ∈ zG := zch_3 (List.mem_of_getElem? (i := 138) rfl) rfl
set_option maxRecDepth 8000 in
theorem zcd_70 : Jvm.Cond.code ⟨"java/lang/String", "isLatin1", "()Z"⟩ prog_18_method_154_code 1 (Option.some FieldType.boolean) ∈ zG := zch_3 (List.mem_of_getElem? (i := 142) rfl) rfl
set_option maxRecDepth 8000 in
theorem zcd_71 : Jvm.Cond.code ⟨"java/lang/StringLatin1", "charAt", "([BI)C"⟩ prog_19_method_2_code 2 (Option.some FieldType.char) ∈ zG := zch_3 (List.mem_of_getElem? (i := 145) rfl) rfl
set_option maxRecDepth 8000 in
theorem zcd_72 : Jvm.Cond.code ⟨"java/lang/String", "checkIndex", "(II)V"⟩ prog_18_method_155_code 2 none ∈ zG := zch_3 (List.mem_of_getElem? (i := 148) rfl) rfl
set_option maxRecDepth 8000 in
theorem zcd_73 : Jvm.Cond.code ⟨"jdk/internal/util/Preconditions", "checkIndex", "(IILjava/util/function/BiFunction;)I"⟩ prog_23_method_11_code 3 (Option.some FieldType.int) ∈ zG := zch_3 (List.mem_of_getElem? (i := 153) rfl) rfl
set_option maxRecDepth 8000 in
theorem zcd_74 : Jvm.Cond.code ⟨"SlateHalves$HillReader", "takeSign", "(I)Z"⟩ prog_6_method_4_code 2 (Option.some FieldType.boolean) ∈ zG := zch_3 (List.mem_of_getElem? (i := 177) rfl) rfl
set_option maxRecDepth 8000 in
theorem zcd_75 : Jvm.Cond.code ⟨"SlateHalves$HillReader", "sign", "()I"⟩ prog_6_method_3_code 1 (Option.some FieldType.int) ∈ zG := zch_3 (List.mem_of_getElem? (i := 181) rfl) rfl
set_option maxRecDepth 8000 in
theorem zcd_76 : Jvm.Cond.code ⟨"SlateHalves$HillReader", "takeNumber", "()I"⟩ prog_6_method_9_code 3 (Option.some FieldType.int) ∈ zG := zch_3 (List.mem_of_getElem? (i := 185) rfl) rfl
set_option maxRecDepth 8000 in
theorem zcd_77 : Jvm.Cond.code ⟨"SlateHalves$HillReader", "takeEither", "(I)Z"⟩ prog_6_method_10_code 3 (Option.some FieldType.boolean) ∈ zG := zch_3 (List.mem_of_getElem? (i := 190) rfl) rfl
set_option maxRecDepth 8000 in
theorem zcd_78 : Jvm.Cond.code ⟨"SlateHalves$HillReader", "takeBoth", "(I)Z"⟩ prog_6_method_11_code 3 (Option.some FieldType.boolean) ∈ zG := zch_3 (List.mem_of_getElem? (i := 194) rfl) rfl
set_option maxRecDepth 8000 in
theorem zcd_79 : Jvm.Cond.code ⟨"SlateHalves$HillReader", "takePart", "(I)Z"⟩ prog_6_method_12_code 2 (Option.some FieldType.boolean) ∈ zG := zch_3 (List.mem_of_getElem? (i := 198) rfl) rfl
set_option maxRecDepth 8000 in
theorem zcd_80 : Jvm.Cond.code ⟨"SlateHalves$HillReader", "takeTest", "()Z"⟩ prog_6_method_13_code 4 (Option.some FieldType.boolean) ∈ zG := zch_3 (List.mem_of_getElem? (i := 202) rfl) rfl
set_option maxRecDepth 8000 in
theorem zcd_81 : Jvm.Cond.code ⟨"SlateHalves$HillReader", "takeOneOf", "(Ljava/lang/String;)I"⟩ prog_6_method_14_code 3 (Option.some FieldType.int) ∈ zG := zch_3 (List.mem_of_getElem? (i := 207) rfl) rfl
set_option maxRecDepth 8000 in
theorem zcd_82 : Jvm.Cond.code ⟨"java/lang/String", "indexOf", "(I)I"⟩ prog_18_method_79_code 2 (Option.some FieldType.int) ∈ zG := zch_3 (List.mem_of_getElem? (i := 211) rfl) rfl
set_option maxRecDepth 8000 in
theorem zcd_83 : Jvm.Cond.code ⟨"java/lang/String", "indexOf", "(II)I"⟩ prog_18_method_80_code 3 (Option.some FieldType.int) ∈ zG := zch_3 (List.mem_of_getElem? (i := 215) rfl) rfl
set_option maxRecDepth 8000 in
theorem zcd_84 : Jvm.Cond.code ⟨"java/lang/StringLatin1", "indexOf", "([BIII)I"⟩ prog_19_method_22_code 4 (Option.some FieldType.int) ∈ zG := zch_3 (List.mem_of_getElem? (i := 219) rfl) rfl
set_option maxRecDepth 8000 in
theorem zcd_85 : Jvm.Cond.code ⟨"java/lang/StringLatin1", "canEncode", "(I)Z"⟩ prog_19_method_4_code 1 (Option.some FieldType.boolean) ∈ zG := zch_3 (List.mem_of_getElem? (i := 222) rfl) rfl
set_option maxRecDepth 8000 in
theorem zcd_86 : Jvm.Cond.code ⟨"java/lang/StringLatin1", "indexOfChar", "([BIII)I"⟩ prog_19_method_23_code 6 (Option.some FieldType.int) ∈ zG := zch_3 (List.mem_of_getElem? (i := 227) rfl) rfl
set_option maxRecDepth 8000 in
theorem zcd_87 : Jvm.Cond.code ⟨"SlateHalves$Hill", "addStep", "(IIII)V"⟩ prog_5_method_5_code 5 none ∈ zG := zch_4 (List.mem_of_getElem? (i := 27) rfl) rfl
set_option maxRecDepth 8000 in
theorem zcd_88 : Jvm.Cond.code ⟨"SlateHalves", "told", "(I)I"⟩ prog_1_method_12_code 2 (Option.some FieldType.int) ∈ zG := zch_4 (List.mem_of_getElem? (i := 31) rfl) rfl
set_option maxRecDepth 8000 in
theorem zcd_89 : Jvm.Cond.code ⟨"SlateHalves", "bestOfAll", "(LSlateHalves$Yard;)I"⟩ prog_1_method_53_code 4 (Option.some FieldType.int) ∈ zG := zch_4 (List.mem_of_getElem? (i := 37) rfl) rfl
set_option maxRecDepth 8000 in
theorem zcd_90 : Jvm.Cond.code ⟨"SlateHalves", "bestIn", "(LSlateHalves$Yard;LSlateHalves$Block;)I"⟩ prog_1_method_52_code 3 (Option.some FieldType.int) ∈ zG := zch_4 (List.mem_of_getElem? (i := 41) rfl) rfl
set_option maxRecDepth 8000 in
theorem zcd_91 : Jvm.Cond.code ⟨"SlateHalves", "pass", "(I)I"⟩ prog_1_method_13_code 2 (Option.some FieldType.int) ∈ zG := zch_4 (List.mem_of_getElem? (i := 45) rfl) rfl
set_option maxRecDepth 8000 in
theorem zcd_92 : Jvm.Cond.code ⟨"SlateHalves$Yard", "goDays", "(II)V"⟩ prog_12_method_5_code 5 none ∈ zG := zch_4 (List.mem_of_getElem? (i := 49) rfl) rfl
set_option maxRecDepth 8000 in
theorem zcd_93 : Jvm.Cond.code ⟨"SlateHalves", "on", "(II)I"⟩ prog_1_method_14_code 5 (Option.some FieldType.int) ∈ zG := zch_4 (List.mem_of_getElem? (i := 56) rfl) rfl
set_option maxRecDepth 8000 in
theorem zcd_94 : Jvm.Cond.code ⟨"SlateHalves", "lookAhead", "(I)V"⟩ prog_1_method_54_code 2 none ∈ zG := zch_4 (List.mem_of_getElem? (i := 60) rfl) rfl
set_option maxRecDepth 8000 in
theorem zcd_95 : Jvm.Cond.code ⟨"SlateHalves$Yard", "copyFrom", "(LSlateHalves$Yard;)V"⟩ prog_12_method_6_code 3 none ∈ zG := zch_4 (List.mem_of_getElem? (i := 64) rfl) rfl
set_option maxRecDepth 8000 in
theorem zcd_96 : Jvm.Cond.code ⟨"SlateHalves", "lasts", "(I)I"⟩ prog_1_method_15_code 3 (Option.some FieldType.int) ∈ zG := zch_4 (List.mem_of_getElem? (i := 69) rfl) rfl
set_option maxRecDepth 8000 in
theorem zcd_97 : Jvm.Cond.code ⟨"SlateHalves", "order", "(I)I"⟩ prog_1_method_16_code 2 (Option.some FieldType.int) ∈ zG := zch_4 (List.mem_of_getElem? (i := 74) rfl) rfl
set_option maxRecDepth 8000 in
theorem zcd_98 : Jvm.Cond.code ⟨"SlateHalves", "planOrder", "()V"⟩ prog_1_method_17_code 5 none ∈ zG := zch_4 (List.mem_of_getElem? (i := 78) rfl) rfl
set_option maxRecDepth 8000 in
theorem zcd_99 : Jvm.Cond.code ⟨"java/lang/Integer", "bitCount", "(I)I"⟩ prog_16_method_49_code 1 (Option.some FieldType.int) ∈ zG := zch_4 (List.mem_of_getElem? (i := 81) rfl) rfl
set_option maxRecDepth 8000 in
theorem zcd_100 : Jvm.Cond.code ⟨"SlateHalves$Planner", "plan", "(I)V"⟩ prog_7_method_2_code 4 none ∈ zG := zch_4 (List.mem_of_getElem? (i := 88) rfl) rfl
set_option maxRecDepth 8000 in
theorem zcd_101 : Jvm.Cond.code ⟨"SlateHalves$Planner", "mostOf", "(I)I"⟩ prog_7_method_3_code 4 (Option.some FieldType.int) ∈ zG := zch_4 (List.mem_of_getElem? (i := 94) rfl) rfl
set_option maxRecDepth 8000 in
theorem zcd_102 : Jvm.Cond.code ⟨"SlateHalves$Planner", "sumWith", "(II)I"⟩ prog_7_method_5_code 5 (Option.some FieldType.int) ∈ zG := zch_4 (List.mem_of_getElem? (i := 98) rfl) rfl
set_option maxRecDepth 8000 in
theorem zcd_103 : Jvm.Cond.code ⟨"SlateHalves$Planner", "firstOf", "(I)I"⟩ prog_7_method_4_code 3 (Option.some FieldType.int) ∈ zG := zch_4 (List.mem_of_getElem? (i := 104) rfl) rfl
set_option maxRecDepth 8000 in
theorem zcd_104 : Jvm.Cond.code ⟨"SlateHalves", "loses", "(I)I"⟩ prog_1_method_18_code 3 (Option.some FieldType.int) ∈ zG := zch_4 (List.mem_of_getElem? (i := 108) rfl) rfl
set_option maxRecDepth 8000 in
theorem zcd_105 : Jvm.Cond.code ⟨"SlateHalves", "lossOf", "(LSlateHalves$Block;)I"⟩ prog_1_method_19_code 4 (Option.some FieldType.int) ∈ zG := zch_4 (List.mem_of_getElem? (i := 112) rfl) rfl
set_option maxRecDepth 8000 in
theorem zcd_106 : Jvm.Cond.code ⟨"SlateHalves", "worst", "()I"⟩ prog_1_method_20_code 6 (Option.some FieldType.int) ∈ zG := zch_4 (List.mem_of_getElem? (i := 116) rfl) rfl
set_option maxRecDepth 8000 in
theorem zcd_107 : Jvm.Cond.code ⟨"SlateHalves", "see", "(IIZ)I"⟩ prog_1_method_21_code 4 (Option.some FieldType.int) ∈ zG := zch_4 (List.mem_of_getElem? (i := 120) rfl) rfl
set_option maxRecDepth 8000 in
theorem zcd_108 : Jvm.Cond.code ⟨"SlateHalves$Rows", "addRow", "(III)I"⟩ prog_8_method_2_code 4 (Option.some FieldType.int) ∈ zG := zch_4 (List.mem_of_getElem? (i := 124) rfl) rfl
set_option maxRecDepth 8000 in
theorem zcd_109 : Jvm.Cond.code ⟨"SlateHalves", "dryness", "(II)I"⟩ prog_1_method_22_code 3 (Option.some FieldType.int) ∈ zG := zch_4 (List.mem_of_getElem? (i := 128) rfl) rfl
set_option maxRecDepth 8000 in
theorem zcd_110 : Jvm.Cond.code ⟨"SlateHalves", "fitting", "(IIIZ)I"⟩ prog_1_method_24_code 9 (Option.some FieldType.int) ∈ zG := zch_4 (List.mem_of_getElem? (i := 132) rfl) rfl
set_option maxRecDepth 8000 in
theorem zcd_111 : Jvm.Cond.code ⟨"SlateHalves", "isAllSeenSo", "()Z"⟩ prog_1_method_25_code 3 (Option.some FieldType.boolean) ∈ zG := zch_4 (List.mem_of_getElem? (i := 137) rfl) rfl
set_option maxRecDepth 8000 in
theorem zcd_112 : Jvm.Cond.code ⟨"SlateHalves", "can", "(II)I"⟩ prog_1_method_23_code 3 (Option.some FieldType.int) ∈ zG := zch_4 (List.mem_of_getElem? (i := 141) rfl) rfl
set_option maxRecDepth 8000 in
theorem zcd_113 : Jvm.Cond.code ⟨"SlateHalves", "odds", "(II)J"⟩ prog_1_method_26_code 6 (Option.some FieldType.long) ∈ zG := zch_4 (List.mem_of_getElem? (i := 145) rfl) rfl
set_option maxRecDepth 8000 in
theorem zcd_114 : Jvm.Cond.code ⟨"SlateHalves", "partOf", "(III)J"⟩ prog_1_method_48_code 6 (Option.some FieldType.long) ∈ zG := zch_4 (List.mem_of_getElem? (i := 149) rfl) rfl
set_option maxRecDepth 8000 in
theorem zcd_115 : Jvm.Cond.code ⟨"SlateHalves", "mean", "(I)J"⟩ prog_1_method_27_code 5 (Option.some FieldType.long) ∈ zG := zch_4 (List.mem_of_getElem? (i := 153) rfl) rfl
set_option maxRecDepth 8000 in
theorem zcd_116 : Jvm.Cond.code ⟨"SlateHalves", "week", "(II)I"⟩ prog_1_method_28_code 3 (Option.some FieldType.int) ∈ zG := zch_4 (List.mem_of_getElem? (i := 157) rfl) rfl
set_option maxRecDepth 8000 in
theorem zcd_117 : Jvm.Cond.code ⟨"SlateHalves", "ends", "(I)I"⟩ prog_1_method_29_code 4 (Option.some FieldType.int) ∈ zG := zch_4 (List.mem_of_getElem? (i := 161) rfl) rfl
set_option maxRecDepth 8000 in
theorem zcd_118 : Jvm.Cond.code ⟨"SlateHalves", "goRow", "(ILSlateHalves$Block;)I"⟩ prog_1_method_30_code 4 (Option.some FieldType.int) ∈ zG := zch_4 (List.mem_of_getElem? (i := 165) rfl) rfl
set_option maxRecDepth 8000 in
theorem zcd_119 : Jvm.Cond.code ⟨"SlateHalves$Yard", "countPresent", "()I"⟩ prog_12_method_4_code 3 (Option.some FieldType.int) ∈ zG := zch_4 (List.mem_of_getElem? (i := 169) rfl) rfl
set_option maxRecDepth 8000 in
theorem zcd_120 : Jvm.Cond.code ⟨"SlateHalves", "book", "(II)I"⟩ prog_1_method_31_code 3 (Option.some FieldType.int) ∈ zG := zch_4 (List.mem_of_getElem? (i := 173) rfl) rfl
set_option maxRecDepth 8000 in
theorem zcd_121 : Jvm.Cond.code ⟨"SlateHalves", "looked", "()I"⟩ prog_1_method_32_code 3 (Option.some FieldType.int) ∈ zG := zch_4 (List.mem_of_getElem? (i := 177) rfl) rfl
set_option maxRecDepth 8000 in
theorem zcd_122 : Jvm.Cond.code ⟨"SlateHalves", "judge", "(II)I"⟩ prog_1_method_33_code 5 (Option.some FieldType.int) ∈ zG := zch_4 (List.mem_of_getElem? (i := 181) rfl) rfl
set_option maxRecDepth 8000 in
theorem zcd_123 : Jvm.Cond.code ⟨"SlateHalves$Tape", "isNothing", "()Z"⟩ prog_10_method_2_code 1 (Option.some FieldType.boolean) ∈ zG := zch_4 (List.mem_of_getElem? (i := 185) rfl) rfl
set_option maxRecDepth 8000 in
theorem zcd_124 : Jvm.Cond.code ⟨"SlateHalves", "image", "()I"⟩ prog_1_method_34_code 1 (Option.some FieldType.int) ∈ zG := zch_4 (List.mem_of_getElem? (i := 189) rfl) rfl
set_option maxRecDepth 8000 in
theorem zcd_125 : Jvm.Cond.code ⟨"SlateHalves$Scene", "copyFrom", "(LSlateHalves$Scene;)V"⟩ prog_9_method_2_code 2 none ∈ zG := zch_4 (List.mem_of_getElem? (i := 193) rfl) rfl
set_option maxRecDepth 8000 in
theorem zcd_126 : Jvm.Cond.code ⟨"SlateHalves$Rows", "copyFrom", "(LSlateHalves$Rows;)V"⟩ prog_8_method_3_code 2 none ∈ zG := zch_4 (List.mem_of_getElem? (i := 198) rfl) rfl
set_option maxRecDepth 8000 in
theorem zcd_127 : Jvm.Cond.code ⟨"SlateHalves", "undo", "()I"⟩ prog_1_method_35_code 1 (Option.some FieldType.int) ∈ zG := zch_4 (List.mem_of_getElem? (i := 204) rfl) rfl
set_option maxRecDepth 8000 in
theorem zcd_128 : Jvm.Cond.code ⟨"SlateHalves", "act", "(III)I"⟩ prog_1_method_36_code 5 (Option.some FieldType.int) ∈ zG := zch_4 (List.mem_of_getElem? (i := 208) rfl) rfl
set_option maxRecDepth 8000 in
theorem zcd_129 : Jvm.Cond.code ⟨"SlateHalves$Acts", "perform", "(LSlateHalves$Block;II)I"⟩ prog_2_method_2_code 4 (Option.some FieldType.int) ∈ zG := zch_4 (List.mem_of_getElem? (i := 212) rfl) rfl
set_option maxRecDepth 8000 in
theorem zcd_130 : Jvm.Cond.code ⟨"SlateHalves$Acts", "ringsFrom", "(II)I"⟩ prog_2_method_4_code 3 (Option.some FieldType.int) ∈ zG := zch_4 (List.mem_of_getElem? (i := 216) rfl) rfl
set_option maxRecDepth 8000 in
theorem zcd_131 : Jvm.Cond.code ⟨"SlateHalves$Acts", "begin", "(I)V"⟩ prog_2_method_3_code 2 none ∈ zG := zch_4 (List.mem_of_getElem? (i := 220) rfl) rfl
set_option maxRecDepth 8000 in
theorem zcd_132 : Jvm.Cond.code ⟨"SlateHalves$Acts", "splitsFrom", "(II)I"⟩ prog_2_method_5_code 3 (Option.some FieldType.int) ∈ zG := zch_4 (List.mem_of_getElem? (i := 224) rfl) rfl
set_option maxRecDepth 8000 in
theorem zcd_133 : Jvm.Cond.code ⟨"SlateHalves$Acts", "tellsFrom", "(II)I"⟩ prog_2_method_6_code 3 (Option.some FieldType.int) ∈ zG := zch_4 (List.mem_of_getElem? (i := 228) rfl) rfl
set_option maxRecDepth 8000 in
theorem zcd_134 : Jvm.Cond.code ⟨"SlateHalves", "trace", "(I)I"⟩ prog_1_method_37_code 2 (Option.some FieldType.int) ∈ zG := zch_4 (List.mem_of_getElem? (i := 232) rfl) rfl
set_option maxRecDepth 8000 in
theorem zcd_135 : Jvm.Cond.code ⟨"SlateHalves", "taken", "(II)I"⟩ prog_1_method_38_code 5 (Option.some FieldType.int) ∈ zG := zch_4 (List.mem_of_getElem? (i := 236) rfl) rfl
set_option maxRecDepth 8000 in
theorem zcd_136 : Jvm.Cond.code ⟨"SlateHalves", "count", "(I)I"⟩ prog_1_method_39_code 2 (Option.some FieldType.int) ∈ zG := zch_5 (List.mem_of_getElem? (i := 2) rfl) rfl
set_option maxRecDepth 8000 in
theorem zcd_137 : Jvm.Cond.code ⟨"SlateHalves", "tape", "(III)I"⟩ prog_1_method_40_code 4 (Option.some FieldType.int) ∈ zG := zch_5 (List.mem_of_getElem? (i := 6) rfl) rfl
set_option maxRecDepth 8000 in
theorem zcd_138 : Jvm.Cond.code ⟨"SlateHalves$Tape", "becomeNothing", "()V"⟩ prog_10_method_3_code 1 none ∈ zG := zch_5 (List.mem_of_getElem? (i := 10) rfl) rfl
set_option maxRecDepth 8000 in
theorem zcd_139 : Jvm.Cond.code ⟨"SlateHalves$Tape", "become", "(II)V"⟩ prog_10_method_4_code 3 none ∈ zG := zch_5 (List.mem_of_getElem? (i := 14) rfl) rfl
set_option maxRecDepth 8000 in
theorem zcd_140 : Jvm.Cond.code ⟨"java/util/Arrays", "fill", "([JJ)V"⟩ prog_22_method_101_code 5 none ∈ zG := zch_5 (List.mem_of_getElem? (i := 17) rfl) rfl
set_option maxRecDepth 8000 in
theorem zcd_141 : Jvm.Cond.code ⟨"SlateHalves", "item", "(IIJ)I"⟩ prog_1_method_41_code 6 (Option.some FieldType.int) ∈ zG := zch_5 (List.mem_of_getElem? (i := 21) rfl) rfl
set_option maxRecDepth 8000 in
theorem zcd_142 : Jvm.Cond.code ⟨"SlateHalves$Tape", "fit", "(J)J"⟩ prog_10_method_5_code 3 (Option.some FieldType.long) ∈ zG := zch_5 (List.mem_of_getElem? (i := 25) rfl) rfl
set_option maxRecDepth 8000 in
theorem zcd_143 : Jvm.Cond.code ⟨"SlateHalves", "read", "(II)J"⟩ prog_1_method_42_code 3 (Option.some FieldType.long) ∈ zG := zch_5 (List.mem_of_getElem? (i := 29) rfl) rfl
set_option maxRecDepth 8000 in
theorem zcd_144 : Jvm.Cond.code ⟨"SlateHalves", "shift", "(IIIII)I"⟩ prog_1_method_43_code 8 (Option.some FieldType.int) ∈ zG := zch_5 (List.mem_of_getElem? (i := 33) rfl) rfl
set_option maxRecDepth 8000 in
theorem zcd_145 : Jvm.Cond.code ⟨"SlateHalvesModel", "<init>", "()V"⟩ prog_14_method_1_code 1 none ∈ zG := zch_5 (List.mem_of_getElem? (i := 39) rfl) rfl
set_option maxRecDepth 8000 in
theorem zcd_146 : Jvm.Cond.code ⟨"SlateHalvesModel", "block", "(III)I"⟩ prog_14_method_8_code 5 (Option.some FieldType.int) ∈ zG := zch_6 (List.mem_of_getElem? (i := 31) rfl) rfl
set_option maxRecDepth 8000 in
theorem zcd_147 : Jvm.Cond.code ⟨"SlateHalvesModel", "in", "(III)Z"⟩ prog_14_method_2_code 4 (Option.some FieldType.boolean) ∈ zG := zch_6 (List.mem_of_getElem? (i := 35) rfl) rfl
set_option maxRecDepth 8000 in
theorem zcd_148 : Jvm.Cond.code ⟨"SlateHalvesModel", "dry", "(II)I"⟩ prog_14_method_9_code 4 (Option.some FieldType.int) ∈ zG := zch_6 (List.mem_of_getElem? (i := 39) rfl) rfl
set_option maxRecDepth 8000 in
theorem zcd_149 : Jvm.Cond.code ⟨"SlateHalvesModel", "isBlock", "(I)Z"⟩ prog_14_method_6_code 2 (Option.some FieldType.boolean) ∈ zG := zch_6 (List.mem_of_getElem? (i := 43) rfl) rfl
set_option maxRecDepth 8000 in
theorem zcd_150 : Jvm.Cond.code ⟨"SlateHalvesModel", "row", "(III)I"⟩ prog_14_method_10_code 5 (Option.some FieldType.int) ∈ zG := zch_6 (List.mem_of_getElem? (i := 47) rfl) rfl
set_option maxRecDepth 8000 in
theorem zcd_151 : Jvm.Cond.code ⟨"SlateHalvesModel", "feed", "(I)I"⟩ prog_14_method_11_code 2 (Option.some FieldType.int) ∈ zG := zch_6 (List.mem_of_getElem? (i := 51) rfl) rfl
set_option maxRecDepth 8000 in
theorem zcd_152 : Jvm.Cond.code ⟨"SlateHalvesModel", "hill", "()I"⟩ prog_14_method_26_code 2 (Option.some FieldType.int) ∈ zG := zch_6 (List.mem_of_getElem? (i := 55) rfl) rfl
set_option maxRecDepth 8000 in
theorem zcd_153 : Jvm.Cond.code ⟨"SlateHalvesModel", "goesText", "(I)Z"⟩ prog_14_method_25_code 3 (Option.some FieldType.boolean) ∈ zG := zch_6 (List.mem_of_getElem? (i := 59) rfl) rfl
set_option maxRecDepth 8000 in
theorem zcd_154 : Jvm.Cond.code ⟨"SlateHalvesModel", "takesClause", "(I)Z"⟩ prog_14_method_24_code 2 (Option.some FieldType.boolean) ∈ zG := zch_6 (List.mem_of_getElem? (i := 63) rfl) rfl
set_option maxRecDepth 8000 in
theorem zcd_155 : Jvm.Cond.code ⟨"SlateHalvesModel", "takesHead", "(I)Z"⟩ prog_14_method_23_code 2 (Option.some FieldType.boolean) ∈ zG := zch_6 (List.mem_of_getElem? (i := 67) rfl) rfl
set_option maxRecDepth 8000 in
theorem zcd_156 : Jvm.Cond.code ⟨"SlateHalvesModel", "next", "()I"⟩ prog_14_method_12_code 1 (Option.some FieldType.int) ∈ zG := zch_6 (List.mem_of_getElem? (i := 71) rfl) rfl
set_option maxRecDepth 8000 in
theorem zcd_157 : Jvm.Cond.code ⟨"SlateHalvesModel", "takesWord", "(II)Z"⟩ prog_14_method_14_code 4 (Option.some FieldType.boolean) ∈ zG := zch_6 (List.mem_of_getElem? (i := 75) rfl) rfl
set_option maxRecDepth 8000 in
theorem zcd_158 : Jvm.Cond.code ⟨"SlateHalvesModel", "takes", "(I)Z"⟩ prog_14_method_13_code 2 (Option.some FieldType.boolean) ∈ zG := zch_6 (List.mem_of_getElem? (i := 79) rfl) rfl
set_option maxRecDepth 8000 in
theorem zcd_159 : Jvm.Cond.code ⟨"SlateHalvesModel", "takesNumber", "()Z"⟩ prog_14_method_16_code 2 (Option.some FieldType.boolean) ∈ zG := zch_6 (List.mem_of_getElem? (i := 83) rfl) rfl
set_option maxRecDepth 8000 in
theorem zcd_160 : Jvm.Cond.code ⟨"SlateHalvesModel", "isDigit", "()Z"⟩ prog_14_method_15_code 1 (Option.some FieldType.boolean) ∈ zG := zch_6 (List.mem_of_getElem? (i := 87) rfl) rfl
set_option maxRecDepth 8000 in
theorem zcd_161 : Jvm.Cond.code ⟨"SlateHalvesModel", "takesE", "(I)Z"⟩ prog_14_method_22_code 4 (Option.some FieldType.boolean) ∈ zG := zch_6 (List.mem_of_getElem? (i := 91) rfl) rfl
set_option maxRecDepth 8000 in
theorem zcd_162 : Jvm.Cond.code ⟨"SlateHalvesModel", "takesTest", "()Z"⟩ prog_14_method_21_code 3 (Option.some FieldType.boolean) ∈ zG := zch_6 (List.mem_of_getElem? (i := 95) rfl) rfl
set_option maxRecDepth 8000 in
theorem zcd_163 : Jvm.Cond.code ⟨"SlateHalvesModel", "place", "(I)I"⟩ prog_14_method_20_code 2 (Option.some FieldType.int) ∈ zG := zch_6 (List.mem_of_getElem? (i := 99) rfl) rfl
set_option maxRecDepth 8000 in
theorem zcd_164 : Jvm.Cond.code ⟨"SlateHalvesModel", "emits", "(I)V"⟩ prog_14_method_17_code 2 none ∈ zG := zch_6 (List.mem_of_getElem? (i := 103) rfl) rfl
set_option maxRecDepth 8000 in
theorem zcd_165 : Jvm.Cond.code ⟨"SlateHalvesModel", "whole", "()V"⟩ prog_14_method_18_code 1 none ∈ zG := zch_6 (List.mem_of_getElem? (i := 107) rfl) rfl
set_option maxRecDepth 8000 in
theorem zcd_166 : Jvm.Cond.code ⟨"SlateHalvesModel", "settle", "(I)V"⟩ prog_14_method_19_code 2 none ∈ zG := zch_6 (List.mem_of_getElem? (i := 111) rfl) rfl
set_option maxRecDepth 8000 in
theorem zcd_167 : Jvm.Cond.code ⟨"SlateHalvesModel", "of", "(II)I"⟩ prog_14_method_45_code 3 (Option.some FieldType.int) ∈ zG := zch_6 (List.mem_of_getElem? (i := 115) rfl) rfl
set_option maxRecDepth 8000 in
theorem zcd_168 : Jvm.Cond.code ⟨"SlateHalvesModel", "price", "(I)I"⟩ prog_14_method_34_code 4 (Option.some FieldType.int) ∈ zG := zch_6 (List.mem_of_getElem? (i := 119) rfl) rfl
set_option maxRecDepth 8000 in
theorem zcd_169 : Jvm.Cond.code ⟨"SlateHalvesModel", "begin", "()I"⟩ prog_14_method_27_code 1 (Option.some FieldType.int) ∈ zG := zch_6 (List.mem_of_getElem? (i := 123) rfl) rfl
set_option maxRecDepth 8000 in
theorem zcd_170 : Jvm.Cond.code ⟨"SlateHalvesModel", "behind", "()I"⟩ prog_14_method_28_code 1 (Option.some FieldType.int) ∈ zG := zch_6 (List.mem_of_getElem? (i := 127) rfl) rfl
set_option maxRecDepth 8000 in
theorem zcd_171 : Jvm.Cond.code ⟨"SlateHalvesModel", "holds", "(II)Z"⟩ prog_14_method_33_code 8 (Option.some FieldType.boolean) ∈ zG := zch_6 (List.mem_of_getElem? (i := 131) rfl) rfl
set_option maxRecDepth 8000 in
theorem zcd_172 : Jvm.Cond.code ⟨"SlateHalvesModel", "factOf", "(II)I"⟩ prog_14_method_32_code 3 (Option.some FieldType.int) ∈ zG := zch_6 (List.mem_of_getElem? (i := 135) rfl) rfl
set_option maxRecDepth 8000 in
theorem zcd_173 : Jvm.Cond.code ⟨"SlateHalvesModel", "least0", "(I)I"⟩ prog_14_method_4_code 2 (Option.some FieldType.int) ∈ zG := zch_6 (List.mem_of_getElem? (i := 139) rfl) rfl
set_option maxRecDepth 8000 in
theorem zcd_174 : Jvm.Cond.code ⟨"SlateHalvesModel", "grip", "(I)I"⟩ prog_14_method_35_code 3 (Option.some FieldType.int) ∈ zG := zch_6 (List.mem_of_getElem? (i := 143) rfl) rfl
set_option maxRecDepth 8000 in
theorem zcd_175 : Jvm.Cond.code ⟨"SlateHalvesModel", "dries", "(I)I"⟩ prog_14_method_38_code 3 (Option.some FieldType.int) ∈ zG := zch_6 (List.mem_of_getElem? (i := 147) rfl) rfl
set_option maxRecDepth 8000 in
theorem zcd_176 : Jvm.Cond.code ⟨"SlateHalvesModel", "lastOf", "(II)I"⟩ prog_14_method_29_code 5 (Option.some FieldType.int) ∈ zG := zch_6 (List.mem_of_getElem? (i := 151) rfl) rfl
set_option maxRecDepth 8000 in
theorem zcd_177 : Jvm.Cond.code ⟨"SlateHalvesModel", "worthOf", "(II)I"⟩ prog_14_method_39_code 3 (Option.some FieldType.int) ∈ zG := zch_6 (List.mem_of_getElem? (i := 155) rfl) rfl
set_option maxRecDepth 8000 in
theorem zcd_178 : Jvm.Cond.code ⟨"SlateHalvesModel", "thin", "()I"⟩ prog_14_method_30_code 1 (Option.some FieldType.int) ∈ zG := zch_6 (List.mem_of_getElem? (i := 159) rfl) rfl
set_option maxRecDepth 8000 in
theorem zcd_179 : Jvm.Cond.code ⟨"SlateHalvesModel", "greater", "(II)I"⟩ prog_14_method_5_code 3 (Option.some FieldType.int) ∈ zG := zch_6 (List.mem_of_getElem? (i := 163) rfl) rfl
set_option maxRecDepth 8000 in
theorem zcd_180 : Jvm.Cond.code ⟨"SlateHalvesModel", "most", "()I"⟩ prog_14_method_31_code 1 (Option.some FieldType.int) ∈ zG := zch_6 (List.mem_of_getElem? (i := 167) rfl) rfl
set_option maxRecDepth 8000 in
theorem zcd_181 : Jvm.Cond.code ⟨"SlateHalvesModel", "laid", "(II)I"⟩ prog_14_method_44_code 4 (Option.some FieldType.int) ∈ zG := zch_6 (List.mem_of_getElem? (i := 171) rfl) rfl
set_option maxRecDepth 8000 in
theorem zcd_182 : Jvm.Cond.code ⟨"SlateHalvesModel", "lay", "(I)V"⟩ prog_14_method_41_code 9 none ∈ zG := zch_6 (List.mem_of_getElem? (i := 175) rfl) rfl
set_option maxRecDepth 8000 in
theorem zcd_183 : Jvm.Cond.code ⟨"SlateHalvesModel", "isClean", "(III)Z"⟩ prog_14_method_37_code 5 (Option.some FieldType.boolean) ∈ zG := zch_6 (List.mem_of_getElem? (i := 179) rfl) rfl
set_option maxRecDepth 8000 in
theorem zcd_184 : Jvm.Cond.code ⟨"SlateHalvesModel", "isNear", "(III)Z"⟩ prog_14_method_36_code 5 (Option.some FieldType.boolean) ∈ zG := zch_6 (List.mem_of_getElem? (i := 183) rfl) rfl
set_option maxRecDepth 8000 in
theorem zcd_185 : Jvm.Cond.code ⟨"SlateHalvesModel", "layBlow", "(III)V"⟩ prog_14_method_40_code 9 none ∈ zG := zch_6 (List.mem_of_getElem? (i := 187) rfl) rfl
set_option maxRecDepth 8000 in
theorem zcd_186 : Jvm.Cond.code ⟨"SlateHalvesModel", "blow", "(I)I"⟩ prog_14_method_43_code 4 (Option.some FieldType.int) ∈ zG := zch_6 (List.mem_of_getElem? (i := 191) rfl) rfl
set_option maxRecDepth 8000 in
theorem zcd_187 : Jvm.Cond.code ⟨"SlateHalvesModel", "told", "(I)I"⟩ prog_14_method_47_code 2 (Option.some FieldType.int) ∈ zG := zch_6 (List.mem_of_getElem? (i := 195) rfl) rfl
set_option maxRecDepth 8000 in
theorem zcd_188 : Jvm.Cond.code ⟨"SlateHalvesModel", "allBest", "()I"⟩ prog_14_method_46_code 3 (Option.some FieldType.int) ∈ zG := zch_6 (List.mem_of_getElem? (i := 199) rfl) rfl
set_option maxRecDepth 8000 in
theorem zcd_189 : Jvm.Cond.code ⟨"SlateHalvesModel", "best", "(I)I"⟩ prog_14_method_42_code 2 (Option.some FieldType.int) ∈ zG := zch_6 (List.mem_of_getElem? (i := 203) rfl) rfl
set_option maxRecDepth 8000 in
theorem zcd_190 : Jvm.Cond.code ⟨"SlateHalvesModel", "strike", "(II)I"⟩ prog_14_method_48_code 6 (Option.some FieldType.int) ∈ zG := zch_6 (List.mem_of_getElem? (i := 207) rfl) rfl
set_option maxRecDepth 8000 in
theorem zcd_191 : Jvm.Cond.code ⟨"SlateHalvesModel", "clean", "(III)I"⟩ prog_14_method_49_code 4 (Option.some FieldType.int) ∈ zG := zch_6 (List.mem_of_getElem? (i := 211) rfl) rfl
set_option maxRecDepth 8000 in
theorem zcd_192 : Jvm.Cond.code ⟨"SlateHalvesModel", "sell", "(I)I"⟩ prog_14_method_50_code 3 (Option.some FieldType.int) ∈ zG := zch_6 (List.mem_of_getElem? (i := 215) rfl) rfl
set_option maxRecDepth 8000 in
theorem zcd_193 : Jvm.Cond.code ⟨"SlateHalvesModel", "pass", "(I)I"⟩ prog_14_method_53_code 2 (Option.some FieldType.int) ∈ zG := zch_6 (List.mem_of_getElem? (i := 220) rfl) rfl
set_option maxRecDepth 8000 in
theorem zcd_194 : Jvm.Cond.code ⟨"SlateHalvesModel", "isDays", "(I)Z"⟩ prog_14_method_7_code 2 (Option.some FieldType.boolean) ∈ zG := zch_6 (List.mem_of_getElem? (i := 224) rfl) rfl
set_option maxRecDepth 8000 in
theorem zcd_195 : Jvm.Cond.code ⟨"SlateHalvesModel", "goDays", "(I)V"⟩ prog_14_method_52_code 3 none ∈ zG := zch_6 (List.mem_of_getElem? (i := 228) rfl) rfl
set_option maxRecDepth 8000 in
theorem zcd_196 : Jvm.Cond.code ⟨"SlateHalvesModel", "goDay", "()V"⟩ prog_14_method_51_code 3 none ∈ zG := zch_6 (List.mem_of_getElem? (i := 232) rfl) rfl
set_option maxRecDepth 8000 in
theorem zcd_197 : Jvm.Cond.code ⟨"SlateHalvesModel", "on", "(II)I"⟩ prog_14_method_56_code 4 (Option.some FieldType.int) ∈ zG := zch_6 (List.mem_of_getElem? (i := 236) rfl) rfl
set_option maxRecDepth 8000 in
theorem zcd_198 : Jvm.Cond.code ⟨"SlateHalvesModel", "save", "()V"⟩ prog_14_method_54_code 2 none ∈ zG := zch_7 (List.mem_of_getElem? (i := 0) rfl) rfl
set_option maxRecDepth 8000 in
theorem zcd_199 : Jvm.Cond.code ⟨"SlateHalvesModel", "putBack", "()V"⟩ prog_14_method_55_code 2 none ∈ zG := zch_7 (List.mem_of_getElem? (i := 4) rfl) rfl
set_option maxRecDepth 8000 in
theorem zcd_200 : Jvm.Cond.code ⟨"SlateHalvesModel", "lasts", "(I)I"⟩ prog_14_method_57_code 4 (Option.some FieldType.int) ∈ zG := zch_7 (List.mem_of_getElem? (i := 8) rfl) rfl
set_option maxRecDepth 8000 in
theorem zcd_201 : Jvm.Cond.code ⟨"SlateHalvesModel", "order", "(I)I"⟩ prog_14_method_60_code 7 (Option.some FieldType.int) ∈ zG := zch_7 (List.mem_of_getElem? (i := 13) rfl) rfl
set_option maxRecDepth 8000 in
theorem zcd_202 : Jvm.Cond.code ⟨"SlateHalvesModel", "layThen", "()V"⟩ prog_14_method_58_code 3 none ∈ zG := zch_7 (List.mem_of_getElem? (i := 17) rfl) rfl
set_option maxRecDepth 8000 in
theorem zcd_203 : Jvm.Cond.code ⟨"SlateHalvesModel", "layTurn", "(I)Z"⟩ prog_14_method_59_code 5 (Option.some FieldType.boolean) ∈ zG := zch_7 (List.mem_of_getElem? (i := 21) rfl) rfl
set_option maxRecDepth 8000 in
theorem zcd_204 : Jvm.Cond.code ⟨"SlateHalvesModel", "has", "(II)Z"⟩ prog_14_method_3_code 3 (Option.some FieldType.boolean) ∈ zG := zch_7 (List.mem_of_getElem? (i := 25) rfl) rfl
set_option maxRecDepth 8000 in
theorem zcd_205 : Jvm.Cond.code ⟨"SlateHalvesModel", "loses", "(I)I"⟩ prog_14_method_61_code 2 (Option.some FieldType.int) ∈ zG := zch_7 (List.mem_of_getElem? (i := 29) rfl) rfl
set_option maxRecDepth 8000 in
theorem zcd_206 : Jvm.Cond.code ⟨"SlateHalvesModel", "worst", "()I"⟩ prog_14_method_62_code 5 (Option.some FieldType.int) ∈ zG := zch_7 (List.mem_of_getElem? (i := 34) rfl) rfl
set_option maxRecDepth 8000 in
theorem zcd_207 : Jvm.Cond.code ⟨"SlateHalvesModel", "see", "(IIZ)I"⟩ prog_14_method_63_code 4 (Option.some FieldType.int) ∈ zG := zch_7 (List.mem_of_getElem? (i := 39) rfl) rfl
set_option maxRecDepth 8000 in
theorem zcd_208 : Jvm.Cond.code ⟨"SlateHalvesModel", "dryness", "(II)I"⟩ prog_14_method_65_code 7 (Option.some FieldType.int) ∈ zG := zch_7 (List.mem_of_getElem? (i := 43) rfl) rfl
set_option maxRecDepth 8000 in
theorem zcd_209 : Jvm.Cond.code ⟨"SlateHalvesModel", "isSeen", "(I)Z"⟩ prog_14_method_64_code 3 (Option.some FieldType.boolean) ∈ zG := zch_7 (List.mem_of_getElem? (i := 47) rfl) rfl
set_option maxRecDepth 8000 in
theorem zcd_210 : Jvm.Cond.code ⟨"SlateHalvesModel", "can", "(II)I"⟩ prog_14_method_66_code 7 (Option.some FieldType.int) ∈ zG := zch_7 (List.mem_of_getElem? (i := 51) rfl) rfl
set_option maxRecDepth 8000 in
theorem zcd_211 : Jvm.Cond.code ⟨"SlateHalvesModel", "odds", "(II)J"⟩ prog_14_method_69_code 5 (Option.some FieldType.long) ∈ zG := zch_7 (List.mem_of_getElem? (i := 55) rfl) rfl
set_option maxRecDepth 8000 in
theorem zcd_212 : Jvm.Cond.code ⟨"SlateHalvesModel", "lowest", "(III)J"⟩ prog_14_method_68_code 5 (Option.some FieldType.long) ∈ zG := zch_7 (List.mem_of_getElem? (i := 60) rfl) rfl
set_option maxRecDepth 8000 in
theorem zcd_213 : Jvm.Cond.code ⟨"SlateHalvesModel", "divisor", "(II)I"⟩ prog_14_method_67_code 6 (Option.some FieldType.int) ∈ zG := zch_7 (List.mem_of_getElem? (i := 64) rfl) rfl
set_option maxRecDepth 8000 in
theorem zcd_214 : Jvm.Cond.code ⟨"SlateHalvesModel", "mean", "(I)J"⟩ prog_14_method_70_code 5 (Option.some FieldType.long) ∈ zG := zch_7 (List.mem_of_getElem? (i := 68) rfl) rfl
set_option maxRecDepth 8000 in
theorem zcd_215 : Jvm.Cond.code ⟨"SlateHalvesModel", "week", "(II)I"⟩ prog_14_method_71_code 3 (Option.some FieldType.int) ∈ zG := zch_7 (List.mem_of_getElem? (i := 72) rfl) rfl
set_option maxRecDepth 8000 in
theorem zcd_216 : Jvm.Cond.code ⟨"SlateHalvesModel", "ends", "(I)I"⟩ prog_14_method_72_code 5 (Option.some FieldType.int) ∈ zG := zch_7 (List.mem_of_getElem? (i := 76) rfl) rfl
set_option maxRecDepth 8000 in
theorem zcd_217 : Jvm.Cond.code ⟨"SlateHalvesModel", "book", "(II)I"⟩ prog_14_method_73_code 3 (Option.some FieldType.int) ∈ zG := zch_7 (List.mem_of_getElem? (i := 80) rfl) rfl
set_option maxRecDepth 8000 in
theorem zcd_218 : Jvm.Cond.code ⟨"SlateHalvesModel", "looked", "()I"⟩ prog_14_method_74_code 2 (Option.some FieldType.int) ∈ zG := zch_7 (List.mem_of_getElem? (i := 84) rfl) rfl
set_option maxRecDepth 8000 in
theorem zcd_219 : Jvm.Cond.code ⟨"SlateHalvesModel", "judge", "(II)I"⟩ prog_14_method_75_code 4 (Option.some FieldType.int) ∈ zG := zch_7 (List.mem_of_getElem? (i := 88) rfl) rfl
set_option maxRecDepth 8000 in
theorem zcd_220 : Jvm.Cond.code ⟨"SlateHalvesModel", "isTape", "(I)Z"⟩ prog_14_method_90_code 2 (Option.some FieldType.boolean) ∈ zG := zch_7 (List.mem_of_getElem? (i := 92) rfl) rfl
set_option maxRecDepth 8000 in
theorem zcd_221 : Jvm.Cond.code ⟨"SlateHalvesModel", "image", "()I"⟩ prog_14_method_76_code 2 (Option.some FieldType.int) ∈ zG := zch_7 (List.mem_of_getElem? (i := 96) rfl) rfl
set_option maxRecDepth 8000 in
theorem zcd_222 : Jvm.Cond.code ⟨"SlateHalvesModel", "undo", "()I"⟩ prog_14_method_77_code 2 (Option.some FieldType.int) ∈ zG := zch_7 (List.mem_of_getElem? (i := 100) rfl) rfl
set_option maxRecDepth 8000 in
theorem zcd_223 : Jvm.Cond.code ⟨"SlateHalvesModel", "act", "(III)I"⟩ prog_14_method_86_code 4 (Option.some FieldType.int) ∈ zG := zch_7 (List.mem_of_getElem? (i := 104) rfl) rfl
set_option maxRecDepth 8000 in
theorem zcd_224 : Jvm.Cond.code ⟨"SlateHalvesModel", "ringsAct", "(II)I"⟩ prog_14_method_80_code 3 (Option.some FieldType.int) ∈ zG := zch_7 (List.mem_of_getElem? (i := 108) rfl) rfl
set_option maxRecDepth 8000 in
theorem zcd_225 : Jvm.Cond.code ⟨"SlateHalvesModel", "body", "(I)V"⟩ prog_14_method_78_code 2 none ∈ zG := zch_7 (List.mem_of_getElem? (i := 112) rfl) rfl
set_option maxRecDepth 8000 in
theorem zcd_226 : Jvm.Cond.code ⟨"SlateHalvesModel", "blockRings", "(II)I"⟩ prog_14_method_79_code 3 (Option.some FieldType.int) ∈ zG := zch_7 (List.mem_of_getElem? (i := 116) rfl) rfl
set_option maxRecDepth 8000 in
theorem zcd_227 : Jvm.Cond.code ⟨"SlateHalvesModel", "splitsAct", "(II)I"⟩ prog_14_method_83_code 4 (Option.some FieldType.int) ∈ zG := zch_7 (List.mem_of_getElem? (i := 120) rfl) rfl
set_option maxRecDepth 8000 in
theorem zcd_228 : Jvm.Cond.code ⟨"SlateHalvesModel", "fineSplits", "(II)I"⟩ prog_14_method_82_code 3 (Option.some FieldType.int) ∈ zG := zch_7 (List.mem_of_getElem? (i := 124) rfl) rfl
set_option maxRecDepth 8000 in
theorem zcd_229 : Jvm.Cond.code ⟨"SlateHalvesModel", "blockSplits", "(II)I"⟩ prog_14_method_81_code 3 (Option.some FieldType.int) ∈ zG := zch_7 (List.mem_of_getElem? (i := 128) rfl) rfl
set_option maxRecDepth 8000 in
theorem zcd_230 : Jvm.Cond.code ⟨"SlateHalvesModel", "tellsAct", "(II)I"⟩ prog_14_method_85_code 4 (Option.some FieldType.int) ∈ zG := zch_7 (List.mem_of_getElem? (i := 132) rfl) rfl
set_option maxRecDepth 8000 in
theorem zcd_231 : Jvm.Cond.code ⟨"SlateHalvesModel", "blockTells", "(II)I"⟩ prog_14_method_84_code 3 (Option.some FieldType.int) ∈ zG := zch_7 (List.mem_of_getElem? (i := 136) rfl) rfl
set_option maxRecDepth 8000 in
theorem zcd_232 : Jvm.Cond.code ⟨"SlateHalvesModel", "trace", "(I)I"⟩ prog_14_method_87_code 2 (Option.some FieldType.int) ∈ zG := zch_7 (List.mem_of_getElem? (i := 140) rfl) rfl
set_option maxRecDepth 8000 in
theorem zcd_233 : Jvm.Cond.code ⟨"SlateHalvesModel", "taken", "(II)I"⟩ prog_14_method_88_code 4 (Option.some FieldType.int) ∈ zG := zch_7 (List.mem_of_getElem? (i := 144) rfl) rfl
set_option maxRecDepth 8000 in
theorem zcd_234 : Jvm.Cond.code ⟨"SlateHalvesModel", "count", "(I)I"⟩ prog_14_method_89_code 2 (Option.some FieldType.int) ∈ zG := zch_7 (List.mem_of_getElem? (i := 148) rfl) rfl
set_option maxRecDepth 8000 in
theorem zcd_235 : Jvm.Cond.code ⟨"SlateHalvesModel", "tape", "(III)I"⟩ prog_14_method_91_code 5 (Option.some FieldType.int) ∈ zG := zch_7 (List.mem_of_getElem? (i := 152) rfl) rfl
set_option maxRecDepth 8000 in
theorem zcd_236 : Jvm.Cond.code ⟨"SlateHalvesModel", "item", "(IIJ)I"⟩ prog_14_method_93_code 5 (Option.some FieldType.int) ∈ zG := zch_7 (List.mem_of_getElem? (i := 156) rfl) rfl
set_option maxRecDepth 8000 in
theorem zcd_237 : Jvm.Cond.code ⟨"SlateHalvesModel", "narrow", "(IJ)J"⟩ prog_14_method_92_code 4 (Option.some FieldType.long) ∈ zG := zch_7 (List.mem_of_getElem? (i := 160) rfl) rfl
set_option maxRecDepth 8000 in
theorem zcd_238 : Jvm.Cond.code ⟨"SlateHalvesModel", "read", "(II)J"⟩ prog_14_method_94_code 3 (Option.some FieldType.long) ∈ zG := zch_7 (List.mem_of_getElem? (i := 164) rfl) rfl
set_option maxRecDepth 8000 in
theorem zcd_239 : Jvm.Cond.code ⟨"SlateHalvesModel", "shift", "(IIIII)I"⟩ prog_14_method_95_code 7 (Option.some FieldType.int) ∈ zG := zch_7 (List.mem_of_getElem? (i := 168) rfl) rfl
theorem zcd_all : ∀ k, 0 < k → k < 240 → Jvm.Cond.code (zmeth k).1 (zmeth k).2.1 (zml k) (zret k) ∈ zG := by
  intro k h0 hk
  match k, h0, hk with
  | 0, h, _ => exact absurd h (by omega)
  | 1, _, _ => exact zcd_1
  | 2, _, _ => exact zcd_2
  | 3, _, _ => exact zcd_3
  | 4, _, _ => exact zcd_4
  | 5, _, _ => exact zcd_5
  | 6, _, _ => exact zcd_6
  | 7, _, _ => exact zcd_7
  | 8, _, _ => exact zcd_8
  | 9, _, _ => exact zcd_9
  | 10, _, _ => exact zcd_10
  | 11, _, _ => exact zcd_11
  | 12, _, _ => exact zcd_12
  | 13, _, _ => exact zcd_13
  | 14, _, _ => exact zcd_14
  | 15, _, _ => exact zcd_15
  | 16, _, _ => exact zcd_16
  | 17, _, _ => exact zcd_17
  | 18, _, _ => exact zcd_18
  | 19, _, _ => exact zcd_19
  | 20, _, _ => exact zcd_20
  | 21, _, _ => exact zcd_21
  | 22, _, _ => exact zcd_22
  | 23, _, _ => exact zcd_23
  | 24, _, _ => exact zcd_24
  | 25, _, _ => exact zcd_25
  | 26, _, _ => exact zcd_26
  | 27, _, _ => exact zcd_27
  | 28, _, _ => exact zcd_28
  | 29, _, _ => exact zcd_29
  | 30, _, _ => exact zcd_30
  | 31, _, _ => exact zcd_31
  | 32, _, _ => exact zcd_32
  | 33, _, _ => exact zcd_33
  | 34, _, _ => exact zcd_34
  | 35, _, _ => exact zcd_35
  | 36, _, _ => exact zcd_36
  | 37, _, _ => exact zcd_37
  | 38, _, _ => exact zcd_38
  | 39, _, _ => exact zcd_39
  | 40, _, _ => exact zcd_40
  | 41, _, _ => exact zcd_41
  | 42, _, _ => exact zcd_42
  | 43, _, _ => exact zcd_43
  | 44, _, _ => exact zcd_44
  | 45, _, _ => exact zcd_45
  | 46, _, _ => exact zcd_46
  | 47, _, _ => exact zcd_47
  | 48, _, _ => exact zcd_48
  | 49, _, _ => exact zcd_49
  | 50, _, _ => exact zcd_50
  | 51, _, _ => exact zcd_51
  | 52, _, _ => exact zcd_52
  | 53, _, _ => exact zcd_53
  | 54, _, _ => exact zcd_54
  | 55, _, _ => exact zcd_55
  | 56, _, _ => exact zcd_56
  | 57, _, _ => exact zcd_57
  | 58, _, _ => exact zcd_58
  | 59, _, _ => exact zcd_59
  | 60, _, _ => exact zcd_60
  | 61, _, _ => exact zcd_61
  | 62, _, _ => exact zcd_62
  | 63, _, _ => exact zcd_63
  | 64, _, _ => exact zcd_64
  | 65, _, _ => exact zcd_65
  | 66, _, _ => exact zcd_66
  | 67, _, _ => exact zcd_67
  | 68, _, _ => exact zcd_68
  | 69, _, _ => exact zcd_69
  | 70, _, _ => exact zcd_70
  | 71, _, _ => exact zcd_71
  | 72, _, _ => exact zcd_72
  | 73, _, _ => exact zcd_73
  | 74, _, _ => exact zcd_74
  | 75, _, _ => exact zcd_75
  | 76, _, _ => exact zcd_76
  | 77, _, _ => exact zcd_77
  | 78, _, _ => exact zcd_78
  | 79, _, _ => exact zcd_79
  | 80, _, _ => exact zcd_80
  | 81, _, _ => exact zcd_81
  | 82, _, _ => exact zcd_82
  | 83, _, _ => exact zcd_83
  | 84, _, _ => exact zcd_84
  | 85, _, _ => exact zcd_85
  | 86, _, _ => exact zcd_86
  | 87, _, _ => exact zcd_87
  | 88, _, _ => exact zcd_88
  | 89, _, _ => exact zcd_89
  | 90, _, _ => exact zcd_90
  | 91, _, _ => exact zcd_91
  | 92, _, _ => exact zcd_92
  | 93, _, _ => exact zcd_93
  | 94, _, _ => exact zcd_94
  | 95, _, _ => exact zcd_95
  | 96, _, _ => exact zcd_96
  | 97, _, _ => exact zcd_97
  | 98, _, _ => exact zcd_98
  | 99, _, _ => exact zcd_99
  | 100, _, _ => exact zcd_100
  | 101, _, _ => exact zcd_101
  | 102, _, _ => exact zcd_102
  | 103, _, _ => exact zcd_103
  | 104, _, _ => exact zcd_104
  | 105, _, _ => exact zcd_105
  | 106, _, _ => exact zcd_106
  | 107, _, _ => exact zcd_107
  | 108, _, _ => exact zcd_108
  | 109, _, _ => exact zcd_109
  | 110, _, _ => exact zcd_110
  | 111, _, _ => exact zcd_111
  | 112, _, _ => exact zcd_112
  | 113, _, _ => exact zcd_113
  | 114, _, _ => exact zcd_114
  | 115, _, _ => exact zcd_115
  | 116, _, _ => exact zcd_116
  | 117, _, _ => exact zcd_117
  | 118, _, _ => exact zcd_118
  | 119, _, _ => exact zcd_119
  | 120, _, _ => exact zcd_120
  | 121, _, _ => exact zcd_121
  | 122, _, _ => exact zcd_122
  | 123, _, _ => exact zcd_123
  | 124, _, _ => exact zcd_124
  | 125, _, _ => exact zcd_125
  | 126, _, _ => exact zcd_126
  | 127, _, _ => exact zcd_127
  | 128, _, _ => exact zcd_128
  | 129, _, _ => exact zcd_129
  | 130, _, _ => exact zcd_130
  | 131, _, _ => exact zcd_131
  | 132, _, _ => exact zcd_132
  | 133, _, _ => exact zcd_133
  | 134, _, _ => exact zcd_134
  | 135, _, _ => exact zcd_135
  | 136, _, _ => exact zcd_136
  | 137, _, _ => exact zcd_137
  | 138, _, _ => exact zcd_138
  | 139, _, _ => exact zcd_139
  | 140, _, _ => exact zcd_140
  | 141, _, _ => exact zcd_141
  | 142, _, _ => exact zcd_142
  | 143, _, _ => exact zcd_143
  | 144, _, _ => exact zcd_144
  | 145, _, _ => exact zcd_145
  | 146, _, _ => exact zcd_146
  | 147, _, _ => exact zcd_147
  | 148, _, _ => exact zcd_148
  | 149, _, _ => exact zcd_149
  | 150, _, _ => exact zcd_150
  | 151, _, _ => exact zcd_151
  | 152, _, _ => exact zcd_152
  | 153, _, _ => exact zcd_153
  | 154, _, _ => exact zcd_154
  | 155, _, _ => exact zcd_155
  | 156, _, _ => exact zcd_156
  | 157, _, _ => exact zcd_157
  | 158, _, _ => exact zcd_158
  | 159, _, _ => exact zcd_159
  | 160, _, _ => exact zcd_160
  | 161, _, _ => exact zcd_161
  | 162, _, _ => exact zcd_162
  | 163, _, _ => exact zcd_163
  | 164, _, _ => exact zcd_164
  | 165, _, _ => exact zcd_165
  | 166, _, _ => exact zcd_166
  | 167, _, _ => exact zcd_167
  | 168, _, _ => exact zcd_168
  | 169, _, _ => exact zcd_169
  | 170, _, _ => exact zcd_170
  | 171, _, _ => exact zcd_171
  | 172, _, _ => exact zcd_172
  | 173, _, _ => exact zcd_173
  | 174, _, _ => exact zcd_174
  | 175, _, _ => exact zcd_175
  | 176, _, _ => exact zcd_176
  | 177, _, _ => exact zcd_177
  | 178, _, _ => exact zcd_178
  | 179, _, _ => exact zcd_179
  | 180, _, _ => exact zcd_180
  | 181, _, _ => exact zcd_181
  | 182, _, _ => exact zcd_182
  | 183, _, _ => exact zcd_183
  | 184, _, _ => exact zcd_184
  | 185, _, _ => exact zcd_185
  | 186, _, _ => exact zcd_186
  | 187, _, _ => exact zcd_187
  | 188, _, _ => exact zcd_188
  | 189, _, _ => exact zcd_189
  | 190, _, _ => exact zcd_190
  | 191, _, _ => exact zcd_191
  | 192, _, _ => exact zcd_192
  | 193, _, _ => exact zcd_193
  | 194, _, _ => exact zcd_194
  | 195, _, _ => exact zcd_195
  | 196, _, _ => exact zcd_196
  | 197, _, _ => exact zcd_197
  | 198, _, _ => exact zcd_198
  | 199, _, _ => exact zcd_199
  | 200, _, _ => exact zcd_200
  | 201, _, _ => exact zcd_201
  | 202, _, _ => exact zcd_202
  | 203, _, _ => exact zcd_203
  | 204, _, _ => exact zcd_204
  | 205, _, _ => exact zcd_205
  | 206, _, _ => exact zcd_206
  | 207, _, _ => exact zcd_207
  | 208, _, _ => exact zcd_208
  | 209, _, _ => exact zcd_209
  | 210, _, _ => exact zcd_210
  | 211, _, _ => exact zcd_211
  | 212, _, _ => exact zcd_212
  | 213, _, _ => exact zcd_213
  | 214, _, _ => exact zcd_214
  | 215, _, _ => exact zcd_215
  | 216, _, _ => exact zcd_216
  | 217, _, _ => exact zcd_217
  | 218, _, _ => exact zcd_218
  | 219, _, _ => exact zcd_219
  | 220, _, _ => exact zcd_220
  | 221, _, _ => exact zcd_221
  | 222, _, _ => exact zcd_222
  | 223, _, _ => exact zcd_223
  | 224, _, _ => exact zcd_224
  | 225, _, _ => exact zcd_225
  | 226, _, _ => exact zcd_226
  | 227, _, _ => exact zcd_227
  | 228, _, _ => exact zcd_228
  | 229, _, _ => exact zcd_229
  | 230, _, _ => exact zcd_230
  | 231, _, _ => exact zcd_231
  | 232, _, _ => exact zcd_232
  | 233, _, _ => exact zcd_233
  | 234, _, _ => exact zcd_234
  | 235, _, _ => exact zcd_235
  | 236, _, _ => exact zcd_236
  | 237, _, _ => exact zcd_237
  | 238, _, _ => exact zcd_238
  | 239, _, _ => exact zcd_239
  | k + 240, _, h => exact absurd h (by omega)
end
section
/-! THE ABSTRACT MACHINE STANDS FOR THE MACHINE: addresses, cells, the world -/
/-- old addresses (places 0 .. 17), the formatter, the first address of what is made -/
abbrev ZAd : Type := (Nat → Nat) × Value × Nat
def zadr (ρ : ZAd) (k : Nat) : Nat := if k < 20 then ρ.1 k else ρ.2.2 + (k - 20)
def zcv (ρ : ZAd) (v : Value) : Value := match v with
  | .ref k => if k = 18 then ρ.2.1 else .ref (zadr ρ k)
  | v => v
def zfm (ρ : ZAd) : Prop := ρ.2.1 = .null ∨ ∃ a, ρ.2.1 = .ref a
theorem zcv_r {ρ : ZAd} (hf : zfm ρ) (k : Nat) : zcv ρ (.ref k) = .null ∨ ∃ a, zcv ρ (.ref k) = .ref a := by
  show (if k = 18 then ρ.2.1 else .ref (zadr ρ k)) = .null ∨ ∃ a, (if k = 18 then ρ.2.1 else .ref (zadr ρ k)) = .ref a
  split
  · exact hf
  · exact Or.inr ⟨_, rfl⟩
theorem zcv_ne {ρ : ZAd} {k : Nat} (h : k ≠ 18) : zcv ρ (.ref k) = .ref (zadr ρ k) := if_neg h
theorem zcv_cat {ρ : ZAd} (hf : zfm ρ) (v : Value) : (zcv ρ v).category = v.category := by
  cases v with
  | ref k => rcases zcv_r hf k with h | ⟨a, h⟩ <;> rw [h] <;> rfl
  | _ => rfl
def zcl2 (ρ : ZAd) (l : List (Nat × Value)) : List (Nat × Value) := l.map (fun q => (q.1, zcv ρ q.2))
theorem zcl2_get {ρ : ZAd} {l : List (Nat × Value)} {i : Nat} {v : Value} (h : zget l i = some v) : (i, zcv ρ v) ∈ zcl2 ρ l := by
  induction l with
  | nil => cases h
  | cons a r ih =>
    obtain ⟨j, w⟩ := a
    simp only [zget, zfind2] at h
    split at h
    · next e => subst e; cases h; exact List.mem_cons_self
    · exact List.mem_cons_of_mem _ (ih h)
theorem zcl2_st {ρ : ZAd} (hf : zfm ρ) (l : List (Nat × Value)) (i : Nat) (v : Value) : (i, zcv ρ v) :: (zcl2 ρ l).filter (fun q => !(q.1 == i) && !(q.1 + 1 == i && q.2.category == 2)) = zcl2 ρ (zst1 l i v) := by
  have h : ∀ r : List (Nat × Value), (zcl2 ρ r).filter (fun q => !(q.1 == i) && !(q.1 + 1 == i && q.2.category == 2)) = zcl2 ρ (r.filter (fun q => !(q.1 == i) && !(q.1 + 1 == i && q.2.category == 2))) := by
    intro r
    unfold zcl2
    rw [List.filter_map]
    congr 1
    refine List.filter_congr fun x _ => ?_
    simp only [Function.comp, zcv_cat hf]
  rw [h l]
  rfl
theorem zcl2_args {ρ : ZAd} (hf : zfm ρ) (vs : List Value) : ∀ i, lv_args i (vs.map (zcv ρ)) = zcl2 ρ (lv_args i vs) := by
  induction vs with
  | nil => intro i; rfl
  | cons v vs ih =>
    intro i
    simp only [List.map_cons, lv_args, zcv_cat hf, ih, zcl2]
theorem zcl2_sl {ρ : ZAd} (hf : zfm ρ) (vs : List Value) : (lg_sl (vs.map (zcv ρ))).length = (lg_sl vs).length := by
  induction vs with
  | nil => rfl
  | cons v vs ih =>
    simp only [lg_sl, List.map_cons, List.flatMap_cons, List.length_append] at ih ⊢
    rw [ih, zcv_cat hf]
    split <;> rfl
theorem zsum {ρ : ZAd} (hf : zfm ρ) (vs : List Value) : ((vs.map (zcv ρ)).map fun v => v.category).sum = (vs.map fun v => v.category).sum := by
  rw [List.map_map]
  congr 1
  exact List.map_congr_left fun v _ => zcv_cat hf v
def zflds (ρ : ZAd) (M : ZMem) (t k : Nat) : List Value := (List.range (zN t)).map (fun j => zcv ρ (zfv M t k j))
def zrA (ρ : ZAd) (r : Option Nat) : Option Nat := match zcv ρ (zrf r) with
  | .ref a => some a
  | _ => none
theorem zrA_rf {ρ : ZAd} (hf : zfm ρ) (r : Option Nat) : va_rf (zrA ρ r) = zcv ρ (zrf r) := by
  cases r with
  | none => rfl
  | some q =>
    show va_rf (match zcv ρ (.ref q) with | .ref a => some a | _ => none) = zcv ρ (.ref q)
    rcases zcv_r hf q with h | ⟨a, h⟩ <;> rw [h] <;> rfl
/-- the cell of a place -/
def zcell (ρ : ZAd) (cA : Nat → ClassId) (M : ZMem) (k : Nat) : va_E :=
  if (zsh M k).1 < 13 then .inr ((zsh M k).1, zflds ρ M (zsh M k).1 k)
  else if (zsh M k).1 < 23 then .inl (cA (zsh M k).1, (zsh M k).2, .inl (zI M k))
  else if (zsh M k).1 = 23 then .inl (cA (zsh M k).1, (zsh M k).2, .inr (.inl (zL M k)))
  else .inl (cA (zsh M k).1, (zsh M k).2, .inr (.inr (.inr (.inr (fun j => zrA ρ (zR M k j))))))
def zws (ρ : ZAd) (cA : Nat → ClassId) (M : ZMem) : va_W := (List.range (zn M - 20)).map (fun j => (ρ.2.2 + j, zcell ρ cA M (j + 20)))
theorem zws_at {ρ : ZAd} {cA : Nat → ClassId} {M : ZMem} {k : Nat} (h : 20 ≤ k) (h2 : k < zn M) : (zws ρ cA M)[k - 20]? = some (zadr ρ k, zcell ρ cA M k) := by
  have e : k - 20 < zn M - 20 := by omega
  simp only [zws, List.getElem?_map, List.getElem?_range e, Option.map_some, zadr, if_neg (show ¬ k < 20 by omega), show k - 20 + 20 = k by omega]
theorem zws_of {ρ : ZAd} {cA : Nat → ClassId} {M : ZMem} {j : Nat} {q : Nat × va_E} (h : (zws ρ cA M)[j]? = some q) : j + 20 < zn M ∧ q = (ρ.2.2 + j, zcell ρ cA M (j + 20)) := by
  simp only [zws, List.getElem?_map] at h
  cases hj : (List.range (zn M - 20))[j]? with
  | none => rw [hj] at h; cases h
  | some i =>
    rw [hj] at h
    obtain ⟨h1, h2⟩ := List.getElem?_eq_some_iff.mp hj
    simp only [List.getElem_range, List.length_range] at h1 h2
    subst h2
    exact ⟨by omega, (Option.some.inj h).symm⟩
theorem zws_D (ρ : ZAd) (cA : Nat → ClassId) (M : ZMem) : va_D (fun q => ρ.2.2 ≤ q) (zws ρ cA M) := by
  refine ⟨fun i j p q hp hq e => ?_, fun k q hq => ?_⟩
  · rw [(zws_of hp).2, (zws_of hq).2] at e
    simp only at e
    omega
  · rw [(zws_of hq).2]
    exact Nat.le_add_right _ _
/-- one place is written: the list of cells with one row set -/
theorem zws_set {ρ : ZAd} {cA : Nat → ClassId} {M M' : ZMem} {k : Nat} {e : va_E} (hk : 20 ≤ k) (hn : zn M' = zn M) (he : zcell ρ cA M' k = e) (ho : ∀ j, j ≠ k → zcell ρ cA M' j = zcell ρ cA M j) : (zws ρ cA M).set (k - 20) (zadr ρ k, e) = zws ρ cA M' := by
  apply List.ext_getElem?
  intro i
  rw [List.getElem?_set]
  by_cases h : k - 20 = i
  · subst h
    by_cases h2 : k < zn M
    · rw [zws_at (M := M') hk (by omega), he]
      simp [zws]
      omega
    · have e1 : (zws ρ cA M)[k - 20]? = none := by simp [zws]; omega
      have e2 : (zws ρ cA M')[k - 20]? = none := by simp [zws]; omega
      rw [e2]
      simp [zws]
      omega
  · rw [if_neg h]
    simp only [zws, List.getElem?_map, hn]
    cases hi : (List.range (zn M - 20))[i]? with
    | none => rfl
    | some j =>
      have hj : j = i := by
        obtain ⟨h1, h2⟩ := List.getElem?_eq_some_iff.mp hi
        simp at h2
        exact h2.symm
      simp only [Option.map_some]
      rw [ho (j + 20) (by omega)]
theorem zws_new {ρ : ZAd} {cA : Nat → ClassId} {M M' : ZMem} {e : va_E} (hk : 20 ≤ zn M) (hn : zn M' = zn M + 1) (he : zcell ρ cA M' (zn M) = e) (ho : ∀ j, j < zn M → zcell ρ cA M' j = zcell ρ cA M j) : zws ρ cA M ++ [(zadr ρ (zn M), e)] = zws ρ cA M' := by
  have h1 : zn M' - 20 = (zn M - 20) + 1 := by omega
  simp only [zws, h1, List.range_succ, List.map_append, List.map_cons, List.map_nil]
  congr 1
  · refine List.map_congr_left fun j hj => ?_
    rw [ho (j + 20) (by have := List.mem_range.mp hj; omega)]
  · rw [show zn M - 20 + 20 = zn M by omega, he]
    simp only [zadr, if_neg (show ¬ zn M < 20 by omega)]
/-- the old places -/
def zT0 : List (List Int32) := [[100, 101, 97, 114], [99, 104, 101, 97, 112], [116, 104, 105, 110], [116, 104, 105, 99, 107], [119, 105, 110, 100], [98, 107, 118, 116, 100, 121], [60, 61, 62]]
def zAb : List Int32 := [-1, 0, 0, 0, 1, 2, 3]
def zM0 : ZMem := ((20, 0, fun p => if p = 1 then (31, 7) else if 2 ≤ p ∧ p < 9 then (13, 0) else if 9 ≤ p ∧ p < 16 then (32, (zT0.getD (p - 9) []).length) else (99, 0)), (fun p j => if p = 1 then zAb.getD j 0 else if 9 ≤ p ∧ p < 16 then (zT0.getD (p - 9) []).getD j 0 else 0), (fun _ _ => 0), (fun p j => if 2 ≤ p ∧ p < 9 ∧ j = 0 then some (p + 7) else none))
def zOld (M : ZMem) : Prop := 20 ≤ zn M ∧ ∀ p, p < 20 → zsh M p = zsh zM0 p ∧ (∀ j, zI M p j = zI zM0 p j) ∧ ∀ j, zR M p j = zR zM0 p j
/-- what stays: tables, links of nest mates, texts, statics -/
def ztys (cA : Nat → ClassId) : List (ClassId × FieldType) := [(cA 20, .int), (cA 21, .byte), (cA 22, .boolean), (cA 23, .long), (cA 24, .object "SlateHalves$Hill"), (cA 25, .object "SlateHalves$Tape"), (cA 26, .object "SlateHalves$Block")]
def zEnv (ρ : ZAd) (cA : Nat → ClassId) (D : va_G) (U : State) (H : Heap) : Prop :=
  va_K D vwCl (ztys cA) U ∧ (∀ q ∈ znest, va_Nw (.methodLinkNest q.1 q.2.1 (zmeth q.2.2.1).1 q.2.2.2) U) ∧
  (∀ i, i < 7 → vk_R (zown1 (zstr.getD i (0, 0, "")).1) (zstr.getD i (0, 0, "")).2.1 (zstr.getD i (0, 0, "")).2.2 (ρ.1 (2 + i)) U) ∧
  (va_Z "SlateHalves" "ABOVE" "[I" (.ref (ρ.1 1)) (fun q => ρ.2.2 ≤ q) U H ∧ va_Z "java/lang/String" "COMPACT_STRINGS" "Z" (.int 1) (fun q => ρ.2.2 ≤ q) U H ∧ va_Z "jdk/internal/util/Preconditions" "SIOOBE_FORMATTER" "Ljava/util/function/BiFunction;" ρ.2.1 (fun q => ρ.2.2 ≤ q) U H) ∧
  vk_S 7 (zT0.map List.length) zT0 (fun i => ρ.1 (2 + i)) (fun i => ρ.1 (9 + i)) (fun q => ρ.2.2 ≤ q) U H ∧
  va_T .int (ρ.1 1) 7 (fun j => .int (zAb.getD j 0)) (fun q => ρ.2.2 ≤ q) U H ∧
  va_AO "SlateHalves$Hill" U ∧ va_AO "SlateHalves$Tape" U ∧ va_AO "SlateHalves$Block" U
theorem zEnv.go {ρ : ZAd} {cA : Nat → ClassId} {D : va_G} {s U : State} {H H1 : Heap} (h : zEnv ρ cA D s H) (hW : s.WarmedH U.vm) (hq : ∀ a : Nat, a < H.size → ¬ ρ.2.2 ≤ a → H1[a]? = H[a]?) : zEnv ρ cA D U H1 := by
  obtain ⟨h1, h2, h3, ⟨h4, h5, h6⟩, h7, h8, h9, h10, h11⟩ := h
  exact ⟨va_K.moved hW.alike h1, fun q hqq => va_Nw.warmM hW (h2 q hqq), fun i hi => (h3 i hi).warm hW, ⟨(h4.moved hW.alike).kept hq, (h5.moved hW.alike).kept hq, (h6.moved hW.alike).kept hq⟩, (h7.moved hW.alike).kept hq, (h8.moved hW.alike).kept hq, h9.moved hW.alike, h10.moved hW.alike, h11.moved hW.alike⟩
theorem zEnv.blind {ρ : ZAd} {cA : Nat → ClassId} {D : va_G} {U V : State} {H : Heap} (h : zEnv ρ cA D U H) (hv : V.vm = U.vm) : zEnv ρ cA D V H := by
  have hA : U.vm.Alike V.vm := by rw [hv]; exact Vm.Alike.refl _
  obtain ⟨h1, h2, h3, ⟨h4, h5, h6⟩, h7, h8, h9, h10, h11⟩ := h
  exact ⟨va_K.moved hA h1, fun q hqq => va_Nw.same rfl hv.symm (h2 q hqq), fun i hi => (h3 i hi).same hv, ⟨h4.moved hA, h5.moved hA, h6.moved hA⟩, h7.moved hA, h8.moved hA, h9.moved hA, h10.moved hA, h11.moved hA⟩
end
section
/-! a call, from the callee's contract -/
def zCon (l : Launch) (ρ : ZAd) (cA : Nat → ClassId) (D : va_G) (d q : Nat) (as : List Value) (M : ZMem) (v : Option Value) (M' : ZMem) : Prop :=
  Met l (zmeth q).1 (Cond.code (zmeth q).1 (zmeth q).2.1 (zml q) (zret q) :: zG) ({ frames := d, cells := zn M' - zn M, slots := zc M' - zc M, locals := 60 * d } : Room)
    (va_Pc (as.map (zcv ρ)) (fun U => zEnv ρ cA D U U.heap ∧ ρ.2.2 ≤ U.heap.size ∧ zOld M ∧ va_P D vwCl (zws ρ cA M) U.heap ∧ U.heap.size = ρ.2.2 + (zn M - 20)))
    (fun _ st oc t => oc = .returned (v.map (zcv ρ)) ∧ zOld M' ∧ va_P D vwCl (zws ρ cA M') t.heap ∧ va_F (fun q => ρ.2.2 ≤ q) st t) (zn M' - zn M) (zc M' - zc M) (fun q => ρ.2.2 ≤ q)
/-- what a frame of method k knows -/
def zFx (p : Program) (s : State) (m : MethodId) (args : Array Value) (meth : Method) (c : Code) (ρ : ZAd) (cA : Nat → ClassId) (D : va_G) (k : Nat) : Prop :=
  k < 240 ∧ p.tables.exec = Jvm.exec ∧ c.code = (zmeth k).2.1 ∧ c.maxLocals = zml k ∧ s.vm.findClass (zmeth k).1.cls = some m.cls ∧ (∀ w ∈ zG, w.before args s = true) ∧ (zini k = true → meth.name = "<init>") ∧ zfm ρ ∧ zEnv ρ cA D s s.heap ∧ ρ.2.2 ≤ s.heap.size
def zRl (ρ : ZAd) (cA : Nat → ClassId) (D : va_G) (s : State) (M : ZMem) (H : Heap) (locs : List Loc) (cells : Nat) : Prop := zOld M ∧ va_P D vwCl (zws ρ cA M) H ∧ s.heap.size + cells = ρ.2.2 + (zn M - 20) ∧ va_S (fun q => ρ.2.2 ≤ q) s.heap H locs
def zSc (sc : Option (Nat × (Nat → Int32))) (ρ : ZAd) (s : State) : Prop := ∀ L xs, sc = some (L, xs) → va_X (ρ.1 0) L xs s s.heap ∧ ρ.1 0 < s.heap.size ∧ ¬ ρ.2.2 ≤ ρ.1 0
section ZC
variable {p : Program} {l : Launch} {e : Env} {R : Room} {s : State} {m : MethodId} {args : Array Value} {below : List Frame} {meth : Method} {c : Code} {H : Heap} {locs : List Loc} {cells slots : Nat} {Q : State → Prop}
variable {ρ : ZAd} {cA : Nat → ClassId} {D : va_G}
theorem zsize {M : ZMem} {g : JFrame} (hbs : ρ.2.2 ≤ s.heap.size) (hr : zRl ρ cA D s M H locs cells) (kk : H.size = ρ.2.2 + (zn M - 20) → W p l e R s m args below meth c H locs cells slots Q g) : W p l e R s m args below meth c H locs cells slots Q g := by
  obtain ⟨hO, hP, hc, hS⟩ := hr
  intro T hT X
  refine kk ?_ T hT X
  have h1 : T.heap.size ≤ s.heap.size + cells := X.same.2.2.1
  rw [hT] at h1
  have h2 : ρ.2.2 + (zn M - 20) ≤ H.size := by
    by_cases h : zn M = 20
    · rw [h]; exact Nat.le_trans (by omega) (Nat.le_trans hbs hS.1)
    · have h3 := zws_at (ρ := ρ) (cA := cA) (M := M) (k := zn M - 1) (by have := hO.1; omega) (by have := hO.1; omega)
      have h4 := (hP _ _ h3).lt
      have h5 : zadr ρ (zn M - 1) = ρ.2.2 + (zn M - 1 - 20) := by unfold zadr; rw [if_neg (by have := hO.1; omega)]
      rw [h5] at h4
      omega
  omega
theorem zcallW {g : JFrame} {rest : List Value} {v : Option Value} {M M' : ZMem} {ms : Nat} (hr : va_Run p l e R s m args below meth c H locs cells slots (zn M' - zn M) ms g rest (fun st oc t => oc = .returned v ∧ zOld M' ∧ va_P D vwCl (zws ρ cA M') t.heap ∧ va_F (fun q => ρ.2.2 ≤ q) st t) (fun q => ρ.2.2 ≤ q)) (hR : zRl ρ cA D s M H locs cells) (hm : zn M ≤ zn M')
    (kk : ∀ (H1 : Heap) (locs1 : List Loc), zRl ρ cA D s M' H1 locs1 (cells + (zn M' - zn M)) → W p l e R s m args below meth c H1 locs1 (cells + (zn M' - zn M)) (slots + ms) Q { g with pc := g.pc + 3, stack := v.toList ++ rest }) : W p l e R s m args below meth c H locs cells slots Q g := by
  obtain ⟨hO0, hP0, hc0, hS⟩ := hR
  intro T hT X
  obtain ⟨v', st₀, t, T', L, h0, X', hL, e1, e2, ⟨hv, hO, hP, hF1, hF2⟩, st⟩ := hr T hT X
  cases hv
  rw [h0] at hF1 hF2
  obtain ⟨t2, a1, b1⟩ := kk T'.heap (locs ++ L) ⟨hO, by rw [e1]; exact hP, by have := hO0.1; omega, Nat.le_trans hS.1 (by rw [e1]; exact hF1), fun q h1 h2 => by rw [e1, hF2 q (Nat.lt_of_lt_of_le h1 hS.1) h2]; exact hS.2.1 q h1 h2, fun q hq => by
      rcases List.mem_append.mp hq with h | h
      · exact hS.2.2 q h
      · exact hL q h⟩ T' rfl X'
  exact ⟨t2, st t2 a1, b1⟩
theorem zPre {as : List Value} {M : ZMem} (hE : zEnv ρ cA D s s.heap) (hr : zRl ρ cA D s M H locs cells) (hz : H.size = ρ.2.2 + (zn M - 20)) : FrameBlind (va_Pc (as.map (zcv ρ)) (fun U => zEnv ρ cA D U U.heap ∧ ρ.2.2 ≤ U.heap.size ∧ zOld M ∧ va_P D vwCl (zws ρ cA M) U.heap ∧ U.heap.size = ρ.2.2 + (zn M - 20))) ∧ ∀ U : State, U.heap = H → s.WarmedH U.vm → va_Pc (as.map (zcv ρ)) (fun U => zEnv ρ cA D U U.heap ∧ ρ.2.2 ≤ U.heap.size ∧ zOld M ∧ va_P D vwCl (zws ρ cA M) U.heap ∧ U.heap.size = ρ.2.2 + (zn M - 20)) (as.map (zcv ρ)).toArray U := by
  obtain ⟨hO, hP, hc, hS⟩ := hr
  refine ⟨fun a U g mk h => ?_, fun U hU hW => ⟨rfl, ?_, ?_, hO, ?_, ?_⟩⟩
  · obtain ⟨h1, h2, h3⟩ := h
    exact ⟨h1, zEnv.blind (U := U) (V := U.calling g mk a) h2 rfl, h3⟩
  · rw [hU]
    exact hE.go hW hS.2.1
  · rw [hU, hz]; exact Nat.le_add_right _ _
  · rw [hU]; exact hP
  · rw [hU]; exact hz
/-- what the words of a method say -/
theorem zmok_of {k : Nat} (h0 : 0 < k) (h : k < 240) : (Cond.initialized (zmeth k).1.cls) ∈ zG ∧ Cond.code (zmeth k).1 (zmeth k).2.1 (zml k) (zret k) ∈ zG ∧ plainFor (zmeth k).1 = true ∧ ((zmeth k).1.cls ≠ "java/lang/invoke/MethodHandle" ∧ (zmeth k).1.cls ≠ "java/lang/invoke/VarHandle") ∧ (parseMethodDescriptor (zmeth k).1.desc).map (fun d => d.parameters.length) = some (zmeth k).2.2.2.2.2 ∧ zml k ≤ 30 ∧
    ((zmk k = 0 ∧ Cond.instanceMethod (zmeth k).1 ∈ zG ∧ Cond.selects (zmeth k).1.cls (zmeth k).1 (zmeth k).1 ∈ zG ∧ (zmeth k).1.name ≠ "<init>") ∨ (zmk k = 1 ∧ Cond.static (zmeth k).1 ∈ zG) ∨ (zmk k = 2 ∧ Cond.instanceMethod (zmeth k).1 ∈ zG ∧ (zmeth k).1.name = "<init>" ∧ zret k = none)) := by
  have h1 := zmok_all k h0 h
  have h2 := zcd_all k h0 h
  unfold zmok at h1
  unfold zmk zml zret at *
  generalize zmw.getD k (3, 0, 0, 0, 0) = a at h1 ⊢
  obtain ⟨kd, p1, p2, p3, p4⟩ := a
  generalize zmeth k = b at h1 h2 ⊢
  obtain ⟨y, b, n, r, ci, np⟩ := b
  simp only [Bool.and_eq_true, decide_eq_true_eq] at h1
  obtain ⟨⟨⟨⟨⟨a1, a3⟩, a4⟩, a5⟩, a6⟩, a7⟩ := h1
  refine ⟨zat_in a1, h2, a3, a4, a5, a6, ?_⟩
  split at a7
  · simp only [Bool.and_eq_true, decide_eq_true_eq] at a7
    exact Or.inl ⟨rfl, zat_in a7.1.1, zat_in a7.1.2, a7.2⟩
  · exact Or.inr (Or.inl ⟨rfl, zat_in a7⟩)
  · simp only [Bool.and_eq_true, decide_eq_true_eq] at a7
    exact Or.inr (Or.inr ⟨rfl, zat_in a7.1.1, a7.1.2, a7.2⟩)
  · cases a7
theorem zlk_of {k n : Nat} {x : Nat × Nat × Nat × Nat} (hk : k < 240) (h : zlk k n = some x) : zlok (zcid k) (n, x) = true := by
  have h1 := zlok_all (zcid k) (zown_all k hk).2
  have h2 : ∀ r : List (Nat × Nat × Nat × Nat × Nat), zfind2 r n = some x → (n, x) ∈ r := by
    intro r
    induction r with
    | nil => intro h; cases h
    | cons a r ih =>
      intro h
      obtain ⟨j, w⟩ := a
      simp only [zfind2] at h
      split at h
      · next q => cases h; rw [← q]; exact List.mem_cons_self
      · exact List.mem_cons_of_mem _ (ih h)
  exact List.all_eq_true.mp h1 _ (h2 _ h)
theorem zargs_of {n : Nat} {st as r : List Value} (h : zargs n st = some (as, r)) : as.length = n ∧ st = as.reverse ++ r := by
  unfold zargs at h
  split at h
  · next hn =>
    simp only [Option.some.injEq, Prod.mk.injEq] at h
    obtain ⟨rfl, rfl⟩ := h
    exact ⟨by simp [hn], by rw [List.reverse_reverse, List.take_append_drop]⟩
  · cases h
theorem zGws (q : Nat) (h0 : 0 < q) (h : q < 240) : GoodIn zG (Cond.code (zmeth q).1 (zmeth q).2.1 (zml q) (zret q) :: zG) := fun w hw => by
  rcases List.mem_cons.mp hw with e | hw
  · rw [e]; exact zG_zG _ (zmok_of h0 h).2.1
  · exact zG_zG _ hw
/-- the receiver of a call -/
theorem zrecv {M : ZMem} {o : Nat} {C : String} (hE : zEnv ρ cA D s s.heap) (hr : zRl ρ cA D s M H locs cells) (h : ((zsh M o).1 < 13 ∧ 20 ≤ o ∧ o < zn M ∧ (zcl (zsh M o).1).1 = C) ∨ ((zsh M o).1 = 13 ∧ 2 ≤ o ∧ o < 9 ∧ C = "java/lang/String")) : o ≠ 18 ∧ ∃ cell : Cell, H[zadr ρ o]? = some cell ∧ cell.vm.isStatics = false ∧ s.vm.findClass C = some cell.cls := by
  obtain ⟨hO, hP, hz, hS⟩ := hr
  rcases h with ⟨h1, h2, h3, h4⟩ | ⟨h1, h2, h3, rfl⟩
  · refine ⟨by omega, ?_⟩
    have hw := zws_at (ρ := ρ) (cA := cA) h2 h3
    have hc : zcell ρ cA M o = .inr ((zsh M o).1, zflds ρ M (zsh M o).1 o) := if_pos h1
    rw [hc] at hw
    obtain ⟨cell, a1, a2, a3⟩ := va_recv hE.1 hP (zvw _ h1) hw
    rw [h4] at a3
    exact ⟨cell, a1, a2, a3⟩
  · refine ⟨by omega, ?_⟩
    obtain ⟨-, -, -, -, h7, -⟩ := hE
    obtain ⟨cell, a1, a2, a3⟩ := vk_recv (i := o - 2) h7 (by omega) hS
    have e : ρ.1 (2 + (o - 2)) = zadr ρ o := by
      simp only [zadr, if_pos (show o < 20 by omega), show 2 + (o - 2) = o by omega]
    rw [e] at a1
    exact ⟨cell, a1, a2, a3⟩
end ZC
end
section
/-! one instruction of the abstract machine is one of the machine's -/
theorem zdec {k pc n : Nat} {i : Instr} (hk : k < 240) (h : zi k pc = some i) (hn : zln i = some n) : decode (zmeth k).2.1 pc = .ok (i, n) := by
  have h1 := zd_all k hk
  have h2 : ∀ r : List (Nat × Instr), zfind2 r pc = some i → (pc, i) ∈ r := by
    intro r
    induction r with
    | nil => intro h; cases h
    | cons a r ih =>
      intro h
      obtain ⟨j, w⟩ := a
      simp only [zfind2] at h
      split at h
      · next q => cases h; rw [← q]; exact List.mem_cons_self
      · exact List.mem_cons_of_mem _ (ih h)
  have h3 := List.all_eq_true.mp h1 _ (h2 _ h)
  unfold zdk at h3
  simp only at h3
  split at h3
  · next i' n' hd =>
    simp only [Bool.and_eq_true, decide_eq_true_eq] at h3
    obtain ⟨rfl, h4⟩ := h3
    rw [hn] at h4
    rw [hd, eq_of_beq h4]
  · cases h3
theorem zdec_sw {k pc : Nat} {i : Instr} (hk : k < 240) (h : zi k pc = some i) : ∃ n, decode (zmeth k).2.1 pc = .ok (i, n) := by
  have h1 := zd_all k hk
  have h2 : ∀ r : List (Nat × Instr), zfind2 r pc = some i → (pc, i) ∈ r := by
    intro r
    induction r with
    | nil => intro h; cases h
    | cons a r ih =>
      intro h
      obtain ⟨j, w⟩ := a
      simp only [zfind2] at h
      split at h
      · next q => cases h; rw [← q]; exact List.mem_cons_self
      · exact List.mem_cons_of_mem _ (ih h)
  have h3 := List.all_eq_true.mp h1 _ (h2 _ h)
  unfold zdk at h3
  simp only at h3
  split at h3
  · next i' n' hd =>
    simp only [Bool.and_eq_true, decide_eq_true_eq] at h3
    obtain ⟨rfl, h4⟩ := h3
    exact ⟨n', hd⟩
  · cases h3
theorem zjmp_of {pc t : Nat} {o : Int} (h : zjmp pc o = some t) : (pc : Int) + o = (t : Int) := by
  unfold zjmp at h
  split at h
  · next h0 => cases h; omega
  · cases h
theorem zkeys_sel (x : Int32) (d : Int) : ∀ (os : List Int) (lo : Int), zsel x (zkeys lo os) d = if lo ≤ x.toInt ∧ x.toInt < lo + os.length then os.getD (x.toInt - lo).toNat d else d := by
  intro os
  induction os with
  | nil => intro lo; simp [zkeys, zsel]
  | cons o r ih =>
    intro lo
    simp only [zkeys, zsel]
    by_cases h : x.toInt = lo
    · rw [if_pos h, if_pos (by simp; omega), h]
      simp
    · rw [if_neg h, ih]
      by_cases h2 : lo + 1 ≤ x.toInt ∧ x.toInt < lo + 1 + r.length
      · rw [if_pos h2, if_pos (by simp; omega)]
        have e : (x.toInt - lo).toNat = (x.toInt - (lo + 1)).toNat + 1 := by omega
        rw [e]
        simp
      · rw [if_neg h2, if_neg (by simp; omega)]
theorem zsel_off (x : Int32) (d : Int) (ps : List (Int × Int)) : Op.lookupswitch.offset ps d x.toInt = zsel x ps d := by
  induction ps with
  | nil => rfl
  | cons a r ih =>
    obtain ⟨k, o⟩ := a
    rw [Op.lookupswitch.offset_cons, ih, zsel]
    by_cases h : k = x.toInt
    · rw [if_pos h, if_pos h.symm]
    · rw [if_neg h, if_neg (fun q => h q.symm)]
theorem zcell_I {ρ : ZAd} {cA : Nat → ClassId} {M : ZMem} {k : Nat} (h : 13 ≤ (zsh M k).1) (h2 : (zsh M k).1 < 23) : zcell ρ cA M k = .inl (cA (zsh M k).1, (zsh M k).2, .inl (zI M k)) := by
  unfold zcell
  rw [if_neg (by omega), if_pos h2]
theorem zcell_L {ρ : ZAd} {cA : Nat → ClassId} {M : ZMem} {k : Nat} (h : (zsh M k).1 = 23) : zcell ρ cA M k = .inl (cA 23, (zsh M k).2, .inr (.inl (zL M k))) := by
  unfold zcell
  rw [if_neg (by omega), if_neg (by omega), if_pos h, h]
theorem zcell_R {ρ : ZAd} {cA : Nat → ClassId} {M : ZMem} {k : Nat} (h : 24 ≤ (zsh M k).1) : zcell ρ cA M k = .inl (cA (zsh M k).1, (zsh M k).2, .inr (.inr (.inr (.inr (fun j => zrA ρ (zR M k j)))))) := by
  unfold zcell
  rw [if_neg (by omega), if_neg (by omega), if_neg (by omega)]
theorem zcell_O {ρ : ZAd} {cA : Nat → ClassId} {M : ZMem} {k : Nat} (h : (zsh M k).1 < 13) : zcell ρ cA M k = .inr ((zsh M k).1, zflds ρ M (zsh M k).1 k) := if_pos h
theorem zflds_at {ρ : ZAd} {M : ZMem} {t k j : Nat} (h : j < zN t) : (zflds ρ M t k)[j]? = some (zcv ρ (zfv M t k j)) := by
  simp [zflds, List.getElem?_range h]
/-- writing keeps the old places, the count, the other cells -/
theorem zOld_pI {M : ZMem} {p k : Nat} {v : Int32} (h : zOld M) (hp : 20 ≤ p) : zOld (zpI M p k v) := by
  refine ⟨h.1, fun q hq => ⟨(h.2 q hq).1, fun j => ?_, (h.2 q hq).2.2⟩⟩
  show (if q = p ∧ j = k then v else zI M q j) = _
  rw [if_neg (by omega)]
  exact (h.2 q hq).2.1 j
theorem zOld_pL {M : ZMem} {p k : Nat} {v : Int64} (h : zOld M) (_ : 20 ≤ p) : zOld (zpL M p k v) := h
theorem zOld_pR {M : ZMem} {p k : Nat} {v : Option Nat} (h : zOld M) (hp : 20 ≤ p) : zOld (zpR M p k v) := by
  refine ⟨h.1, fun q hq => ⟨(h.2 q hq).1, (h.2 q hq).2.1, fun j => ?_⟩⟩
  show (if q = p ∧ j = k then v else zR M q j) = _
  rw [if_neg (by omega)]
  exact (h.2 q hq).2.2 j
theorem zOld_cI {M : ZMem} {p sp q dp n : Nat} (h : zOld M) (hq : 20 ≤ q) : zOld (zcpI M p sp q dp n) := by
  refine ⟨h.1, fun r hr => ⟨(h.2 r hr).1, fun j => ?_, (h.2 r hr).2.2⟩⟩
  show (if r = q ∧ dp ≤ j ∧ j < dp + n then _ else zI M r j) = _
  rw [if_neg (by omega)]
  exact (h.2 r hr).2.1 j
theorem zOld_new {M : ZMem} {t len sl : Nat} (h : zOld M) : zOld (znew M t len sl) := by
  refine ⟨Nat.le_succ_of_le h.1, fun q hq => ⟨?_, fun j => ?_, fun j => ?_⟩⟩
  · show (if q = zn M then _ else zsh M q) = _
    rw [if_neg (by have := h.1; omega)]
    exact (h.2 q hq).1
  · show (if q = zn M then _ else zI M q j) = _
    rw [if_neg (by have := h.1; omega)]
    exact (h.2 q hq).2.1 j
  · show (if q = zn M then _ else zR M q j) = _
    rw [if_neg (by have := h.1; omega)]
    exact (h.2 q hq).2.2 j
theorem zflds_pI_ne {ρ : ZAd} {M : ZMem} {p k q t : Nat} {v : Int32} (h : q ≠ p) : zflds ρ (zpI M p k v) t q = zflds ρ M t q := by
  unfold zflds
  refine List.map_congr_left fun j _ => ?_
  unfold zfv
  have e : zI (zpI M p k v) q j = zI M q j := if_neg (fun z => h z.1)
  rw [e]
  rfl
theorem zcell_pI_ne {ρ : ZAd} {cA : Nat → ClassId} {M : ZMem} {p k q : Nat} {v : Int32} (h : q ≠ p) : zcell ρ cA (zpI M p k v) q = zcell ρ cA M q := by
  have e : zI (zpI M p k v) q = zI M q := by funext j; exact if_neg (fun z => h z.1)
  unfold zcell
  rw [zflds_pI_ne h, e]
  rfl
theorem zflds_pL_ne {ρ : ZAd} {M : ZMem} {p k q t : Nat} {v : Int64} (h : q ≠ p) : zflds ρ (zpL M p k v) t q = zflds ρ M t q := by
  unfold zflds
  refine List.map_congr_left fun j _ => ?_
  unfold zfv
  have e : zL (zpL M p k v) q j = zL M q j := if_neg (fun z => h z.1)
  rw [e]
  rfl
theorem zcell_pL_ne {ρ : ZAd} {cA : Nat → ClassId} {M : ZMem} {p k q : Nat} {v : Int64} (h : q ≠ p) : zcell ρ cA (zpL M p k v) q = zcell ρ cA M q := by
  have e : zL (zpL M p k v) q = zL M q := by funext j; exact if_neg (fun z => h z.1)
  unfold zcell
  rw [zflds_pL_ne h, e]
  rfl
theorem zflds_pR_ne {ρ : ZAd} {M : ZMem} {p k q t : Nat} {v : Option Nat} (h : q ≠ p) : zflds ρ (zpR M p k v) t q = zflds ρ M t q := by
  unfold zflds
  refine List.map_congr_left fun j _ => ?_
  unfold zfv
  have e : zR (zpR M p k v) q j = zR M q j := if_neg (fun z => h z.1)
  rw [e]
  rfl
theorem zcell_pR_ne {ρ : ZAd} {cA : Nat → ClassId} {M : ZMem} {p k q : Nat} {v : Option Nat} (h : q ≠ p) : zcell ρ cA (zpR M p k v) q = zcell ρ cA M q := by
  have e : ∀ j, zR (zpR M p k v) q j = zR M q j := fun j => if_neg (fun z => h z.1)
  unfold zcell
  rw [zflds_pR_ne h]
  simp only [e]
  rfl
/-- a field is set -/
theorem zflds_set {ρ : ZAd} {M M' : ZMem} {t o j : Nat} {w : Value} (hj : j < zN t) (h1 : zfv M' t o j = w) (h2 : ∀ i, i ≠ j → zfv M' t o i = zfv M t o i) : (zflds ρ M t o).set j (zcv ρ w) = zflds ρ M' t o := by
  apply List.ext_getElem?
  intro i
  rw [List.getElem?_set]
  by_cases h : j = i
  · subst h
    simp [zflds, hj, h1]
  · rw [if_neg h]
    simp only [zflds, List.getElem?_map]
    cases hi : (List.range (zN t))[i]? with
    | none => rfl
    | some a =>
      have ha : a = i := by
        obtain ⟨h3, h4⟩ := List.getElem?_eq_some_iff.mp hi
        simp at h4
        exact h4.symm
      subst ha
      simp [h2 a (fun z => h z.symm)]
theorem zpf_of {M M' : ZMem} {t j o : Nat} {v : Value} {b : Bool} (h : zpf M t j o v b = some M') : ((zsh M o).1 = t ∧ t < 13 ∧ j < zN t ∧ o < zn M ∧ 20 ≤ o ∧ (zfin t j = true → b = true) ∧ narrow (zty t j) v = v ∧ fits (zty t j) v = true) ∧ zsh M' = zsh M ∧ zn M' = zn M ∧ zc M' = zc M ∧ (zOld M → zOld M') ∧ zfv M' t o j = v ∧ (∀ i, i ≠ j → zfv M' t o i = zfv M t o i) ∧ (∀ ρ cA q, q ≠ o → zcell ρ cA M' q = zcell ρ cA M q) ∧ (v = .null ∨ (∃ q, v = .ref q) ∨ (∃ x, v = .int x) ∨ ∃ x, v = .long x) := by
  unfold zpf at h
  split at h
  · next hc =>
    refine ⟨hc, ?_⟩
    split at h
    · next _ x hk =>
      cases h
      refine ⟨rfl, rfl, rfl, fun q => zOld_pI q hc.2.2.2.2.1, ?_, fun i hi => ?_, fun ρ cA q hq => zcell_pI_ne hq, Or.inr (Or.inr (Or.inl ⟨_, rfl⟩))⟩
      · unfold zfv; rw [hk]; show Value.int (if o = o ∧ j = j then x else _) = _; rw [if_pos ⟨rfl, rfl⟩]
      · unfold zfv
        have e : zI (zpI M o j x) o i = zI M o i := if_neg (fun z => hi z.2)
        rw [e]; rfl
    · next _ x hk =>
      cases h
      refine ⟨rfl, rfl, rfl, fun q => zOld_pL q hc.2.2.2.2.1, ?_, fun i hi => ?_, fun ρ cA q hq => zcell_pL_ne hq, Or.inr (Or.inr (Or.inr ⟨_, rfl⟩))⟩
      · unfold zfv; rw [hk]; show Value.long (if o = o ∧ j = j then x else _) = _; rw [if_pos ⟨rfl, rfl⟩]
      · unfold zfv
        have e : zL (zpL M o j x) o i = zL M o i := if_neg (fun z => hi z.2)
        rw [e]; rfl
    · next _ hk =>
      cases h
      refine ⟨rfl, rfl, rfl, fun q => zOld_pR q hc.2.2.2.2.1, ?_, fun i hi => ?_, fun ρ cA q hq => zcell_pR_ne hq, Or.inl rfl⟩
      · unfold zfv; rw [hk]; show zrf (if o = o ∧ j = j then none else _) = _; rw [if_pos ⟨rfl, rfl⟩]; rfl
      · unfold zfv
        have e : zR (zpR M o j none) o i = zR M o i := if_neg (fun z => hi z.2)
        rw [e]; rfl
    · next _ r hk =>
      cases h
      refine ⟨rfl, rfl, rfl, fun q => zOld_pR q hc.2.2.2.2.1, ?_, fun i hi => ?_, fun ρ cA q hq => zcell_pR_ne hq, Or.inr (Or.inl ⟨_, rfl⟩)⟩
      · unfold zfv; rw [hk]; show zrf (if o = o ∧ j = j then some r else _) = _; rw [if_pos ⟨rfl, rfl⟩]; rfl
      · unfold zfv
        have e : zR (zpR M o j (some r)) o i = zR M o i := if_neg (fun z => hi z.2)
        rw [e]; rfl
    · cases h
  · cases h
section ZST
variable {p : Program} {l : Launch} {e : Env} {R : Room} {s : State} {m : MethodId} {args : Array Value} {below : List Frame} {meth : Method} {c : Code} {H : Heap} {locs : List Loc} {cells slots : Nat} {Q : State → Prop}
variable {ρ : ZAd} {cA : Nat → ClassId} {D : va_G} {k pc : Nat} {ls : Array Slot} {rest : List Value}
theorem z_if {cc : ByteArray} (hx : p.tables.exec = Jvm.exec) (hb : c.code = cc) {q : ClassFile.Cond} {x : Int32} {o : Int} {t : Nat} (hd : decode cc pc = .ok (.ifCond q o, 3)) (ht : (pc : Int) + o = (t : Int)) (K : W p l e R s m args below meth c H locs cells slots Q (F0 m (if zcndB q x 0 then t else pc + 3) ls rest)) : W p l e R s m args below meth c H locs cells slots Q (F0 m pc ls (.int x :: rest)) := by
  by_cases hB : zcndB q x 0 = true
  · rw [if_pos hB] at K
    have hc := (zcndB_iff q x 0).mp hB
    cases q
    · exact lv_if_eq hx hb hd ht (fun _ => K) (fun h => absurd hc h)
    · exact lv_if_ne hx hb hd ht (fun _ => K) (fun h => absurd h hc)
    · exact lv_if_lt hx hb hd ht (fun _ => K) (fun h => absurd hc h)
    · exact lv_if_ge hx hb hd ht (fun _ => K) (fun h => absurd hc h)
    · exact lv_if_gt hx hb hd ht (fun _ => K) (fun h => absurd hc h)
    · exact lv_if_le hx hb hd ht (fun _ => K) (fun h => absurd hc h)
  · rw [if_neg hB] at K
    have hc : ¬ zcnd q x 0 := fun z => hB ((zcndB_iff q x 0).mpr z)
    cases q
    · exact lv_if_eq hx hb hd ht (fun h => absurd h hc) (fun _ => K)
    · exact lv_if_ne hx hb hd ht (fun h => absurd h hc) (fun _ => K)
    · exact lv_if_lt hx hb hd ht (fun h => absurd h hc) (fun _ => K)
    · exact lv_if_ge hx hb hd ht (fun h => absurd h hc) (fun _ => K)
    · exact lv_if_gt hx hb hd ht (fun h => absurd h hc) (fun _ => K)
    · exact lv_if_le hx hb hd ht (fun h => absurd h hc) (fun _ => K)
theorem z_icmp {cc : ByteArray} (hx : p.tables.exec = Jvm.exec) (hb : c.code = cc) {q : ClassFile.Cond} {x y : Int32} {o : Int} {t : Nat} (hd : decode cc pc = .ok (.if_icmp q o, 3)) (ht : (pc : Int) + o = (t : Int)) (K : W p l e R s m args below meth c H locs cells slots Q (F0 m (if zcndB q x y then t else pc + 3) ls rest)) : W p l e R s m args below meth c H locs cells slots Q (F0 m pc ls (.int y :: .int x :: rest)) := by
  by_cases hB : zcndB q x y = true
  · rw [if_pos hB] at K
    have hc := (zcndB_iff q x y).mp hB
    cases q
    · exact lv_icmp_eq hx hb hd ht (fun _ => K) (fun h => absurd hc h)
    · exact lv_icmp_ne hx hb hd ht (fun _ => K) (fun h => absurd h hc)
    · exact lv_icmp_lt hx hb hd ht (fun _ => K) (fun h => absurd hc h)
    · exact lv_icmp_ge hx hb hd ht (fun _ => K) (fun h => absurd hc h)
    · exact lv_icmp_gt hx hb hd ht (fun _ => K) (fun h => absurd hc h)
    · exact lv_icmp_le hx hb hd ht (fun _ => K) (fun h => absurd hc h)
  · rw [if_neg hB] at K
    have hc : ¬ zcnd q x y := fun z => hB ((zcndB_iff q x y).mpr z)
    cases q
    · exact lv_icmp_eq hx hb hd ht (fun h => absurd h hc) (fun _ => K)
    · exact lv_icmp_ne hx hb hd ht (fun h => absurd h hc) (fun _ => K)
    · exact lv_icmp_lt hx hb hd ht (fun h => absurd h hc) (fun _ => K)
    · exact lv_icmp_ge hx hb hd ht (fun h => absurd h hc) (fun _ => K)
    · exact lv_icmp_gt hx hb hd ht (fun h => absurd h hc) (fun _ => K)
    · exact lv_icmp_le hx hb hd ht (fun h => absurd h hc) (fun _ => K)
theorem z_table {cc : ByteArray} (hx : p.tables.exec = Jvm.exec) (hb : c.code = cc) {df lo hi : Int} {os : Array Int} {len : Nat} {x : Int32} {t : Nat} (hd : decode cc pc = .ok (.tableswitch df lo hi os, len)) (hl : os.toList.length = (hi - lo + 1).toNat ∧ lo ≤ hi) (ht : (pc : Int) + zsel x (zkeys lo os.toList) df = (t : Int)) (K : W p l e R s m args below meth c H locs cells slots Q (F0 m t ls rest)) : W p l e R s m args below meth c H locs cells slots Q (F0 m pc ls (.int x :: rest)) := by
  rw [zkeys_sel] at ht
  by_cases h : lo ≤ x.toInt ∧ x.toInt < lo + os.toList.length
  · rw [if_pos h] at ht
    have hlt : (x.toInt - lo).toNat < os.toList.length := by omega
    refine lv_tableIn hx hb hd (by omega) (by omega) (off := os.toList.getD (x.toInt - lo).toNat df) ?_ ht K
    rw [← Array.getElem?_toList, List.getD_eq_getElem?_getD, List.getElem?_eq_getElem hlt]
    rfl
  · rw [if_neg h] at ht
    exact lv_tableOut hx hb hd (by omega) ht K
theorem z_look {cc : ByteArray} (hx : p.tables.exec = Jvm.exec) (hb : c.code = cc) {df : Int} {ps : Array (Int × Int)} {len : Nat} {x : Int32} {t : Nat} (hd : decode cc pc = .ok (.lookupswitch df ps, len)) (hp : (ps.toList.zip (ps.toList.drop 1)).all (fun (a, next) => a.1 < next.1) = true) (ht : (pc : Int) + zsel x ps.toList df = (t : Int)) (K : W p l e R s m args below meth c H locs cells slots Q (F0 m t ls rest)) : W p l e R s m args below meth c H locs cells slots Q (F0 m pc ls (.int x :: rest)) :=
  lv_lookup hx hb hd hp (zsel_off x df _) ht K
theorem z_aload {cc : ByteArray} (hx : p.tables.exec = Jvm.exec) (hb : c.code = cc) (hf : zfm ρ) {i x : Nat} (hd : decode cc pc = .ok (.aload i, 2)) (hl : ls[i]? = some (.val (zcv ρ (.ref x)))) (K : W p l e R s m args below meth c H locs cells slots Q (F0 m (pc + 2) ls (zcv ρ (.ref x) :: rest))) : W p l e R s m args below meth c H locs cells slots Q (F0 m pc ls rest) := by
  rcases zcv_r hf x with h | ⟨a, h⟩ <;> rw [h] at hl K
  · exact lv_aloadN hx hb hd hl K
  · exact lv_aload hx hb hd hl K
theorem z_aload_n {cc : ByteArray} (hx : p.tables.exec = Jvm.exec) (hb : c.code = cc) (hf : zfm ρ) {i : Fin 4} {x : Nat} (hd : decode cc pc = .ok (.aload_n i, 1)) (hl : ls[(i : Nat)]? = some (.val (zcv ρ (.ref x)))) (K : W p l e R s m args below meth c H locs cells slots Q (F0 m (pc + 1) ls (zcv ρ (.ref x) :: rest))) : W p l e R s m args below meth c H locs cells slots Q (F0 m pc ls rest) := by
  rcases zcv_r hf x with h | ⟨a, h⟩ <;> rw [h] at hl K
  · exact lv_aload_nN hx hb hd rfl hl K
  · exact lv_aload_n hx hb hd rfl hl K
theorem z_astore {cc : ByteArray} (hx : p.tables.exec = Jvm.exec) (hb : c.code = cc) (hf : zfm ρ) {i x nL : Nat} {lo : List (Nat × Value)} (hd : decode cc pc = .ok (.astore i, 2)) (hl : lv_has ls nL (zcl2 ρ lo)) (hn : i < nL) (K : ∀ ls' : Array Slot, lv_has ls' nL (zcl2 ρ (zst1 lo i (.ref x))) → W p l e R s m args below meth c H locs cells slots Q (F0 m (pc + 2) ls' rest)) : W p l e R s m args below meth c H locs cells slots Q (F0 m pc ls (zcv ρ (.ref x) :: rest)) := by
  have h2 := zcl2_st hf lo i (.ref x)
  rcases zcv_r hf x with h | ⟨a, h⟩ <;> rw [h] at h2 ⊢
  · exact lv_astoreN hx hb hd hl hn h2 K
  · exact lv_astore hx hb hd hl hn h2 K
theorem z_astore_n {cc : ByteArray} (hx : p.tables.exec = Jvm.exec) (hb : c.code = cc) (hf : zfm ρ) {i : Fin 4} {x nL : Nat} {lo : List (Nat × Value)} (hd : decode cc pc = .ok (.astore_n i, 1)) (hl : lv_has ls nL (zcl2 ρ lo)) (hn : (i : Nat) < nL) (K : ∀ ls' : Array Slot, lv_has ls' nL (zcl2 ρ (zst1 lo i (.ref x))) → W p l e R s m args below meth c H locs cells slots Q (F0 m (pc + 1) ls' rest)) : W p l e R s m args below meth c H locs cells slots Q (F0 m pc ls (zcv ρ (.ref x) :: rest)) := by
  have h2 := zcl2_st hf lo i (.ref x)
  rcases zcv_r hf x with h | ⟨a, h⟩ <;> rw [h] at h2 ⊢
  · exact lv_astore_nN hx hb hd rfl hl hn h2 K
  · exact lv_astore_n hx hb hd rfl hl hn h2 K
/-- a field is read -/
theorem z_getf {M : ZMem} {n t j w o : Nat} {v : Value} (F : zFx p s m args meth c ρ cA D k) (hr : zRl ρ cA D s M H locs cells) (hi : zi k pc = some (.getfield n)) (hlk : zlk k n = some (0, t, j, w)) (hg : zgf M t j o = some v) (K : W p l e R s m args below meth c H locs cells slots Q (F0 m (pc + 3) ls (zcv ρ v :: rest))) : W p l e R s m args below meth c H locs cells slots Q (F0 m pc ls (zcv ρ (.ref o) :: rest)) := by
  obtain ⟨hk, hx, hb, hml, hown, hts, hini, hf, hE, hbs⟩ := F
  obtain ⟨hO, hP, hz, hS⟩ := hr
  have hd := zdec hk hi rfl
  have hw := zlk_of hk hlk
  unfold zgf at hg
  split at hg
  · next hc =>
    obtain ⟨c1, c2, c3, c4, c5, c6⟩ := hc
    cases hg
    have ho : o ≠ 18 := by
      by_cases ht : t = 13
      · have := c6 ht; omega
      · omega
    rw [zcv_ne ho]
    have hown2 := (zown_all k hk).1
    simp only [zlok] at hw
    by_cases ht : t < 13
    · rw [if_pos ht] at hw
      simp only [Bool.and_eq_true, decide_eq_true_eq] at hw
      have hwn := hts _ (zat_in hw.2)
      rw [hown2] at hwn
      have h20 : 20 ≤ o := by omega
      have he := zws_at (ρ := ρ) (cA := cA) h20 c4
      rw [zcell_O (by omega), c1] at he
      have hj2 : j < (zcl t).2.2 := by have := c3; unfold zN at this; rwa [if_neg (by omega)] at this
      refine va_get (C := (zcl t).1) (T := (zcl t).2.1) (N := (zcl t).2.2) (ref := ((zcl t).2.1 j).1) (v := zcv ρ (zfv M t o j)) hx hb hts (fun w hw => ?_) hown hE.1 hP (o - 20) he (zvw t ht) j hj2 hwn (fun _ h => h) (zflds_at c3) hd K
      obtain ⟨a, ha, rfl⟩ := List.mem_map.mp hw
      exact zuws t ht a (by unfold zN; rw [if_neg (by omega)]; exact List.mem_range.mp ha)
    · have ht13 : t = 13 := by omega
      subst ht13
      rw [if_neg ht] at hw
      obtain ⟨a1, a2⟩ := c6 rfl
      obtain ⟨-, -, -, -, h7, -⟩ := hE
      have hS7 := h7.1 (o - 2) (by omega)
      dsimp only at hS7
      have hM := hO.2 o (by omega)
      have ead : ρ.1 (2 + (o - 2)) = zadr ρ o := by simp only [zadr, if_pos (show o < 20 by omega), show 2 + (o - 2) = o by omega]
      have eav : ρ.1 (9 + (o - 2)) = zadr ρ (o + 7) := by simp only [zadr, if_pos (show o + 7 < 20 by omega), show 9 + (o - 2) = o + 7 by omega]
      rw [ead, eav] at hS7
      simp only [Bool.and_eq_true, Bool.or_eq_true, decide_eq_true_eq] at hw
      rcases hw.2 with ⟨rfl, hw2⟩ | ⟨rfl, hw2⟩
      · have hwn := hts _ (zat_in hw2)
        rw [hown2] at hwn
        have ev : zfv M 13 o 0 = .ref (o + 7) := by
          show zrf (zR M o 0) = _
          rw [hM.2.2 0]
          show zrf (if 2 ≤ o ∧ o < 9 ∧ 0 = 0 then some (o + 7) else none) = _
          rw [if_pos ⟨a1, a2, rfl⟩]; rfl
        rw [ev, zcv_ne (by omega)] at K
        exact vk_getf (ref := "java/lang/String") hx hb hS7.2.2.1 hS hown hwn (fun _ h => h) hd K
      · have hwn := hts _ (zat_in hw2)
        rw [hown2] at hwn
        have ev : zfv M 13 o 1 = .int 0 := by
          show Value.int (zI M o 1) = _
          rw [hM.2.1 1]
          show Value.int (if o = 1 then _ else if 9 ≤ o ∧ o < 16 then _ else 0) = _
          rw [if_neg (by omega), if_neg (by omega)]
        rw [ev] at K
        exact vk_getf (ref := "java/lang/String") hx hb hS7.2.1 hS hown hwn (fun _ h => h) hd K
  · cases hg
/-- a field is written -/
theorem z_putf {M M' : ZMem} {n t j w o : Nat} {v : Value} (F : zFx p s m args meth c ρ cA D k) (hr : zRl ρ cA D s M H locs cells) (hi : zi k pc = some (.putfield n)) (hlk : zlk k n = some (0, t, j, w)) (hg : zpf M t j o v (zini k && ((zcl t).1 == (zmeth k).1.cls)) = some M') (K : ∀ H' locs', zRl ρ cA D s M' H' locs' cells → W p l e R s m args below meth c H' locs' cells slots Q (F0 m (pc + 3) ls rest)) : W p l e R s m args below meth c H locs cells slots Q (F0 m pc ls (zcv ρ v :: zcv ρ (.ref o) :: rest)) := by
  obtain ⟨hk, hx, hb, hml, hown, hts, hini, hf, hE, hbs⟩ := F
  obtain ⟨hO, hP, hz, hS⟩ := hr
  have hd := zdec hk hi rfl
  have hw := zlk_of hk hlk
  have hown2 := (zown_all k hk).1
  obtain ⟨⟨c1, ht, c3, c4, h20, c6, c7, c8⟩, q1, q2, q3, q4, q5, q6, q7, q8⟩ := zpf_of hg
  rw [zcv_ne (show o ≠ 18 by omega)]
  simp only [zlok] at hw
  rw [if_pos ht] at hw
  simp only [Bool.and_eq_true, decide_eq_true_eq] at hw
  have hwn := hts _ (zat_in hw.2)
  rw [hown2] at hwn
  have he := zws_at (ρ := ρ) (cA := cA) h20 c4
  have hce : zcell ρ cA M' o = .inr (t, zflds ρ M' t o) := by rw [zcell_O (by rw [q1]; omega), q1, c1]
  rw [zcell_O (by omega), c1] at he
  have hj2 : j < (zcl t).2.2 := by have := c3; unfold zN at this; rwa [if_neg (by omega)] at this
  have hfl : j < (zflds ρ M t o).length := by simp [zflds, c3]
  have hu : ∀ w ∈ u_ws (zcl t).1 (zcl t).2.1 (zcl t).2.2, w ∈ zG := fun w hw => by
    obtain ⟨a, ha, rfl⟩ := List.mem_map.mp hw
    exact zuws t ht a (by unfold zN; rw [if_neg (by omega)]; exact List.mem_range.mp ha)
  have e2 : zN t = (zcl t).2.2 := by unfold zN; rw [if_neg (by omega)]
  have hset : (zws ρ cA M).set (o - 20) (zadr ρ o, .inr (t, (zflds ρ M t o).set j (zcv ρ v))) = zws ρ cA M' := by
    rw [zflds_set c3 q5 q6]
    exact zws_set h20 q2 hce (fun i hi => q7 ρ cA i hi)
  have nn : narrow (zty t j) (zcv ρ v) = zcv ρ v ∧ fits (zty t j) (zcv ρ v) = true := by
    rcases q8 with rfl | ⟨q, rfl⟩ | ⟨x, rfl⟩ | ⟨x, rfl⟩
    · exact ⟨c7, c8⟩
    · have h9 : ∀ ty : FieldType, fits ty (.ref q) = true → ∀ u, (u = .null ∨ ∃ a, u = .ref a) → narrow ty u = u ∧ fits ty u = true := by
        intro ty hfit u hu
        rcases hu with rfl | ⟨a, rfl⟩ <;> cases ty <;> first | exact ⟨rfl, rfl⟩ | cases hfit
      exact h9 _ c8 _ (zcv_r hf q)
    · exact ⟨c7, c8⟩
    · exact ⟨c7, c8⟩
  have KK : ∀ (H1 : Heap) (locs1 : List Loc), va_P D vwCl ((zws ρ cA M).set (o - 20) (zadr ρ o, .inr (t, (zflds ρ M t o).set j (zcv ρ v)))) H1 → va_D (fun q => ρ.2.2 ≤ q) ((zws ρ cA M).set (o - 20) (zadr ρ o, .inr (t, (zflds ρ M t o).set j (zcv ρ v)))) → va_S (fun q => ρ.2.2 ≤ q) s.heap H1 locs1 → W p l e R s m args below meth c H1 locs1 cells slots Q (F0 m (pc + 3) ls rest) := fun H1 locs1 hP1 _ hS1 => by
    rw [hset] at hP1
    exact K H1 locs1 ⟨q4 hO, hP1, by rw [hz, q2], hS1⟩
  by_cases hfi : zfin t j = true
  · have hb6 := c6 hfi
    simp only [Bool.and_eq_true, beq_iff_eq] at hb6
    have hfi2 : ((zcl t).2.1 j).2.2.2 = true := by unfold zfin at hfi; rwa [if_neg (by omega)] at hfi
    exact va_putF (C := (zcl t).1) (T := (zcl t).2.1) (N := (zcl t).2.2) (ref := ((zcl t).2.1 j).1) (ty := zty t j) (v := zcv ρ v) hx hb hts hu (zty t) (fun a ha => zty_ok t ht a (by omega)) (fun a ha b hb' => znm_ok t ht a (by omega) b (by omega)) hown hE.1 hP (zws_D ρ cA M) hS (o - 20) he (zvw t ht) j hj2 hwn (fun _ h => h) hfi2 (hini hb6.1) ((zdcl_ok t ht j c3).trans hb6.2) (zty_ok t ht j c3) nn.1 nn.2 hfl hd KK
  · have hfi2 : ((zcl t).2.1 j).2.2.2 = false := by unfold zfin at hfi; rw [if_neg (by omega)] at hfi; exact Bool.eq_false_iff.mpr hfi
    exact va_put (C := (zcl t).1) (T := (zcl t).2.1) (N := (zcl t).2.2) (ref := ((zcl t).2.1 j).1) (ty := zty t j) (v := zcv ρ v) hx hb hts hu (zty t) (fun a ha => zty_ok t ht a (by omega)) (fun a ha b hb' => znm_ok t ht a (by omega) b (by omega)) hown hE.1 hP (zws_D ρ cA M) hS (o - 20) he (zvw t ht) j hj2 hwn (fun _ h => h) hfi2 (zty_ok t ht j c3) nn.1 nn.2 hfl hd KK
end ZST
end
section
section ZSA
variable {p : Program} {l : Launch} {e : Env} {R : Room} {s : State} {m : MethodId} {args : Array Value} {below : List Frame} {meth : Method} {c : Code} {H : Heap} {locs : List Loc} {cells slots : Nat} {Q : State → Prop}
variable {ρ : ZAd} {cA : Nat → ClassId} {D : va_G} {k pc : Nat} {ls : Array Slot} {rest : List Value}
/-- what a write into a row of whole numbers leaves -/
theorem zw_I {M : ZMem} {o i : Nat} {x : Int32} {H1 : Heap} {locs1 : List Loc} (hr : zRl ρ cA D s M H locs cells) (h20 : 20 ≤ o) (ht : 13 ≤ (zsh M o).1 ∧ (zsh M o).1 < 23) (hP1 : va_P D vwCl ((zws ρ cA M).set (o - 20) (zadr ρ o, .inl (cA (zsh M o).1, (zsh M o).2, .inl (upd (zI M o) i x)))) H1) (hS1 : va_S (fun q => ρ.2.2 ≤ q) s.heap H1 locs1) : zRl ρ cA D s (zpI M o i x) H1 locs1 cells := by
  obtain ⟨hO, hP, hc, hS⟩ := hr
  have e : zcell ρ cA (zpI M o i x) o = .inl (cA (zsh M o).1, (zsh M o).2, .inl (upd (zI M o) i x)) := by
    rw [zcell_I (M := zpI M o i x) ht.1 ht.2]
    have e2 : zI (zpI M o i x) o = upd (zI M o) i x := by
      funext j
      show (if o = o ∧ j = i then x else zI M o j) = upd (zI M o) i x j
      by_cases hj : j = i
      · rw [if_pos ⟨rfl, hj⟩, hj]; simp [upd]
      · rw [if_neg (fun z => hj z.2)]; simp [upd, hj]
    rw [e2]; rfl
  rw [zws_set (M := M) (M' := zpI M o i x) h20 rfl e (fun j hj => zcell_pI_ne hj)] at hP1
  exact ⟨zOld_pI hO h20, hP1, hc, hS1⟩
theorem z_iast {M M' : ZMem} {o : Nat} {i x : Int32} (F : zFx p s m args meth c ρ cA D k) (hr : zRl ρ cA D s M H locs cells) (hi : zi k pc = some .iastore) (hg : zsa M 20 o i x = some M') (K : ∀ H' locs', zRl ρ cA D s M' H' locs' cells → W p l e R s m args below meth c H' locs' cells slots Q (F0 m (pc + 1) ls rest)) : W p l e R s m args below meth c H locs cells slots Q (F0 m pc ls (.int x :: .int i :: zcv ρ (.ref o) :: rest)) := by
  obtain ⟨hk, hx, hb, hml, hown, hts, hini, hf, hE, hbs⟩ := F
  have hd := zdec hk hi rfl
  unfold zsa at hg
  split at hg
  · next hc =>
    obtain ⟨c1, c2, c3, c4⟩ := hc
    cases hg
    rw [zcv_ne (show o ≠ 18 by omega)]
    have he := zws_at (ρ := ρ) (cA := cA) c2 c3
    rw [zcell_I (by omega) (by omega)] at he
    refine va_iast (A := fun q => ρ.2.2 ≤ q) hx hb hE.1 hr.2.1 (zws_D ρ cA M) hr.2.2.2 (o - 20) 0 he (show (ztys cA)[0]? = some (cA (zsh M o).1, .int) by rw [c1]; rfl) c4 hd (fun H1 locs1 hP1 _ hS1 => K H1 locs1 (zw_I hr c2 (by omega) hP1 hS1))
  · cases hg
theorem z_bast {M M' : ZMem} {o : Nat} {i x : Int32} (F : zFx p s m args meth c ρ cA D k) (hr : zRl ρ cA D s M H locs cells) (hi : zi k pc = some .bastore) (hg : zsa M (if (zsh M o).1 = 21 then 21 else 22) o i (if (zsh M o).1 = 21 then vp_nar .byte x else vp_nar .boolean x) = some M') (K : ∀ H' locs', zRl ρ cA D s M' H' locs' cells → W p l e R s m args below meth c H' locs' cells slots Q (F0 m (pc + 1) ls rest)) : W p l e R s m args below meth c H locs cells slots Q (F0 m pc ls (.int x :: .int i :: zcv ρ (.ref o) :: rest)) := by
  obtain ⟨hk, hx, hb, hml, hown, hts, hini, hf, hE, hbs⟩ := F
  have hd := zdec hk hi rfl
  by_cases h21 : (zsh M o).1 = 21
  · rw [if_pos h21, if_pos h21] at hg
    unfold zsa at hg
    split at hg
    · next hc =>
      obtain ⟨c1, c2, c3, c4⟩ := hc
      cases hg
      rw [zcv_ne (show o ≠ 18 by omega)]
      have he := zws_at (ρ := ρ) (cA := cA) c2 c3
      rw [zcell_I (by omega) (by omega)] at he
      exact va_bast (A := fun q => ρ.2.2 ≤ q) hx hb hE.1 hr.2.1 (zws_D ρ cA M) hr.2.2.2 (o - 20) 1 he (show (ztys cA)[1]? = some (cA (zsh M o).1, .byte) by rw [h21]; rfl) c4 hd (fun H1 locs1 hP1 _ hS1 => K H1 locs1 (zw_I hr c2 (by omega) hP1 hS1))
    · cases hg
  · rw [if_neg h21, if_neg h21] at hg
    unfold zsa at hg
    split at hg
    · next hc =>
      obtain ⟨c1, c2, c3, c4⟩ := hc
      cases hg
      rw [zcv_ne (show o ≠ 18 by omega)]
      have he := zws_at (ρ := ρ) (cA := cA) c2 c3
      rw [zcell_I (by omega) (by omega)] at he
      exact va_zast (A := fun q => ρ.2.2 ≤ q) hx hb hE.1 hr.2.1 (zws_D ρ cA M) hr.2.2.2 (o - 20) 2 he (show (ztys cA)[2]? = some (cA (zsh M o).1, .boolean) by rw [c1]; rfl) c4 hd (fun H1 locs1 hP1 _ hS1 => K H1 locs1 (zw_I hr c2 (by omega) hP1 hS1))
    · cases hg
theorem z_last {M M' : ZMem} {o : Nat} {i : Int32} {x : Int64} (F : zFx p s m args meth c ρ cA D k) (hr : zRl ρ cA D s M H locs cells) (hi : zi k pc = some .lastore) (hg : zsaL M o i x = some M') (K : ∀ H' locs', zRl ρ cA D s M' H' locs' cells → W p l e R s m args below meth c H' locs' cells slots Q (F0 m (pc + 1) ls rest)) : W p l e R s m args below meth c H locs cells slots Q (F0 m pc ls (.long x :: .int i :: zcv ρ (.ref o) :: rest)) := by
  obtain ⟨hk, hx, hb, hml, hown, hts, hini, hf, hE, hbs⟩ := F
  have hd := zdec hk hi rfl
  unfold zsaL at hg
  split at hg
  · next hc =>
    obtain ⟨c1, c2, c3, c4⟩ := hc
    cases hg
    rw [zcv_ne (show o ≠ 18 by omega)]
    have he := zws_at (ρ := ρ) (cA := cA) c2 c3
    rw [zcell_L c1] at he
    refine va_last (A := fun q => ρ.2.2 ≤ q) hx hb hE.1 hr.2.1 (zws_D ρ cA M) hr.2.2.2 (o - 20) 3 he (show (ztys cA)[3]? = some (cA 23, .long) from rfl) c4 hd (fun H1 locs1 hP1 _ hS1 => K H1 locs1 ?_)
    obtain ⟨hO, hP, hcc, hS⟩ := hr
    have e : zcell ρ cA (zpL M o i.toNatClampNeg x) o = .inl (cA 23, (zsh M o).2, .inr (.inl (vp_updL (zL M o) i.toNatClampNeg x))) := by
      rw [zcell_L (M := zpL M o i.toNatClampNeg x) c1]
      have e2 : zL (zpL M o i.toNatClampNeg x) o = vp_updL (zL M o) i.toNatClampNeg x := by
        funext j
        show (if o = o ∧ j = i.toNatClampNeg then x else zL M o j) = (if j = i.toNatClampNeg then x else zL M o j)
        by_cases hj : j = i.toNatClampNeg
        · rw [if_pos ⟨rfl, hj⟩, if_pos hj]
        · rw [if_neg (fun z => hj z.2), if_neg hj]
      rw [e2]; rfl
    rw [zws_set (M := M) (M' := zpL M o i.toNatClampNeg x) c2 rfl e (fun j hj => zcell_pL_ne hj)] at hP1
    exact ⟨zOld_pL hO c2, hP1, hcc, hS1⟩
  · cases hg
theorem z_aast {M M' : ZMem} {o q : Nat} {i : Int32} (F : zFx p s m args meth c ρ cA D k) (hr : zRl ρ cA D s M H locs cells) (hi : zi k pc = some .aastore) (hg : zsaR M o i q = some M') (K : ∀ H' locs', zRl ρ cA D s M' H' locs' cells → W p l e R s m args below meth c H' locs' cells slots Q (F0 m (pc + 1) ls rest)) : W p l e R s m args below meth c H locs cells slots Q (F0 m pc ls (zcv ρ (.ref q) :: .int i :: zcv ρ (.ref o) :: rest)) := by
  obtain ⟨hk, hx, hb, hml, hown, hts, hini, hf, hE, hbs⟩ := F
  have hd := zdec hk hi rfl
  unfold zsaR at hg
  split at hg
  · next hc =>
    obtain ⟨c1, c1', c2, c3, c4, c5, c6, c7⟩ := hc
    cases hg
    rw [zcv_ne (show o ≠ 18 by omega), zcv_ne (show q ≠ 18 by omega)]
    have he := zws_at (ρ := ρ) (cA := cA) c2 c3
    have hq := zws_at (ρ := ρ) (cA := cA) c5 c6
    rw [zcell_R c1] at he
    have hq13 : (zsh M q).1 < 13 := by
      rw [c7]
      unfold zact
      split <;> decide
    rw [zcell_O hq13] at hq
    have hty : ∃ t0 : Nat, (ztys cA)[t0]? = some (cA (zsh M o).1, FieldType.object (zcl (zsh M q).1).1) := by
      rw [c7]
      rcases (by omega : (zsh M o).1 = 24 ∨ (zsh M o).1 = 25 ∨ (zsh M o).1 = 26) with h | h | h <;> rw [h]
      · exact ⟨4, rfl⟩
      · exact ⟨5, rfl⟩
      · exact ⟨6, rfl⟩
    obtain ⟨t0, ht0⟩ := hty
    refine va_astq (A := fun q => ρ.2.2 ≤ q) (r := zcl (zsh M q).1) hx hb hE.1 hr.2.1 (zws_D ρ cA M) hr.2.2.2 (o - 20) t0 (q - 20) (zsh M q).1 he ht0 hq (zvw _ hq13) c4 hd (fun H1 locs1 hP1 _ hS1 => K H1 locs1 ?_)
    obtain ⟨hO, hP, hcc, hS⟩ := hr
    have e : zcell ρ cA (zpR M o i.toNatClampNeg (some q)) o = .inl (cA (zsh M o).1, (zsh M o).2, .inr (.inr (.inr (.inr (va_up (fun j => zrA ρ (zR M o j)) i.toNatClampNeg (some (zadr ρ q))))))) := by
      rw [zcell_R (M := zpR M o i.toNatClampNeg (some q)) c1]
      have e2 : (fun j => zrA ρ (zR (zpR M o i.toNatClampNeg (some q)) o j)) = va_up (fun j => zrA ρ (zR M o j)) i.toNatClampNeg (some (zadr ρ q)) := by
        funext j
        show zrA ρ (if o = o ∧ j = i.toNatClampNeg then some q else zR M o j) = (if j = i.toNatClampNeg then some (zadr ρ q) else zrA ρ (zR M o j))
        by_cases hj : j = i.toNatClampNeg
        · rw [if_pos ⟨rfl, hj⟩, if_pos hj]
          show (match zcv ρ (.ref q) with | .ref a => some a | _ => none) = _
          rw [zcv_ne (show q ≠ 18 by omega)]
        · rw [if_neg (fun z => hj z.2), if_neg hj]
      rw [e2]; rfl
    rw [zws_set (M := M) (M' := zpR M o i.toNatClampNeg (some q)) c2 rfl e (fun j hj => zcell_pR_ne hj)] at hP1
    exact ⟨zOld_pR hO c2, hP1, hcc, hS1⟩
  · cases hg
theorem z_iald {M : ZMem} {o : Nat} {i x : Int32} (F : zFx p s m args meth c ρ cA D k) (hr : zRl ρ cA D s M H locs cells) (hi : zi k pc = some .iaload) (ho : o ≠ 0) (hg : zla M (if o = 1 then 31 else 20) o i = some x) (K : W p l e R s m args below meth c H locs cells slots Q (F0 m (pc + 1) ls (.int x :: rest))) : W p l e R s m args below meth c H locs cells slots Q (F0 m pc ls (.int i :: zcv ρ (.ref o) :: rest)) := by
  obtain ⟨hk, hx, hb, hml, hown, hts, hini, hf, hE, hbs⟩ := F
  have hd := zdec hk hi rfl
  by_cases h1 : o = 1
  · subst h1
    rw [if_pos rfl] at hg
    unfold zla at hg
    split at hg
    · next hc =>
      obtain ⟨c1, c2, c3, c4⟩ := hc
      cases hg
      rw [zcv_ne (by omega)]
      have hM := hr.1.2 1 (by omega)
      obtain ⟨-, -, -, -, -, h8, -⟩ := hE
      have e7 : (zsh M 1).2 = 7 := by rw [hM.1]; rfl
      rw [e7] at c4
      have e : zadr ρ 1 = ρ.1 1 := if_pos (by omega)
      rw [e]
      refine va_ti hx hb h8 hr.2.2.2 c4 ?_ hd K
      show Value.int (zAb.getD _ 0) = Value.int (zI M 1 _)
      rw [hM.2.1]
      rfl
    · cases hg
  · rw [if_neg h1] at hg
    unfold zla at hg
    split at hg
    · next hc =>
      obtain ⟨c1, c2, c3, c4⟩ := hc
      cases hg
      have h20 : 20 ≤ o := by
        rcases c2 with h | h | h
        · exact h
        · omega
        · omega
      rw [zcv_ne (show o ≠ 18 by omega)]
      have he := zws_at (ρ := ρ) (cA := cA) h20 c3
      rw [zcell_I (by omega) (by omega)] at he
      exact va_iald hx hb hE.1 hr.2.1 (o - 20) 0 he (show (ztys cA)[0]? = some (cA (zsh M o).1, .int) by rw [c1]; rfl) c4 hd K
    · cases hg
theorem z_bald {M : ZMem} {o : Nat} {i x : Int32} (F : zFx p s m args meth c ρ cA D k) (hr : zRl ρ cA D s M H locs cells) (hi : zi k pc = some .baload) (hg : zla M (if o < 20 then 32 else if (zsh M o).1 = 21 then 21 else 22) o i = some x) (K : W p l e R s m args below meth c H locs cells slots Q (F0 m (pc + 1) ls (.int x :: rest))) : W p l e R s m args below meth c H locs cells slots Q (F0 m pc ls (.int i :: zcv ρ (.ref o) :: rest)) := by
  obtain ⟨hk, hx, hb, hml, hown, hts, hini, hf, hE, hbs⟩ := F
  have hd := zdec hk hi rfl
  by_cases h1 : o < 20
  · rw [if_pos h1] at hg
    unfold zla at hg
    split at hg
    · next hc =>
      obtain ⟨c1, c2, c3, c4⟩ := hc
      cases hg
      have hM := hr.1.2 o h1
      have hrg : 9 ≤ o ∧ o < 16 := by
        rw [hM.1] at c1
        have c1 : (if o = 1 then ((31 : Nat), (7 : Nat)) else if 2 ≤ o ∧ o < 9 then (13, 0) else if 9 ≤ o ∧ o < 16 then (32, (zT0.getD (o - 9) []).length) else (99, 0)).1 = 32 := c1
        by_cases a1 : o = 1
        · rw [if_pos a1] at c1; cases c1
        · rw [if_neg a1] at c1
          by_cases a2 : 2 ≤ o ∧ o < 9
          · rw [if_pos a2] at c1; cases c1
          · rw [if_neg a2] at c1
            by_cases a3 : 9 ≤ o ∧ o < 16
            · exact a3
            · rw [if_neg a3] at c1; cases c1
      rw [zcv_ne (by omega)]
      obtain ⟨-, -, -, -, h7, -⟩ := hE
      have hS7 := (h7.1 (o - 9) (by omega)).2.2.2
      dsimp only at hS7
      have eav : ρ.1 (9 + (o - 9)) = zadr ρ o := by simp only [zadr, if_pos h1, show 9 + (o - 9) = o by omega]
      rw [eav] at hS7
      have el : (zsh M o).2 = (zT0.map List.length).getD (o - 9) 0 := by
        rw [hM.1]
        show (if o = 1 then ((31 : Nat), (7 : Nat)) else if 2 ≤ o ∧ o < 9 then (13, 0) else if 9 ≤ o ∧ o < 16 then (32, (zT0.getD (o - 9) []).length) else (99, 0)).2 = _
        rw [if_neg (by omega), if_neg (by omega), if_pos hrg]
        rcases (by omega : o = 9 ∨ o = 10 ∨ o = 11 ∨ o = 12 ∨ o = 13 ∨ o = 14 ∨ o = 15) with h | h | h | h | h | h | h <;> subst h <;> rfl
      rw [el] at c4
      refine va_tb hx hb hS7 hr.2.2.2 c4 ?_ hd K
      show Value.int ((zT0.getD (o - 9) []).getD _ 0) = Value.int (zI M o _)
      rw [hM.2.1]
      show _ = Value.int (if o = 1 then _ else if 9 ≤ o ∧ o < 16 then (zT0.getD (o - 9) []).getD _ 0 else 0)
      rw [if_neg (by omega), if_pos hrg]
    · cases hg
  · rw [if_neg h1] at hg
    by_cases h21 : (zsh M o).1 = 21
    · rw [if_pos h21] at hg
      unfold zla at hg
      split at hg
      · next hc =>
        obtain ⟨c1, c2, c3, c4⟩ := hc
        cases hg
        rw [zcv_ne (show o ≠ 18 by omega)]
        have he := zws_at (ρ := ρ) (cA := cA) (by omega) c3
        rw [zcell_I (by omega) (by omega)] at he
        exact va_bald hx hb hE.1 hr.2.1 (o - 20) 1 he (show (ztys cA)[1]? = some (cA (zsh M o).1, .byte) by rw [h21]; rfl) c4 hd K
      · cases hg
    · rw [if_neg h21] at hg
      unfold zla at hg
      split at hg
      · next hc =>
        obtain ⟨c1, c2, c3, c4⟩ := hc
        cases hg
        rw [zcv_ne (show o ≠ 18 by omega)]
        have he := zws_at (ρ := ρ) (cA := cA) (by omega) c3
        rw [zcell_I (by omega) (by omega)] at he
        exact va_zald hx hb hE.1 hr.2.1 (o - 20) 2 he (show (ztys cA)[2]? = some (cA (zsh M o).1, .boolean) by rw [c1]; rfl) c4 hd K
      · cases hg
theorem z_lald {M : ZMem} {o : Nat} {i : Int32} {x : Int64} (F : zFx p s m args meth c ρ cA D k) (hr : zRl ρ cA D s M H locs cells) (hi : zi k pc = some .laload) (hg : zlaL M o i = some x) (K : W p l e R s m args below meth c H locs cells slots Q (F0 m (pc + 1) ls (.long x :: rest))) : W p l e R s m args below meth c H locs cells slots Q (F0 m pc ls (.int i :: zcv ρ (.ref o) :: rest)) := by
  obtain ⟨hk, hx, hb, hml, hown, hts, hini, hf, hE, hbs⟩ := F
  have hd := zdec hk hi rfl
  unfold zlaL at hg
  split at hg
  · next hc =>
    obtain ⟨c1, c2, c3, c4⟩ := hc
    cases hg
    rw [zcv_ne (show o ≠ 18 by omega)]
    have he := zws_at (ρ := ρ) (cA := cA) c2 c3
    rw [zcell_L c1] at he
    exact va_lald hx hb hE.1 hr.2.1 (o - 20) 3 he (show (ztys cA)[3]? = some (cA 23, .long) from rfl) c4 hd K
  · cases hg
theorem z_aald {M : ZMem} {o : Nat} {i : Int32} {r : Option Nat} (F : zFx p s m args meth c ρ cA D k) (hr : zRl ρ cA D s M H locs cells) (hi : zi k pc = some .aaload) (hg : zlaR M o i = some r) (K : W p l e R s m args below meth c H locs cells slots Q (F0 m (pc + 1) ls (zcv ρ (zrf r) :: rest))) : W p l e R s m args below meth c H locs cells slots Q (F0 m pc ls (.int i :: zcv ρ (.ref o) :: rest)) := by
  obtain ⟨hk, hx, hb, hml, hown, hts, hini, hf, hE, hbs⟩ := F
  have hd := zdec hk hi rfl
  unfold zlaR at hg
  split at hg
  · next hc =>
    obtain ⟨c1, c1', c2, c3, c4⟩ := hc
    cases hg
    rw [zcv_ne (show o ≠ 18 by omega)]
    have he := zws_at (ρ := ρ) (cA := cA) c2 c3
    rw [zcell_R c1] at he
    rw [← zrA_rf hf] at K
    rcases (by omega : (zsh M o).1 = 24 ∨ (zsh M o).1 = 25 ∨ (zsh M o).1 = 26) with h | h | h
    · exact va_aldq hx hb hE.1 hr.2.1 (o - 20) 4 he (show (ztys cA)[4]? = some (cA (zsh M o).1, .object "SlateHalves$Hill") by rw [h]; rfl) c4 hd K
    · exact va_aldq hx hb hE.1 hr.2.1 (o - 20) 5 he (show (ztys cA)[5]? = some (cA (zsh M o).1, .object "SlateHalves$Tape") by rw [h]; rfl) c4 hd K
    · exact va_aldq hx hb hE.1 hr.2.1 (o - 20) 6 he (show (ztys cA)[6]? = some (cA (zsh M o).1, .object "SlateHalves$Block") by rw [h]; rfl) c4 hd K
  · cases hg
end ZSA
end
section
section ZSM
variable {p : Program} {l : Launch} {e : Env} {R : Room} {s : State} {m : MethodId} {args : Array Value} {below : List Frame} {meth : Method} {c : Code} {H : Heap} {locs : List Loc} {cells slots : Nat} {Q : State → Prop}
variable {ρ : ZAd} {cA : Nat → ClassId} {D : va_G} {k pc : Nat} {ls : Array Slot} {rest : List Value}
theorem zflds_new {M : ZMem} {t len sl u q : Nat} (h : q < zn M) : zflds ρ (znew M t len sl) u q = zflds ρ M u q := by
  unfold zflds
  refine List.map_congr_left fun j _ => ?_
  unfold zfv
  have e1 : zI (znew M t len sl) q j = zI M q j := if_neg (by omega)
  have e2 : zL (znew M t len sl) q j = zL M q j := if_neg (by omega)
  have e3 : zR (znew M t len sl) q j = zR M q j := if_neg (by omega)
  rw [e1, e2, e3]
theorem zcell_new {M : ZMem} {t len sl q : Nat} (h : q < zn M) : zcell ρ cA (znew M t len sl) q = zcell ρ cA M q := by
  have e0 : zsh (znew M t len sl) q = zsh M q := if_neg (by omega)
  have e1 : zI (znew M t len sl) q = zI M q := by funext j; exact if_neg (by omega)
  have e2 : zL (znew M t len sl) q = zL M q := by funext j; exact if_neg (by omega)
  have e3 : ∀ j, zR (znew M t len sl) q j = zR M q j := fun j => if_neg (by omega)
  unfold zcell
  simp only [e0, zflds_new h, e1, e2, e3]
theorem zsh_new {M : ZMem} {t len sl : Nat} : zsh (znew M t len sl) (zn M) = (t, len) := if_pos rfl
theorem zI_new {M : ZMem} {t len sl : Nat} : zI (znew M t len sl) (zn M) = fun _ => 0 := by funext j; exact if_pos rfl
theorem zL_new {M : ZMem} {t len sl : Nat} : zL (znew M t len sl) (zn M) = fun _ => 0 := by funext j; exact if_pos rfl
theorem zR_new {M : ZMem} {t len sl : Nat} : zR (znew M t len sl) (zn M) = fun _ => none := by funext j; exact if_pos rfl
/-- what a new cell leaves -/
theorem zw_new {M : ZMem} {t len sl : Nat} {H1 : Heap} (hbs : ρ.2.2 ≤ s.heap.size) (hr : zRl ρ cA D s M H locs cells) (hz : H.size = ρ.2.2 + (zn M - 20)) (e1 : va_at D vwCl (H.size, zcell ρ cA (znew M t len sl) (zn M)) H1) (z1 : H1.size = H.size + 1) (o1 : ∀ q, q < H.size → H1[q]? = H[q]?) : zRl ρ cA D s (znew M t len sl) H1 locs (cells + 1) := by
  obtain ⟨hO, hP, hc, hS⟩ := hr
  have had : zadr ρ (zn M) = H.size := by unfold zadr; rw [if_neg (by have := hO.1; omega), hz]
  refine ⟨zOld_new hO, ?_, ?_, ⟨Nat.le_trans hS.1 (by omega), fun x h1 h2 => (o1 x (Nat.lt_of_lt_of_le h1 hS.1)).trans (hS.2.1 x h1 h2), hS.2.2⟩⟩
  · rw [← zws_new (M := M) (M' := znew M t len sl) hO.1 rfl rfl (fun j hj => zcell_new hj), had]
    refine (hP.kept (fun j q hq => o1 q.1 (hP j q hq).lt)).app (fun j q hq => ?_)
    have hj : j < 1 := (List.getElem?_eq_some_iff.mp hq).1
    rw [show j = 0 by omega] at hq
    cases hq
    exact e1
  · show s.heap.size + (cells + 1) = ρ.2.2 + (zn M + 1 - 20)
    have := hO.1
    omega
theorem z_new {M : ZMem} {n t w b : Nat} (F : zFx p s m args meth c ρ cA D k) (hr : zRl ρ cA D s M H locs cells) (hi : zi k pc = some (.new n)) (hlk : zlk k n = some (6, t, b, w)) (ht : t < 13) (hcells : cells + 1 ≤ R.cells) (hslots : slots + zN t ≤ R.slots) (K : ∀ H', zRl ρ cA D s (znew M t 0 (zN t)) H' locs (cells + 1) → W p l e R s m args below meth c H' locs (cells + 1) (slots + zN t) Q (F0 m (pc + 3) ls (zcv ρ (.ref (zn M)) :: rest))) : W p l e R s m args below meth c H locs cells slots Q (F0 m pc ls rest) := by
  obtain ⟨hk, hx, hb, hml, hown, hts, hini, hf, hE, hbs⟩ := F
  have hd := zdec hk hi rfl
  have hw := zlk_of hk hlk
  simp only [zlok, Bool.and_eq_true, decide_eq_true_eq] at hw
  have hwn := hts _ (zat_in hw.1.2)
  rw [(zown_all k hk).1] at hwn
  have hO := hr.1
  have eN : zN t = (zcl t).2.2 := by unfold zN; rw [if_neg (by omega)]
  have hu : ∀ w ∈ u_ws (zcl t).1 (zcl t).2.1 (zcl t).2.2, w ∈ zG := fun w hw => by
    obtain ⟨a, ha, rfl⟩ := List.mem_map.mp hw
    exact zuws t ht a (by rw [eN]; exact List.mem_range.mp ha)
  have hcw := zcw_all t ht
  refine zsize hbs hr fun hz => ?_
  have had : zcv ρ (.ref (zn M)) = .ref H.size := by
    rw [zcv_ne (by have := hO.1; omega)]
    unfold zadr
    rw [if_neg (by have := hO.1; omega), hz]
  rw [eN] at hslots K
  have hKn := hE.1.1 t _ (zvw t ht)
  refine W.newcK (g := F0 m pc ls rest) hx hb hown hwn (hts _ (zat_in hcw.1)) (hts _ (zat_in hcw.2)) rfl hd hcells hslots hKn.2.1 rfl fun H1 kC hkC e1 z1 o1 => ?_
  rw [had] at K
  refine K H1 (zw_new hbs hr hz ?_ z1 o1)
  have eo : zcell ρ cA (znew M t 0 (zcl t).2.2) (zn M) = .inr (t, zflds ρ (znew M t 0 (zcl t).2.2) t (zn M)) := by
    rw [zcell_O (by rw [zsh_new]; exact ht), zsh_new]
  rw [eo]
  refine ⟨_, zvw t ht, (u_born (zty t) hts hu hKn hkC e1 (fun j hj => zty_ok t ht j (by rw [eN]; exact hj))).to (fun j hj => ?_)⟩
  unfold vp_V
  rw [List.getD_eq_getElem?_getD, zflds_at (by rw [eN]; exact hj)]
  show defaultValue (zty t j) = zcv ρ (zfv (znew M t 0 (zcl t).2.2) t (zn M) j)
  unfold zfv
  rw [zI_new, zL_new, zR_new]
  have hkd := zkd_ok t ht j (by rw [eN]; exact hj)
  cases hty : zty t j <;> rw [hty] at hkd <;> first | rfl | exact absurd rfl hkd
theorem z_newa {M : ZMem} {a : ArrayType} {t : Nat} {n : Int32} (F : zFx p s m args meth c ρ cA D k) (hr : zRl ρ cA D s M H locs cells) (hi : zi k pc = some (.newarray a)) (ht : zatag a = some t) (hn : ¬ n < 0 ∧ n.toNatClampNeg ≤ 1000) (hcells : cells + 1 ≤ R.cells) (hslots : slots + n.toNatClampNeg ≤ R.slots) (K : ∀ H', zRl ρ cA D s (znew M t n.toNatClampNeg n.toNatClampNeg) H' locs (cells + 1) → W p l e R s m args below meth c H' locs (cells + 1) (slots + n.toNatClampNeg) Q (F0 m (pc + 2) ls (zcv ρ (.ref (zn M)) :: rest))) : W p l e R s m args below meth c H locs cells slots Q (F0 m pc ls (.int n :: rest)) := by
  obtain ⟨hk, hx, hb, hml, hown, hts, hini, hf, hE, hbs⟩ := F
  have hd := zdec hk hi rfl
  have hO := hr.1
  refine zsize hbs hr fun hz => ?_
  have had : zcv ρ (.ref (zn M)) = .ref H.size := by
    rw [zcv_ne (by have := hO.1; omega)]
    unfold zadr
    rw [if_neg (by have := hO.1; omega), hz]
  rw [had] at K
  have same : ∀ (ty : FieldType) (t0 : Nat) (cB : ClassId), (ztys cA)[t0]? = some (cA t, ty) → s.vm.findClass ("[" ++ ty.toString) = some cB → (∀ C, ty ≠ .object C) → cB = cA t := by
    intro ty t0 cB h1 h2 h3
    have h4 := (hE.1.2 t0 _ h1).2
    cases ty <;> first | exact Option.some.inj (h2.symm.trans h4) | exact absurd rfl (h3 _)
  have hbytes : ∀ b : Nat, b ≤ 8 → n.toNatClampNeg * b ≤ 536870912 := fun b hb => Nat.le_trans (Nat.mul_le_mul hn.2 hb) (by decide)
  cases a <;> first | cases ht | skip
  · refine va_newaK (atype := .boolean) hx hb (hts _ zw_arrz) rfl hd rfl hn.1 rfl (hbytes _ (by decide)) hcells hslots rfl fun H1 cB e1 z1 o1 hAr hNm => ?_
    refine K H1 (zw_new hbs hr hz ?_ z1 o1)
    rw [zcell_I (by rw [zsh_new]; exact Nat.le_of_ble_eq_true rfl) (by rw [zsh_new]; exact Nat.le_of_ble_eq_true rfl), zsh_new, zI_new]
    rw [same .boolean 2 cB rfl hNm (fun C h => by cases h)] at e1
    exact e1
  · refine va_newaK (atype := .byte) hx hb (hts _ zw_arrb) rfl hd rfl hn.1 rfl (hbytes _ (by decide)) hcells hslots rfl fun H1 cB e1 z1 o1 hAr hNm => ?_
    refine K H1 (zw_new hbs hr hz ?_ z1 o1)
    rw [zcell_I (by rw [zsh_new]; exact Nat.le_of_ble_eq_true rfl) (by rw [zsh_new]; exact Nat.le_of_ble_eq_true rfl), zsh_new, zI_new]
    rw [same .byte 1 cB rfl hNm (fun C h => by cases h)] at e1
    exact e1
  · refine va_newaK (atype := .int) hx hb (hts _ zw_arri) rfl hd rfl hn.1 rfl (hbytes _ (by decide)) hcells hslots rfl fun H1 cB e1 z1 o1 hAr hNm => ?_
    refine K H1 (zw_new hbs hr hz ?_ z1 o1)
    rw [zcell_I (by rw [zsh_new]; exact Nat.le_of_ble_eq_true rfl) (by rw [zsh_new]; exact Nat.le_of_ble_eq_true rfl), zsh_new, zI_new]
    rw [same .int 0 cB rfl hNm (fun C h => by cases h)] at e1
    exact e1
  · refine va_newaK (atype := .long) hx hb (hts _ zw_arrl) rfl hd rfl hn.1 rfl (hbytes _ (by decide)) hcells hslots rfl fun H1 cB e1 z1 o1 hAr hNm => ?_
    refine K H1 (zw_new hbs hr hz ?_ z1 o1)
    rw [zcell_L (by rw [zsh_new]), zsh_new, zL_new]
    rw [same .long 3 cB rfl hNm (fun C h => by cases h)] at e1
    exact e1
theorem z_anew {M : ZMem} {i a t w : Nat} {n : Int32} (F : zFx p s m args meth c ρ cA D k) (hr : zRl ρ cA D s M H locs cells) (hi : zi k pc = some (.anewarray i)) (hlk : zlk k i = some (6, a, t, w)) (hn : 24 ≤ t ∧ t ≤ 26 ∧ ¬ n < 0 ∧ n.toNatClampNeg ≤ 1000) (hcells : cells + 1 ≤ R.cells) (hslots : slots + n.toNatClampNeg ≤ R.slots) (K : ∀ H', zRl ρ cA D s (znew M t n.toNatClampNeg n.toNatClampNeg) H' locs (cells + 1) → W p l e R s m args below meth c H' locs (cells + 1) (slots + n.toNatClampNeg) Q (F0 m (pc + 3) ls (zcv ρ (.ref (zn M)) :: rest))) : W p l e R s m args below meth c H locs cells slots Q (F0 m pc ls (.int n :: rest)) := by
  obtain ⟨hk, hx, hb, hml, hown, hts, hini, hf, hE, hbs⟩ := F
  have hd := zdec hk hi rfl
  have hO := hr.1
  have hw := zlk_of hk hlk
  simp only [zlok, Bool.and_eq_true, Bool.or_eq_true, decide_eq_true_eq] at hw
  have hwn := hts _ (zat_in hw.1.2)
  rw [(zown_all k hk).1] at hwn
  have hac : zact t = a := by
    rcases hw.2 with h | h
    · omega
    · exact h.2.2
  refine zsize hbs hr fun hz => ?_
  have had : zcv ρ (.ref (zn M)) = .ref H.size := by
    rw [zcv_ne (by have := hO.1; omega)]
    unfold zadr
    rw [if_neg (by have := hO.1; omega), hz]
  rw [had] at K
  have hover : va_AO (zcl a).1 s ∧ ∃ t0 : Nat, (ztys cA)[t0]? = some (cA t, FieldType.object (zcl a).1) := by
    obtain ⟨-, -, -, -, -, -, h9, h10, h11⟩ := hE
    rw [← hac]
    rcases (by omega : t = 24 ∨ t = 25 ∨ t = 26) with h | h | h <;> subst h
    · exact ⟨h9, 4, rfl⟩
    · exact ⟨h10, 5, rfl⟩
    · exact ⟨h11, 6, rfl⟩
  obtain ⟨hov, t0, ht0⟩ := hover
  refine W.anew (g := F0 m pc ls (.int n :: rest)) hx hb hown hwn (va_AO.use hov) rfl hd rfl hn.2.2.1 (Nat.le_trans (Nat.mul_le_mul hn.2.2.2 (Nat.le_refl 4)) (by decide)) hcells hslots fun cB kA comp f1 f2 f3 f4 => ?_
  obtain ⟨kA', comp', g1, g2, g3, g4⟩ := (hE.1.2 t0 _ ht0).2
  have hcB : cB = cA t := Option.some.inj (f1.symm.trans g4)
  subst hcB
  generalize hH1 : H.push ({ cls := cA t, slots := Array.replicate n.toNatClampNeg .null, vm := .none } : Cell) = H1
  have z1 : H1.size = H.size + 1 := by rw [← hH1, Array.size_push]
  have e1 : H1[H.size]? = some (arrV (cA t) n.toNatClampNeg (fun _ => .null)) := by rw [← hH1, Array.getElem?_push_size, ← arrV_new]
  have o1 : ∀ q : Nat, q < H.size → H1[q]? = H[q]? := fun q hq => by rw [← hH1, Array.getElem?_push, if_neg (Nat.ne_of_lt hq)]
  refine K H1 (zw_new hbs hr hz ?_ z1 o1)
  rw [zcell_R (by rw [zsh_new]; exact hn.1), zsh_new, zR_new]
  exact e1
theorem z_alen {sc : Option (Nat × (Nat → Int32))} {M : ZMem} {o : Nat} {x : Int32} (F : zFx p s m args meth c ρ cA D k) (hsc : zSc sc ρ s) (hr : zRl ρ cA D s M H locs cells) (hi : zi k pc = some .arraylength) (hg : zlen sc M o = some x) (K : W p l e R s m args below meth c H locs cells slots Q (F0 m (pc + 1) ls (.int x :: rest))) : W p l e R s m args below meth c H locs cells slots Q (F0 m pc ls (zcv ρ (.ref o) :: rest)) := by
  obtain ⟨hk, hx, hb, hml, hown, hts, hini, hf, hE, hbs⟩ := F
  have hd := zdec hk hi rfl
  unfold zlen at hg
  by_cases h0 : o = 0
  · rw [if_pos h0] at hg
    subst h0
    cases hs : sc with
    | none => rw [hs] at hg; cases hg
    | some y =>
      obtain ⟨L, xs⟩ := y
      rw [hs] at hg
      cases hg
      obtain ⟨a1, a2, a3⟩ := hsc L xs hs
      rw [zcv_ne (by omega)]
      have e : zadr ρ 0 = ρ.1 0 := if_pos (by omega)
      rw [e]
      exact va_slen hx hb a1 a2 a3 hr.2.2.2 hd K
  · rw [if_neg h0] at hg
    split at hg
    · next hc =>
      obtain ⟨c1, c2⟩ := hc
      cases hg
      by_cases h20 : 20 ≤ o ∧ 20 ≤ (zsh M o).1 ∧ (zsh M o).1 ≤ 26
      · rw [zcv_ne (show o ≠ 18 by omega)]
        have he := zws_at (ρ := ρ) (cA := cA) h20.1 c1
        rcases (by omega : (zsh M o).1 = 20 ∨ (zsh M o).1 = 21 ∨ (zsh M o).1 = 22 ∨ (zsh M o).1 = 23 ∨ (zsh M o).1 = 24 ∨ (zsh M o).1 = 25 ∨ (zsh M o).1 = 26) with h | h | h | h | h | h | h
        · rw [zcell_I (by omega) (by omega), h] at he; exact va_alen hx hb hE.1 hr.2.1 (o - 20) 0 he (ty := .int) rfl rfl hd K
        · rw [zcell_I (by omega) (by omega), h] at he; exact va_alen hx hb hE.1 hr.2.1 (o - 20) 1 he (ty := .byte) rfl rfl hd K
        · rw [zcell_I (by omega) (by omega), h] at he; exact va_alen hx hb hE.1 hr.2.1 (o - 20) 2 he (ty := .boolean) rfl rfl hd K
        · rw [zcell_L h] at he; exact va_alen hx hb hE.1 hr.2.1 (o - 20) 3 he (ty := .long) rfl rfl hd K
        · rw [zcell_R (by omega), h] at he; exact va_alen hx hb hE.1 hr.2.1 (o - 20) 4 he (ty := .object "SlateHalves$Hill") rfl rfl hd K
        · rw [zcell_R (by omega), h] at he; exact va_alen hx hb hE.1 hr.2.1 (o - 20) 5 he (ty := .object "SlateHalves$Tape") rfl rfl hd K
        · rw [zcell_R (by omega), h] at he; exact va_alen hx hb hE.1 hr.2.1 (o - 20) 6 he (ty := .object "SlateHalves$Block") rfl rfl hd K
      · obtain ⟨ho20, ht⟩ : o < 20 ∧ ((zsh M o).1 = 31 ∨ (zsh M o).1 = 32) := c2.resolve_left h20
        have hM := hr.1.2 o ho20
        have hsh : zsh M o = (if o = 1 then ((31 : Nat), (7 : Nat)) else if 2 ≤ o ∧ o < 9 then (13, 0) else if 9 ≤ o ∧ o < 16 then (32, (zT0.getD (o - 9) []).length) else (99, 0)) := hM.1
        by_cases a1 : o = 1
        · subst a1
          rw [zcv_ne (by omega), show zadr ρ 1 = ρ.1 1 from if_pos (by omega)]
          obtain ⟨-, -, -, -, -, h8, -⟩ := hE
          rw [if_pos rfl] at hsh
          exact va_tlen hx hb h8 hr.2.2.2 (by rw [hsh]) hd K
        · rw [if_neg a1] at hsh
          by_cases a2 : 2 ≤ o ∧ o < 9
          · rw [if_pos a2] at hsh; rw [hsh] at ht; rcases ht with h | h <;> cases h
          · rw [if_neg a2] at hsh
            by_cases a3 : 9 ≤ o ∧ o < 16
            · rw [if_pos a3] at hsh
              rw [zcv_ne (by omega)]
              obtain ⟨-, -, -, -, h7, -⟩ := hE
              have hS7 := (h7.1 (o - 9) (by omega)).2.2.2
              dsimp only at hS7
              have eav : ρ.1 (9 + (o - 9)) = zadr ρ o := by simp only [zadr, if_pos ho20, show 9 + (o - 9) = o by omega]
              rw [eav] at hS7
              refine va_tlen hx hb hS7 hr.2.2.2 ?_ hd K
              rw [hsh]
              rcases (by omega : o = 9 ∨ o = 10 ∨ o = 11 ∨ o = 12 ∨ o = 13 ∨ o = 14 ∨ o = 15) with h | h | h | h | h | h | h <;> subst h <;> rfl
            · rw [if_neg a3] at hsh; rw [hsh] at ht; rcases ht with h | h <;> cases h
    · cases hg
theorem z_copy {M M' : ZMem} {n x y w a b : Nat} {sp dp cn : Int32} (F : zFx p s m args meth c ρ cA D k) (hr : zRl ρ cA D s M H locs cells) (hls : ls.size = zml k) (hi : zi k pc = some (.invokestatic n)) (hlk : zlk k n = some (5, x, y, w)) (hfr : 1 ≤ R.frames) (hlo : 60 ≤ R.locals) (hsum : (rest.map fun v => v.category).sum ≤ 8) (hg : zcopy M a sp b dp cn = some M') (K : ∀ H' locs', zRl ρ cA D s M' H' locs' cells → W p l e R s m args below meth c H' locs' cells slots Q (F0 m (pc + 3) ls rest)) : W p l e R s m args below meth c H locs cells slots Q (F0 m pc ls (.int cn :: .int dp :: zcv ρ (.ref b) :: .int sp :: zcv ρ (.ref a) :: rest)) := by
  obtain ⟨hk, hx, hb, hml, hown, hts, hini, hf, hE, hbs⟩ := F
  have hd := zdec hk hi rfl
  have hw := zlk_of hk hlk
  have hwn := hts _ (zat_in hw)
  rw [(zown_all k hk).1] at hwn
  have hml2 : c.maxLocals = ls.size := by rw [hml, hls]
  have hnf : (rest.map fun v => v.category).sum + (nativeFrameWords "java/lang/System" "arraycopy" 5 + 11) ≤ R.locals := by
    have h1 : nativeFrameWords "java/lang/System" "arraycopy" 5 ≤ 41 := by decide +kernel
    omega
  unfold zcopy at hg
  split at hg
  · next hc =>
    obtain ⟨c1, c2, c3, c4, c5, c6, c7, c8, c9⟩ := hc
    rw [zcv_ne (show a ≠ 18 by omega), zcv_ne (show b ≠ 18 by omega)]
    have hea := zws_at (ρ := ρ) (cA := cA) c1 c2
    have heb := zws_at (ρ := ρ) (cA := cA) c3 c4
    split at hg
    · next ht =>
      cases hg
      rw [zcell_I (by omega) (by omega), ht.1] at hea
      rw [zcell_I (by omega) (by omega), ht.2] at heb
      refine va_copyi (A := fun q => ρ.2.2 ≤ q) (ty := .int) hx hb hml2 hown hwn (hts _ zw_acn) (hts _ zw_acs) (hts _ zw_aci) hE.1 hr.2.1 (zws_D ρ cA M) hr.2.2.2 (a - 20) (b - 20) 0 0 hea heb rfl rfl rfl c5 c6 c7 c8 c9 (fun _ _ => rfl) hfr hnf hd (fun H1 locs1 hP1 _ hS1 => K H1 locs1 ?_)
      obtain ⟨hO, hP, hcc, hS⟩ := hr
      have e : zcell ρ cA (zcpI M a sp.toNatClampNeg b dp.toNatClampNeg cn.toNatClampNeg) b = .inl (cA 20, (zsh M b).2, .inl (va_cpy (zI M a) (zI M b) sp.toNatClampNeg dp.toNatClampNeg cn.toNatClampNeg)) := by
        have h1 : zsh (zcpI M a sp.toNatClampNeg b dp.toNatClampNeg cn.toNatClampNeg) b = zsh M b := rfl
        rw [zcell_I (by rw [h1]; omega) (by rw [h1]; omega), h1, ht.2]
        have e2 : zI (zcpI M a sp.toNatClampNeg b dp.toNatClampNeg cn.toNatClampNeg) b = va_cpy (zI M a) (zI M b) sp.toNatClampNeg dp.toNatClampNeg cn.toNatClampNeg := by
          funext j
          show (if b = b ∧ dp.toNatClampNeg ≤ j ∧ j < dp.toNatClampNeg + cn.toNatClampNeg then _ else _) = (if dp.toNatClampNeg ≤ j ∧ j < dp.toNatClampNeg + cn.toNatClampNeg then _ else _)
          by_cases hj : dp.toNatClampNeg ≤ j ∧ j < dp.toNatClampNeg + cn.toNatClampNeg
          · rw [if_pos ⟨rfl, hj⟩, if_pos hj]
          · rw [if_neg (fun z => hj z.2), if_neg hj]
        rw [e2]
      rw [zws_set (M := M) (M' := zcpI M a sp.toNatClampNeg b dp.toNatClampNeg cn.toNatClampNeg) c3 rfl e (fun j hj => ?_)] at hP1
      · exact ⟨zOld_cI hO c3, hP1, hcc, hS1⟩
      · have e3 : ∀ i, zI (zcpI M a sp.toNatClampNeg b dp.toNatClampNeg cn.toNatClampNeg) j i = zI M j i := fun i => if_neg (fun z => hj z.1)
        have e4 : zI (zcpI M a sp.toNatClampNeg b dp.toNatClampNeg cn.toNatClampNeg) j = zI M j := funext e3
        unfold zcell zflds zfv
        simp only [e3, e4]
        rfl
    · next ht0 =>
      split at hg
      · next ht =>
        cases hg
        rw [zcell_L ht.1] at hea
        rw [zcell_L ht.2] at heb
        refine va_copyl (A := fun q => ρ.2.2 ≤ q) (ty := .long) hx hb hml2 hown hwn (hts _ zw_acn) (hts _ zw_acs) (hts _ zw_aci) hE.1 hr.2.1 (zws_D ρ cA M) hr.2.2.2 (a - 20) (b - 20) 3 3 hea heb rfl rfl rfl c5 c6 c7 c8 c9 (fun _ _ => rfl) hfr hnf hd (fun H1 locs1 hP1 _ hS1 => K H1 locs1 ?_)
        obtain ⟨hO, hP, hcc, hS⟩ := hr
        have e : zcell ρ cA (zcpL M a sp.toNatClampNeg b dp.toNatClampNeg cn.toNatClampNeg) b = .inl (cA 23, (zsh M b).2, .inr (.inl (va_cpy (zL M a) (zL M b) sp.toNatClampNeg dp.toNatClampNeg cn.toNatClampNeg))) := by
          have h1 : zsh (zcpL M a sp.toNatClampNeg b dp.toNatClampNeg cn.toNatClampNeg) b = zsh M b := rfl
          rw [zcell_L (by rw [h1]; exact ht.2), h1]
          have e2 : zL (zcpL M a sp.toNatClampNeg b dp.toNatClampNeg cn.toNatClampNeg) b = va_cpy (zL M a) (zL M b) sp.toNatClampNeg dp.toNatClampNeg cn.toNatClampNeg := by
            funext j
            show (if b = b ∧ dp.toNatClampNeg ≤ j ∧ j < dp.toNatClampNeg + cn.toNatClampNeg then _ else _) = (if dp.toNatClampNeg ≤ j ∧ j < dp.toNatClampNeg + cn.toNatClampNeg then _ else _)
            by_cases hj : dp.toNatClampNeg ≤ j ∧ j < dp.toNatClampNeg + cn.toNatClampNeg
            · rw [if_pos ⟨rfl, hj⟩, if_pos hj]
            · rw [if_neg (fun z => hj z.2), if_neg hj]
          rw [e2]
        rw [zws_set (M := M) (M' := zcpL M a sp.toNatClampNeg b dp.toNatClampNeg cn.toNatClampNeg) c3 rfl e (fun j hj => ?_)] at hP1
        · exact ⟨hO, hP1, hcc, hS1⟩
        · have e3 : ∀ i, zL (zcpL M a sp.toNatClampNeg b dp.toNatClampNeg cn.toNatClampNeg) j i = zL M j i := fun i => if_neg (fun z => hj z.1)
          have e4 : zL (zcpL M a sp.toNatClampNeg b dp.toNatClampNeg cn.toNatClampNeg) j = zL M j := funext e3
          unfold zcell zflds zfv
          simp only [e3, e4]
          rfl
      · cases hg
  · cases hg
theorem z_gets {M : ZMem} {n a x y : Nat} {v : Value} (F : zFx p s m args meth c ρ cA D k) (hr : zRl ρ cA D s M H locs cells) (hi : zi k pc = some (.getstatic n)) (hlk : zlk k n = some (1, a, x, y)) (hv : (a = 0 ∧ v = .ref 1) ∨ (a = 1 ∧ v = .int 1) ∨ (a = 2 ∧ v = .ref 18)) (K : W p l e R s m args below meth c H locs cells slots Q (F0 m (pc + 3) ls (zcv ρ v :: rest))) : W p l e R s m args below meth c H locs cells slots Q (F0 m pc ls rest) := by
  obtain ⟨hk, hx, hb, hml, hown, hts, hini, hf, hE, hbs⟩ := F
  have hd := zdec hk hi rfl
  have hw := zlk_of hk hlk
  obtain ⟨-, -, -, ⟨h4, h5, h6⟩, -⟩ := hE
  rcases hv with ⟨rfl, rfl⟩ | ⟨rfl, rfl⟩ | ⟨rfl, rfl⟩
  · have hwn := hts _ (zat_in hw)
    rw [(zown_all k hk).1] at hwn
    rw [zcv_ne (by omega), show zadr ρ 1 = ρ.1 1 from if_pos (by omega)] at K
    exact va_gets (ref := "SlateHalves") hx hb h4 hr.2.2.2 hown hwn (fun _ h => h) hd K
  · have hwn := hts _ (zat_in hw)
    rw [(zown_all k hk).1] at hwn
    exact va_gets (ref := "java/lang/String") hx hb h5 hr.2.2.2 hown hwn (fun _ h => h) hd K
  · have hwn := hts _ (zat_in hw)
    rw [(zown_all k hk).1] at hwn
    exact va_gets (ref := "jdk/internal/util/Preconditions") hx hb h6 hr.2.2.2 hown hwn (fun _ h => h) hd K
theorem z_ldcS {n a x y : Nat} (F : zFx p s m args meth c ρ cA D k) (hi : zi k pc = some (.ldc n)) (hlk : zlk k n = some (9, a, x, y)) (K : W p l e R s m args below meth c H locs cells slots Q (F0 m (pc + 2) ls (zcv ρ (.ref (2 + a)) :: rest))) : W p l e R s m args below meth c H locs cells slots Q (F0 m pc ls rest) := by
  obtain ⟨hk, hx, hb, hml, hown, hts, hini, hf, hE, hbs⟩ := F
  have hd := zdec hk hi rfl
  have hw := zlk_of hk hlk
  simp only [zlok, Bool.and_eq_true, decide_eq_true_eq] at hw
  obtain ⟨h1, h2⟩ := hw
  have h3 := hE.2.2.1 a h1
  rw [h2.1, h2.2, (zown_all k hk).1] at h3
  rw [zcv_ne (by omega), show zadr ρ (2 + a) = ρ.1 (2 + a) from if_pos (by omega)] at K
  exact va_ldcS hx hb hown h3 hd K
theorem zki_of {k n : Nat} {x : Int32 × Nat} (hk : k < 240) (h : zki k n = some x) : Cond.constant (zmeth k).1.cls n x.1 ∈ zG := by
  have h1 := zkok_all (zcid k) (zown_all k hk).2
  have h2 : ∀ r : List (Nat × Int32 × Nat), zfind2 r n = some x → (n, x) ∈ r := by
    intro r
    induction r with
    | nil => intro h; cases h
    | cons a r ih =>
      intro h
      obtain ⟨j, w⟩ := a
      simp only [zfind2] at h
      split at h
      · next q => cases h; rw [← q]; exact List.mem_cons_self
      · exact List.mem_cons_of_mem _ (ih h)
  have h3 := zat_in (List.all_eq_true.mp h1 _ (h2 _ h))
  rw [(zown_all k hk).1] at h3
  exact h3
theorem zkl_of {k n : Nat} {x : Int64 × Nat} (hk : k < 240) (h : zkl k n = some x) : Cond.constantLong (zmeth k).1.cls n x.1 ∈ zG := by
  have h1 := zklok_all (zcid k) (zown_all k hk).2
  have h2 : ∀ r : List (Nat × Int64 × Nat), zfind2 r n = some x → (n, x) ∈ r := by
    intro r
    induction r with
    | nil => intro h; cases h
    | cons a r ih =>
      intro h
      obtain ⟨j, w⟩ := a
      simp only [zfind2] at h
      split at h
      · next q => cases h; rw [← q]; exact List.mem_cons_self
      · exact List.mem_cons_of_mem _ (ih h)
  have h3 := zat_in (List.all_eq_true.mp h1 _ (h2 _ h))
  rw [(zown_all k hk).1] at h3
  exact h3
theorem z_oinit {n o a x y : Nat} (F : zFx p s m args meth c ρ cA D k) (hls : ls.size = zml k) (hi : zi k pc = some (.invokespecial n)) (hlk : zlk k n = some (4, a, x, y)) (ho : ∃ b, zcv ρ (.ref o) = .ref b) (hfr : 1 ≤ R.frames) (hlo : 60 ≤ R.locals) (hsum : (rest.map fun v => v.category).sum ≤ 8) (K : W p l e R s m args below meth c H locs cells slots Q (F0 m (pc + 3) ls rest)) : W p l e R s m args below meth c H locs cells slots Q (F0 m pc ls (zcv ρ (.ref o) :: rest)) := by
  obtain ⟨hk, hx, hb, hml, hown, hts, hini, hf, hE, hbs⟩ := F
  have hd := zdec hk hi rfl
  have hw := zlk_of hk hlk
  have hwn := hts _ (zat_in hw)
  rw [(zown_all k hk).1] at hwn
  obtain ⟨b, hbb⟩ := ho
  rw [hbb]
  exact W.objInit (g := F0 m pc ls (.ref b :: rest)) hx hb hown hwn (hts _ zw_obji) (hts _ zw_objc) rfl (by rw [hml]; exact hls) rfl hd hfr (by show 2 * 0 + _ + 12 ≤ _; omega) K
end ZSM
end
section
theorem zsa_n {M M' : ZMem} {t p : Nat} {i x : Int32} (h : zsa M t p i x = some M') : zn M' = zn M ∧ zc M' = zc M := by
  unfold zsa at h
  split at h
  · cases h; exact ⟨rfl, rfl⟩
  · cases h
theorem zsaL_n {M M' : ZMem} {p : Nat} {i : Int32} {x : Int64} (h : zsaL M p i x = some M') : zn M' = zn M ∧ zc M' = zc M := by
  unfold zsaL at h
  split at h
  · cases h; exact ⟨rfl, rfl⟩
  · cases h
theorem zsaR_n {M M' : ZMem} {p q : Nat} {i : Int32} (h : zsaR M p i q = some M') : zn M' = zn M ∧ zc M' = zc M := by
  unfold zsaR at h
  split at h
  · cases h; exact ⟨rfl, rfl⟩
  · cases h
theorem zcopy_n {M M' : ZMem} {p q : Nat} {sp dp n : Int32} (h : zcopy M p sp q dp n = some M') : zn M' = zn M ∧ zc M' = zc M := by
  unfold zcopy at h
  split at h
  · split at h
    · cases h; exact ⟨rfl, rfl⟩
    · split at h
      · cases h; exact ⟨rfl, rfl⟩
      · cases h
  · cases h
theorem zn_new {M : ZMem} {t len sl : Nat} : zn (znew M t len sl) - zn M = 1 := Nat.add_sub_cancel_left (n := zn M) (m := 1)
theorem zc_new {M : ZMem} {t len sl : Nat} : zc (znew M t len sl) - zc M = sl := Nat.add_sub_cancel_left (n := zc M) (m := sl)
section ZBIG
variable {p : Program} {l : Launch} {e : Env} {R : Room} {s : State} {m : MethodId} {args : Array Value} {below : List Frame} {meth : Method} {c : Code} {H : Heap} {locs : List Loc} {cells slots : Nat} {Q : State → Prop}
variable {ρ : ZAd} {cA : Nat → ClassId} {D : va_G} {k pc : Nat} {ls : Array Slot}
set_option maxHeartbeats 4000000 in
theorem zstep {sc : Option (Nat × (Nat → Int32))} {d : Nat} {lo : List (Nat × Value)} {st : List Value} {M M' : ZMem} {i : Instr} {g' : ZFr} (F : zFx p s m args meth c ρ cA D k) (hsc : zSc sc ρ s) (hR : d ≤ R.frames ∧ 60 * d ≤ R.locals) (hi : zi k pc = some i) (hs : zs sc d k pc lo st M i = some (g', M')) (hcells : cells + (zn M' - zn M) ≤ R.cells) (hslots : slots + (zc M' - zc M) ≤ R.slots) (hl : lv_has ls (zml k) (zcl2 ρ lo)) (hr : zRl ρ cA D s M H locs cells)
    (kk : ∀ (ls' : Array Slot) (H' : Heap) (locs' : List Loc), lv_has ls' (zml k) (zcl2 ρ g'.2.1) → zRl ρ cA D s M' H' locs' (cells + (zn M' - zn M)) → W p l e R s m args below meth c H' locs' (cells + (zn M' - zn M)) (slots + (zc M' - zc M)) Q (F0 m g'.1 ls' (g'.2.2.map (zcv ρ)))) : W p l e R s m args below meth c H locs cells slots Q (F0 m pc ls (st.map (zcv ρ))) := by
  have hF := F
  obtain ⟨hk, hx, hb, hml, hown, hts, hini, hf, hE, hbs⟩ := hF
  unfold zs at hs
  split at hs
  · cases hs
    simp only [Nat.sub_self, Nat.add_zero] at kk
    exact lv_iconst hx hb (zdec hk hi rfl) rfl (kk _ _ _ hl hr)
  · cases hs
    simp only [Nat.sub_self, Nat.add_zero] at kk
    exact lv_bipush hx hb (zdec hk hi rfl) rfl (kk _ _ _ hl hr)
  · cases hs
    simp only [Nat.sub_self, Nat.add_zero] at kk
    exact lv_sipush hx hb (zdec hk hi rfl) rfl (kk _ _ _ hl hr)
  · cases hs
    simp only [Nat.sub_self, Nat.add_zero] at kk
    exact lv_lconst hx hb (zdec hk hi rfl) rfl (kk _ _ _ hl hr)
  · split at hs
    · next hlk =>
      cases hs
      simp only [Nat.sub_self, Nat.add_zero] at kk
      exact z_ldcS F hi hlk (kk _ _ _ hl hr)
    · obtain ⟨v, hv, e⟩ := Option.map_eq_some_iff.mp hs
      cases e
      simp only [Nat.sub_self, Nat.add_zero] at kk
      exact lv_ldc hx hb hown (hts _ (zki_of hk hv)) (zdec hk hi rfl) (kk _ _ _ hl hr)
  · obtain ⟨v, hv, e⟩ := Option.map_eq_some_iff.mp hs
    cases e
    simp only [Nat.sub_self, Nat.add_zero] at kk
    exact lv_ldcw hx hb hown (hts _ (zki_of hk hv)) (zdec hk hi rfl) (kk _ _ _ hl hr)
  · obtain ⟨v, hv, e⟩ := Option.map_eq_some_iff.mp hs
    cases e
    simp only [Nat.sub_self, Nat.add_zero] at kk
    exact lv_ldc2 hx hb hown (hts _ (zkl_of hk hv)) (zdec hk hi rfl) (kk _ _ _ hl hr)
  · cases hs
    simp only [Nat.sub_self, Nat.add_zero] at kk
    exact lv_null hx hb (zdec hk hi rfl) (kk _ _ _ hl hr)
  · split at hs
    · next hg =>
      cases hs
      simp only [Nat.sub_self, Nat.add_zero] at kk
      exact lv_iload_n hx hb (zdec hk hi rfl) rfl (hl.2.2 _ (zcl2_get hg)) (kk _ _ _ hl hr)
    · cases hs
  · split at hs
    · next hg =>
      cases hs
      simp only [Nat.sub_self, Nat.add_zero] at kk
      exact lv_iload hx hb (zdec hk hi rfl) (hl.2.2 _ (zcl2_get hg)) (kk _ _ _ hl hr)
    · cases hs
  · split at hs
    · next hg =>
      cases hs
      simp only [Nat.sub_self, Nat.add_zero] at kk
      exact lv_lload_n hx hb (zdec hk hi rfl) rfl (hl.2.2 _ (zcl2_get hg)) (kk _ _ _ hl hr)
    · cases hs
  · split at hs
    · next hg =>
      cases hs
      simp only [Nat.sub_self, Nat.add_zero] at kk
      exact lv_lload hx hb (zdec hk hi rfl) (hl.2.2 _ (zcl2_get hg)) (kk _ _ _ hl hr)
    · cases hs
  · split at hs
    · next hg =>
      cases hs
      simp only [Nat.sub_self, Nat.add_zero] at kk
      exact z_aload_n hx hb hf (zdec hk hi rfl) (hl.2.2 _ (zcl2_get hg)) (kk _ _ _ hl hr)
    · next hg =>
      cases hs
      simp only [Nat.sub_self, Nat.add_zero] at kk
      exact lv_aload_nN hx hb (zdec hk hi rfl) rfl (hl.2.2 _ (zcl2_get hg)) (kk _ _ _ hl hr)
    · cases hs
  · split at hs
    · next hg =>
      cases hs
      simp only [Nat.sub_self, Nat.add_zero] at kk
      exact z_aload hx hb hf (zdec hk hi rfl) (hl.2.2 _ (zcl2_get hg)) (kk _ _ _ hl hr)
    · next hg =>
      cases hs
      simp only [Nat.sub_self, Nat.add_zero] at kk
      exact lv_aloadN hx hb (zdec hk hi rfl) (hl.2.2 _ (zcl2_get hg)) (kk _ _ _ hl hr)
    · cases hs
  · split at hs
    · next hn =>
      cases hs
      simp only [Nat.sub_self, Nat.add_zero] at kk
      exact lv_istore_n hx hb (zdec hk hi rfl) rfl hl hn (zcl2_st hf _ _ (.int _)) (fun _ h9 => kk _ _ _ h9 hr)
    · cases hs
  · split at hs
    · next hn =>
      cases hs
      simp only [Nat.sub_self, Nat.add_zero] at kk
      exact lv_istore hx hb (zdec hk hi rfl) hl hn (zcl2_st hf _ _ (.int _)) (fun _ h9 => kk _ _ _ h9 hr)
    · cases hs
  · split at hs
    · next hn =>
      cases hs
      simp only [Nat.sub_self, Nat.add_zero] at kk
      exact z_astore_n hx hb hf (zdec hk hi rfl) hl hn (fun _ h9 => kk _ _ _ h9 hr)
    · cases hs
  · split at hs
    · next hn =>
      cases hs
      simp only [Nat.sub_self, Nat.add_zero] at kk
      exact lv_astore_nN hx hb (zdec hk hi rfl) rfl hl hn (zcl2_st hf _ _ .null) (fun _ h9 => kk _ _ _ h9 hr)
    · cases hs
  · split at hs
    · next hn =>
      cases hs
      simp only [Nat.sub_self, Nat.add_zero] at kk
      exact z_astore hx hb hf (zdec hk hi rfl) hl hn (fun _ h9 => kk _ _ _ h9 hr)
    · cases hs
  · split at hs
    · next hn =>
      cases hs
      simp only [Nat.sub_self, Nat.add_zero] at kk
      exact lv_astoreN hx hb (zdec hk hi rfl) hl hn (zcl2_st hf _ _ .null) (fun _ h9 => kk _ _ _ h9 hr)
    · cases hs
  · split at hs
    · next hg =>
      split at hs
      · next hn =>
        cases hs
        simp only [Nat.sub_self, Nat.add_zero] at kk
        obtain ⟨j, hj⟩ := List.getElem?_of_mem (zcl2_get (ρ := ρ) hg)
        exact lv_iinc hx hb (zdec hk hi rfl) hl hj rfl hn (zcl2_st hf _ _ (.int _)) (fun _ h9 => kk _ _ _ h9 hr)
      · cases hs
    · cases hs
  · cases hs
    simp only [Nat.sub_self, Nat.add_zero] at kk
    exact lv_iadd hx hb (zdec hk hi rfl) (kk _ _ _ hl hr)
  · cases hs
    simp only [Nat.sub_self, Nat.add_zero] at kk
    exact lv_isub hx hb (zdec hk hi rfl) (kk _ _ _ hl hr)
  · cases hs
    simp only [Nat.sub_self, Nat.add_zero] at kk
    exact lv_imul hx hb (zdec hk hi rfl) (kk _ _ _ hl hr)
  · split at hs
    · cases hs
    · next h0 =>
      cases hs
      simp only [Nat.sub_self, Nat.add_zero] at kk
      exact lv_idiv hx hb (zdec hk hi rfl) h0 (kk _ _ _ hl hr)
  · split at hs
    · cases hs
    · next h0 =>
      cases hs
      simp only [Nat.sub_self, Nat.add_zero] at kk
      exact lv_irem hx hb (zdec hk hi rfl) h0 (kk _ _ _ hl hr)
  · cases hs
    simp only [Nat.sub_self, Nat.add_zero] at kk
    exact lv_ineg hx hb (zdec hk hi rfl) (kk _ _ _ hl hr)
  · cases hs
    simp only [Nat.sub_self, Nat.add_zero] at kk
    exact lv_iand hx hb (zdec hk hi rfl) (kk _ _ _ hl hr)
  · cases hs
    simp only [Nat.sub_self, Nat.add_zero] at kk
    exact lv_ior hx hb (zdec hk hi rfl) (kk _ _ _ hl hr)
  · cases hs
    simp only [Nat.sub_self, Nat.add_zero] at kk
    exact lv_ixor hx hb (zdec hk hi rfl) (kk _ _ _ hl hr)
  · cases hs
    simp only [Nat.sub_self, Nat.add_zero] at kk
    exact lv_ishl hx hb (zdec hk hi rfl) (kk _ _ _ hl hr)
  · cases hs
    simp only [Nat.sub_self, Nat.add_zero] at kk
    exact lv_ishr hx hb (zdec hk hi rfl) (kk _ _ _ hl hr)
  · cases hs
    simp only [Nat.sub_self, Nat.add_zero] at kk
    exact lv_iushr hx hb (zdec hk hi rfl) rfl (kk _ _ _ hl hr)
  · cases hs
    simp only [Nat.sub_self, Nat.add_zero] at kk
    exact lv_lshl hx hb (zdec hk hi rfl) rfl (kk _ _ _ hl hr)
  · cases hs
    simp only [Nat.sub_self, Nat.add_zero] at kk
    exact lv_lor hx hb (zdec hk hi rfl) (kk _ _ _ hl hr)
  · cases hs
    simp only [Nat.sub_self, Nat.add_zero] at kk
    exact lv_land hx hb (zdec hk hi rfl) (kk _ _ _ hl hr)
  · cases hs
    simp only [Nat.sub_self, Nat.add_zero] at kk
    exact W.lcmp hx hb (zdec hk hi rfl) (kk _ _ _ hl hr)
  · cases hs
    simp only [Nat.sub_self, Nat.add_zero] at kk
    exact lv_i2l hx hb (zdec hk hi rfl) rfl (kk _ _ _ hl hr)
  · cases hs
    simp only [Nat.sub_self, Nat.add_zero] at kk
    exact lv_l2i hx hb (zdec hk hi rfl) rfl (kk _ _ _ hl hr)
  · cases hs
    simp only [Nat.sub_self, Nat.add_zero] at kk
    exact lv_i2b hx hb (zdec hk hi rfl) rfl (kk _ _ _ hl hr)
  · cases hs
    simp only [Nat.sub_self, Nat.add_zero] at kk
    exact lv_i2s hx hb (zdec hk hi rfl) rfl (kk _ _ _ hl hr)
  · cases hs
    simp only [Nat.sub_self, Nat.add_zero] at kk
    exact lv_i2c hx hb (zdec hk hi rfl) rfl (kk _ _ _ hl hr)
  · split at hs
    · next hn =>
      cases hs
      simp only [Nat.sub_self, Nat.add_zero] at kk
      exact lv_dup hx hb (zdec hk hi rfl) (by rw [zcv_cat hf]; exact hn) (kk _ _ _ hl hr)
    · cases hs
  · split at hs
    · next hn =>
      cases hs
      simp only [Nat.sub_self, Nat.add_zero] at kk
      exact lv_dup2_11 hx hb (zdec hk hi rfl) (by rw [zcv_cat hf]; exact hn.1) (by rw [zcv_cat hf]; exact hn.2) (kk _ _ _ hl hr)
    · cases hs
  · split at hs
    · next hn =>
      cases hs
      simp only [Nat.sub_self, Nat.add_zero] at kk
      exact lv_pop hx hb (zdec hk hi rfl) (by rw [zcv_cat hf]; exact hn) (kk _ _ _ hl hr)
    · cases hs
  · obtain ⟨t, hv, e⟩ := Option.map_eq_some_iff.mp hs
    cases e
    simp only [Nat.sub_self, Nat.add_zero] at kk
    exact lv_goto hx hb (zdec hk hi rfl) (zjmp_of hv) (kk _ _ _ hl hr)
  · obtain ⟨t, hv, e⟩ := Option.map_eq_some_iff.mp hs
    cases e
    simp only [Nat.sub_self, Nat.add_zero] at kk
    exact z_if hx hb (zdec hk hi rfl) (zjmp_of hv) (kk _ _ _ hl hr)
  · obtain ⟨t, hv, e⟩ := Option.map_eq_some_iff.mp hs
    cases e
    simp only [Nat.sub_self, Nat.add_zero] at kk
    exact z_icmp hx hb (zdec hk hi rfl) (zjmp_of hv) (kk _ _ _ hl hr)
  · obtain ⟨t, hv, e⟩ := Option.map_eq_some_iff.mp hs
    cases e
    simp only [Nat.sub_self, Nat.add_zero] at kk
    exact lv_ifnullN hx hb (zdec hk hi rfl) (zjmp_of hv) (kk _ _ _ hl hr)
  · split at hs
    · cases hs
    · next hq =>
      cases hs
      simp only [Nat.sub_self, Nat.add_zero] at kk
      rw [List.map_cons, zcv_ne hq]
      exact lv_ifnull hx hb (zdec hk hi rfl) (kk _ _ _ hl hr)
  · cases hs
    simp only [Nat.sub_self, Nat.add_zero] at kk
    exact lv_ifnonnullN hx hb (zdec hk hi rfl) (kk _ _ _ hl hr)
  · split at hs
    · cases hs
    · next hq =>
      obtain ⟨t, hv, e⟩ := Option.map_eq_some_iff.mp hs
      cases e
      simp only [Nat.sub_self, Nat.add_zero] at kk
      rw [List.map_cons, zcv_ne hq]
      exact lv_ifnonnull hx hb (zdec hk hi rfl) (zjmp_of hv) (kk _ _ _ hl hr)
  · split at hs
    · next hc =>
      obtain ⟨t, hv, e⟩ := Option.map_eq_some_iff.mp hs
      cases e
      simp only [Nat.sub_self, Nat.add_zero] at kk
      obtain ⟨len, hd⟩ := zdec_sw hk hi
      exact z_table hx hb hd hc (zjmp_of hv) (kk _ _ _ hl hr)
    · cases hs
  · split at hs
    · next hc =>
      obtain ⟨t, hv, e⟩ := Option.map_eq_some_iff.mp hs
      cases e
      simp only [Nat.sub_self, Nat.add_zero] at kk
      obtain ⟨len, hd⟩ := zdec_sw hk hi
      exact z_look hx hb hd hc (zjmp_of hv) (kk _ _ _ hl hr)
    · cases hs
  · split at hs
    · next hlk =>
      obtain ⟨v, hv, e⟩ := Option.map_eq_some_iff.mp hs
      cases e
      simp only [Nat.sub_self, Nat.add_zero] at kk
      exact z_getf F hr hi hlk hv (kk _ _ _ hl hr)
    · cases hs
  · split at hs
    · next hlk =>
      obtain ⟨M2, hv, e⟩ := Option.map_eq_some_iff.mp hs
      cases e
      obtain ⟨-, -, q2, q3, -⟩ := zpf_of hv
      rw [q2, q3] at kk
      simp only [Nat.sub_self, Nat.add_zero] at kk
      exact z_putf F hr hi hlk hv (fun H1 l1 h1 => kk _ H1 l1 hl h1)
    · cases hs
  · split at hs
    · next hlk =>
      cases hs
      simp only [Nat.sub_self, Nat.add_zero] at kk
      exact z_gets F hr hi hlk (Or.inl ⟨rfl, rfl⟩) (kk _ _ _ hl hr)
    · next hlk =>
      cases hs
      simp only [Nat.sub_self, Nat.add_zero] at kk
      exact z_gets F hr hi hlk (Or.inr (Or.inl ⟨rfl, rfl⟩)) (kk _ _ _ hl hr)
    · next hlk =>
      cases hs
      simp only [Nat.sub_self, Nat.add_zero] at kk
      exact z_gets F hr hi hlk (Or.inr (Or.inr ⟨rfl, rfl⟩)) (kk _ _ _ hl hr)
    · cases hs
  · split at hs
    · next h0 =>
      split at hs
      · next L xs =>
        split at hs
        · cases hs
        · next hin =>
          cases hs
          simp only [Nat.sub_self, Nat.add_zero] at kk
          subst h0
          obtain ⟨a1, a2, a3⟩ := hsc _ _ rfl
          show W p l e R s m args below meth c H locs cells slots Q (F0 m pc ls (.int _ :: zcv ρ (.ref 0) :: _))
          rw [zcv_ne (by omega), show zadr ρ 0 = ρ.1 0 from if_pos (by omega)]
          exact va_sld hx hb a1 a2 a3 hr.2.2.2 hin (zdec hk hi rfl) (kk _ _ _ hl hr)
      · cases hs
    · next h0 =>
      obtain ⟨x, hv, e⟩ := Option.map_eq_some_iff.mp hs
      cases e
      simp only [Nat.sub_self, Nat.add_zero] at kk
      exact z_iald F hr hi h0 hv (kk _ _ _ hl hr)
  · obtain ⟨x, hv, e⟩ := Option.map_eq_some_iff.mp hs
    cases e
    simp only [Nat.sub_self, Nat.add_zero] at kk
    exact z_bald F hr hi hv (kk _ _ _ hl hr)
  · obtain ⟨x, hv, e⟩ := Option.map_eq_some_iff.mp hs
    cases e
    simp only [Nat.sub_self, Nat.add_zero] at kk
    exact z_lald F hr hi hv (kk _ _ _ hl hr)
  · obtain ⟨x, hv, e⟩ := Option.map_eq_some_iff.mp hs
    cases e
    simp only [Nat.sub_self, Nat.add_zero] at kk
    exact z_aald F hr hi hv (kk _ _ _ hl hr)
  · obtain ⟨M2, hv, e⟩ := Option.map_eq_some_iff.mp hs
    cases e
    obtain ⟨q2, q3⟩ := zsa_n hv
    rw [q2, q3] at kk
    simp only [Nat.sub_self, Nat.add_zero] at kk
    exact z_iast F hr hi hv (fun H1 l1 h1 => kk _ H1 l1 hl h1)
  · obtain ⟨M2, hv, e⟩ := Option.map_eq_some_iff.mp hs
    cases e
    obtain ⟨q2, q3⟩ := zsa_n hv
    rw [q2, q3] at kk
    simp only [Nat.sub_self, Nat.add_zero] at kk
    exact z_bast F hr hi hv (fun H1 l1 h1 => kk _ H1 l1 hl h1)
  · obtain ⟨M2, hv, e⟩ := Option.map_eq_some_iff.mp hs
    cases e
    obtain ⟨q2, q3⟩ := zsaL_n hv
    rw [q2, q3] at kk
    simp only [Nat.sub_self, Nat.add_zero] at kk
    exact z_last F hr hi hv (fun H1 l1 h1 => kk _ H1 l1 hl h1)
  · obtain ⟨M2, hv, e⟩ := Option.map_eq_some_iff.mp hs
    cases e
    obtain ⟨q2, q3⟩ := zsaR_n hv
    rw [q2, q3] at kk
    simp only [Nat.sub_self, Nat.add_zero] at kk
    exact z_aast F hr hi hv (fun H1 l1 h1 => kk _ H1 l1 hl h1)
  · obtain ⟨x, hv, e⟩ := Option.map_eq_some_iff.mp hs
    cases e
    simp only [Nat.sub_self, Nat.add_zero] at kk
    exact z_alen F hsc hr hi hv (kk _ _ _ hl hr)
  · split at hs
    · next t hta =>
      split at hs
      · next hn =>
        cases hs
        simp only [zn_new, zc_new] at hcells hslots kk
        exact z_newa F hr hi hta hn hcells hslots (fun H1 h1 => kk _ H1 _ hl h1)
      · cases hs
    · cases hs
  · split at hs
    · next hlk =>
      split at hs
      · next hn =>
        cases hs
        simp only [zn_new, zc_new] at hcells hslots kk
        exact z_anew F hr hi hlk hn hcells hslots (fun H1 h1 => kk _ H1 _ hl h1)
      · cases hs
    · cases hs
  · split at hs
    · next hlk =>
      split at hs
      · next hn =>
        cases hs
        simp only [zn_new, zc_new] at hcells hslots kk
        exact z_new F hr hi hlk hn hcells hslots (fun H1 h1 => kk _ H1 _ hl h1)
      · cases hs
    · cases hs
  · split at hs
    · next hlk =>
      split at hs
      · next hn =>
        cases hs
        simp only [Nat.sub_self, Nat.add_zero] at kk
        exact z_oinit F hl.1 hi hlk ⟨_, zcv_ne hn.2.1⟩ (by omega) (by omega) (by rw [zsum hf]; exact hn.2.2) (kk _ _ _ hl hr)
      · cases hs
    · cases hs
  · split at hs
    · next hlk =>
      split at hs
      · next hn =>
        obtain ⟨M2, hv, e⟩ := Option.map_eq_some_iff.mp hs
        cases e
        obtain ⟨q2, q3⟩ := zcopy_n hv
        rw [q2, q3] at kk
        simp only [Nat.sub_self, Nat.add_zero] at kk
        exact z_copy F hr hl.1 hi hlk (by omega) (by omega) (by rw [zsum hf]; exact hn.2) hv (fun H1 l1 h1 => kk _ H1 l1 hl h1)
      · cases hs
    · cases hs
  · cases hs
end ZBIG
end
section
/-! THE SOUNDNESS of the abstract machine -/
theorem zpf_m {M M' : ZMem} {t j o : Nat} {v : Value} {b : Bool} (h : zpf M t j o v b = some M') : zn M ≤ zn M' ∧ zc M ≤ zc M' := by
  obtain ⟨-, -, q2, q3, -⟩ := zpf_of h
  exact ⟨Nat.le_of_eq q2.symm, Nat.le_of_eq q3.symm⟩
theorem zsa_m {M M' : ZMem} {t p : Nat} {i x : Int32} (h : zsa M t p i x = some M') : zn M ≤ zn M' ∧ zc M ≤ zc M' := ⟨Nat.le_of_eq (zsa_n h).1.symm, Nat.le_of_eq (zsa_n h).2.symm⟩
theorem zsaL_m {M M' : ZMem} {p : Nat} {i : Int32} {x : Int64} (h : zsaL M p i x = some M') : zn M ≤ zn M' ∧ zc M ≤ zc M' := ⟨Nat.le_of_eq (zsaL_n h).1.symm, Nat.le_of_eq (zsaL_n h).2.symm⟩
theorem zsaR_m {M M' : ZMem} {p q : Nat} {i : Int32} (h : zsaR M p i q = some M') : zn M ≤ zn M' ∧ zc M ≤ zc M' := ⟨Nat.le_of_eq (zsaR_n h).1.symm, Nat.le_of_eq (zsaR_n h).2.symm⟩
theorem zcopy_m {M M' : ZMem} {p q : Nat} {sp dp n : Int32} (h : zcopy M p sp q dp n = some M') : zn M ≤ zn M' ∧ zc M ≤ zc M' := ⟨Nat.le_of_eq (zcopy_n h).1.symm, Nat.le_of_eq (zcopy_n h).2.symm⟩
set_option maxHeartbeats 2000000 in
theorem zs_mono {sc : Option (Nat × (Nat → Int32))} {d k pc : Nat} {lo : List (Nat × Value)} {st : List Value} {M M' : ZMem} {i : Instr} {g' : ZFr} (hs : zs sc d k pc lo st M i = some (g', M')) : zn M ≤ zn M' ∧ zc M ≤ zc M' := by
  unfold zs at hs
  split at hs
  all_goals (repeat' (split at hs))
  all_goals first
    | (cases hs; first | done | exact ⟨Nat.le_refl _, Nat.le_refl _⟩ | exact ⟨Nat.le_succ _, Nat.le_add_right _ _⟩)
    | (obtain ⟨x, hv, e⟩ := Option.map_eq_some_iff.mp hs
       cases e
       first
         | exact ⟨Nat.le_refl _, Nat.le_refl _⟩
         | exact zpf_m hv
         | exact zsa_m hv
         | exact zsaL_m hv
         | exact zsaR_m hv
         | exact zcopy_m hv)
theorem zr_mono : ∀ (f : Nat) (sc : Option (Nat × (Nat → Int32))) (d k : Nat) (g : ZFr) (M : ZMem) (v : Option Value) (M' : ZMem), zr sc d f k g M = some (v, M') → zn M ≤ zn M' ∧ zc M ≤ zc M' := by
  intro f
  induction f with
  | zero => intro sc d k g M v M' h; cases h
  | succ f ih =>
    intro sc d k g M v M' h
    unfold zr at h
    split at h
    · cases h
    · split at h
      · next g1 M1 hs =>
        have h1 := zs_mono hs
        have h2 := ih _ _ _ _ _ _ _ h
        exact ⟨Nat.le_trans h1.1 h2.1, Nat.le_trans h1.2 h2.2⟩
      · split at h
        · split at h
          · cases h
          · split at h
            · next v1 M1 hin =>
              have h1 := ih _ _ _ _ _ _ _ hin
              have h2 := ih _ _ _ _ _ _ _ h
              exact ⟨Nat.le_trans h1.1 h2.1, Nat.le_trans h1.2 h2.2⟩
            · cases h
        · split at h
          · cases h; exact ⟨Nat.le_refl _, Nat.le_refl _⟩
          · cases h
theorem zMet_of {l : Launch} {y : MethodName} {ws ws' : List Jvm.Cond} {rm : Room} {Pc : Array Value → State → Prop} {Qc : Array Value → State → Outcome → State → Prop} {mc ms : Nat} {free : Addr → Prop} {cc : ByteArray} {maxL : Nat} {ret : Option FieldType} (hy : plainFor y = true) (hw : ws = Cond.code y cc maxL ret :: ws')
    (body : ∀ p e s m args below meth c s₁, BodyLoose p l y (headSpec ws rm) cc maxL ret e s m args below meth c s₁ → c.maxLocals = maxL → Pc args s → W p l e (headSpec ws rm).room s m args below meth c s.heap [] 0 0 (MQ below Qc args s mc ms free) (entryFrame m args maxL)) : Met l y ws rm Pc Qc mc ms free := by
  refine MetFree.of_bodySF (code := cc) (maxLocals := maxL) (ret := ret) hy ?_ ?_
  · intro args s m h hn
    obtain ⟨meth, c, h1, h2, h3, h4, h5, h6, -, -⟩ := Cond.code_spec hn (atoms_spec (ws := ws) h _ (by rw [hw]; exact List.mem_cons_self))
    exact ⟨meth, c, h1, h2, h3, h4, h5, h6⟩
  · intro p e s m args below meth c s₁ B hml hP _
    have hh0 : s₁.heap = s.heap := by rw [B.state]; rfl
    obtain ⟨t, a1, o, b1, b2, b3⟩ := body p e s m args below meth c s₁ B hml hP s₁ hh0 (Stand.of_body B)
    exact ⟨t, o, a1, b1, b2, ⟨b3.1, b3.2⟩⟩
/-- whom a call calls -/
theorem zcall_q {k : Nat} {i : Instr} {st as r : List Value} {q : Nat} {M : ZMem} (hk : k < 240) (hc : zcall k i st M = some (q, as, r)) : 0 < q ∧ q < 240 ∧ (lg_sl as).length ≤ zml q := by
  unfold zcall at hc
  repeat' (split at hc)
  all_goals first
    | (next hlk _ _ _ _ _ hcc => 
        cases hc
        have hw := zlk_of hk hlk
        simp only [zlok, Bool.and_eq_true, decide_eq_true_eq] at hw
        exact ⟨hw.1.1.1, hw.1.1.2, hcc.2.2.2⟩)
    | (next hlk _ _ _ _ hcc => 
        cases hc
        have hw := zlk_of hk hlk
        simp only [zlok, Bool.and_eq_true, decide_eq_true_eq] at hw
        exact ⟨hw.1.1.1, hw.1.1.2, hcc.2.2⟩)
    | cases hc
section ZSND
variable {p : Program} {l : Launch} {e : Env} {R : Room} {s : State} {m : MethodId} {args : Array Value} {below : List Frame} {meth : Method} {c : Code} {H : Heap} {locs : List Loc} {cells slots : Nat}
variable {ρ : ZAd} {cA : Nat → ClassId} {D : va_G} {k pc : Nat} {ls : Array Slot}
/-- a return -/
theorem zendW {i : Instr} {st : List Value} {v : Option Value} {Qc : Array Value → State → Outcome → State → Prop} {free : Addr → Prop} (F : zFx p s m args meth c ρ cA D k) (hret : meth.sig.returnType = zret k) (hlocks : meth.locks = false) (hi : zi k pc = some i) (hz : zend k i st = some v) (hq : ∀ t : State, t.heap = H → s.WarmedH t.vm → Qc args s (.returned (v.map (zcv ρ))) t) (hfr : ∀ q ∈ locs, free q.base) : W p l e R s m args below meth c H locs cells slots (MQ below Qc args s cells slots free) (F0 m pc ls (st.map (zcv ρ))) := by
  obtain ⟨hk, hx, hb, hml, hown, hts, hini, hf, hE, hbs⟩ := F
  unfold zend at hz
  split at hz
  · split at hz
    · next ty hty =>
      split at hz
      · next hc =>
        cases hz
        exact W.zret hx hb (hret.trans hty) hc.2 hq hfr (zdec hk hi rfl) hlocks
      · cases hz
    · cases hz
  · split at hz
    · next hc =>
      cases hz
      exact W.lret hx hb (hret.trans hc) hq hfr (zdec hk hi rfl) hlocks
    · cases hz
  · split at hz
    · next ty hty =>
      split at hz
      · next hc =>
        cases hz
        have hrt : (∃ n, ty = .object n) ∨ ∃ t, ty = .array t := by
          obtain ⟨h2, -⟩ := hc
          cases ty <;> first | exact Or.inl ⟨_, rfl⟩ | exact Or.inr ⟨_, rfl⟩ | cases h2
        exact W.aret hx hb (hret.trans hty) hrt (zcv_r hf _) hq hfr (zdec hk hi rfl) hlocks
      · cases hz
    · cases hz
  · split at hz
    · next ty hty =>
      split at hz
      · next h2 =>
        cases hz
        have hrt : (∃ n, ty = .object n) ∨ ∃ t, ty = .array t := by
          cases ty <;> first | exact Or.inl ⟨_, rfl⟩ | exact Or.inr ⟨_, rfl⟩ | cases h2
        exact W.aret hx hb (hret.trans hty) hrt (Or.inl rfl) hq hfr (zdec hk hi rfl) hlocks
      · cases hz
    · cases hz
  · split at hz
    · next hc =>
      cases hz
      exact W.vret hx hb (hret.trans hc) hq hfr (zdec hk hi rfl) hlocks
    · cases hz
  · cases hz
/-- a call, by its kind -/
theorem zcallR {i : Instr} {st as r : List Value} {q d : Nat} {v : Option Value} {M M' : ZMem} (F : zFx p s m args meth c ρ cA D k) (hR : d + 1 ≤ R.frames ∧ 60 * (d + 1) ≤ R.locals) (hi : zi k pc = some i) (hc : zcall k i st M = some (q, as, r)) (hC : zCon l ρ cA D d q as M v M') (hls : ls.size = zml k) (hr : zRl ρ cA D s M H locs cells) (hz : H.size = ρ.2.2 + (zn M - 20)) (hcells : cells + (zn M' - zn M) ≤ R.cells) (hslots : slots + (zc M' - zc M) ≤ R.slots) :
    va_Run p l e R s m args below meth c H locs cells slots (zn M' - zn M) (zc M' - zc M) (F0 m pc ls (st.map (zcv ρ))) (r.map (zcv ρ)) (fun st oc t => oc = .returned (v.map (zcv ρ)) ∧ zOld M' ∧ va_P D vwCl (zws ρ cA M') t.heap ∧ va_F (fun q => ρ.2.2 ≤ q) st t) (fun q => ρ.2.2 ≤ q) := by
  have F' := F
  obtain ⟨hk, hx, hb, hml, hown, hts, hini, hf, hE, hbs⟩ := F
  have hS : CallFix p m c (zmeth k).2.1 (zml k) s args zG (zmeth k).1.cls := ⟨hx, hb, hml, hown, hts⟩
  have hroom : ∀ q, 0 < q → q < 240 → d + 1 ≤ R.frames ∧ 8 + (zml q + 11) + 60 * d ≤ R.locals := fun q h0 h1 => ⟨hR.1, by have := (zmok_of h0 h1).2.2.2.2.2.1; omega⟩
  unfold zcall at hc
  split at hc
  · -- by its object
    split at hc
    · next np _ hlk =>
      split at hc
      · next a o r' hag =>
        split at hc
        · next hcc =>
          cases hc
          obtain ⟨c1, c2, c3, c4⟩ := hcc
          have hw := zlk_of hk hlk
          simp only [zlok, Bool.and_eq_true, decide_eq_true_eq] at hw
          obtain ⟨⟨hq, hnp⟩, hw3⟩ := hw
          have hwn := hts _ (zat_in hw3)
          rw [(zown_all k hk).1] at hwn
          obtain ⟨w1, w2, w3, w4, w5, w6, w7⟩ := zmok_of hq.1 hq.2
          rcases w7 with ⟨-, w8, w9, -⟩ | ⟨h, -⟩ | ⟨h, -⟩
          · obtain ⟨ha1, ha2⟩ := zargs_of hag
            obtain ⟨ho, cell, b1, b2, b3⟩ := zrecv (C := (zmeth q).1.cls) hE hr c2
            have hpre := zPre (as := .ref o :: a) hE hr hz
            have hst : st.map (zcv ρ) = (a.map (zcv ρ)).reverse ++ .ref (zadr ρ o) :: r.map (zcv ρ) := by rw [ha2, List.map_append, List.map_reverse, List.map_cons, zcv_ne ho]
            rw [List.map_cons, zcv_ne ho] at hpre
            unfold zCon at hC
            rw [List.map_cons, zcv_ne ho] at hC
            exact va_runV (As := a.map (zcv ρ)) (rest := r.map (zcv ρ)) hS hC ⟨callB_of np hts (zGws q hq.1 hq.2) rfl rfl rfl (hts _ w1) hwn ⟨w4.1, w4.2, by rw [w5, hnp]⟩ (hroom q hq.1 hq.2), hts _ w8, hts _ w9⟩ ⟨hpre.1, ⟨cell, b1, b2, b3⟩, hpre.2⟩ rfl (by rw [List.length_map]; exact ha1) hls hst (lv_room (by rw [zsum hf]; exact c3)) (zdec hk hi rfl) ⟨hcells, hslots⟩
          · rw [c1] at h; cases h
          · rw [c1] at h; cases h
        · cases hc
      · cases hc
    · cases hc
  · split at hc
    · next np _ hlk =>
      split at hc
      · next a r' hag =>
        split at hc
        · next hcc =>
          cases hc
          obtain ⟨c1, c3, c4⟩ := hcc
          have hw := zlk_of hk hlk
          simp only [zlok, Bool.and_eq_true, decide_eq_true_eq] at hw
          obtain ⟨⟨hq, hnp⟩, hw3⟩ := hw
          have hwn := hts _ (zat_in hw3)
          rw [(zown_all k hk).1] at hwn
          obtain ⟨w1, w2, w3, w4, w5, w6, w7⟩ := zmok_of hq.1 hq.2
          rcases w7 with ⟨h, -⟩ | ⟨-, w8⟩ | ⟨h, -⟩
          · rw [c1] at h; cases h
          · obtain ⟨ha1, ha2⟩ := zargs_of hag
            have hpre := zPre (as := as) hE hr hz
            have hst : st.map (zcv ρ) = (as.map (zcv ρ)).reverse ++ r.map (zcv ρ) := by rw [ha2, List.map_append, List.map_reverse]
            unfold zCon at hC
            exact va_runS (As := as.map (zcv ρ)) (rest := r.map (zcv ρ)) hS hC ⟨callB_of np hts (zGws q hq.1 hq.2) rfl rfl rfl (hts _ w1) hwn ⟨w4.1, w4.2, by rw [w5, hnp]⟩ (hroom q hq.1 hq.2), hts _ w8⟩ hpre rfl (by rw [List.length_map]; exact ha1) hls hst (lv_room (by rw [zsum hf]; exact c3)) (zdec hk hi rfl) ⟨hcells, hslots⟩
          · rw [c1] at h; cases h
        · cases hc
      · cases hc
    · next np _ hlk =>
      split at hc
      · next a r' hag =>
        split at hc
        · next hcc =>
          cases hc
          obtain ⟨c1, c3, c4⟩ := hcc
          have hw := zlk_of hk hlk
          simp only [zlok, Bool.and_eq_true, decide_eq_true_eq] at hw
          obtain ⟨⟨hq, hnp⟩, hw3⟩ := hw
          obtain ⟨z, hz1, hz2⟩ := List.any_eq_true.mp hw3
          simp only [decide_eq_true_eq] at hz2
          have hwn := hE.2.1 z hz1
          rw [hz2.1, hz2.2.1, hz2.2.2, (zown_all k hk).1] at hwn
          obtain ⟨w1, w2, w3, w4, w5, w6, w7⟩ := zmok_of hq.1 hq.2
          rcases w7 with ⟨h, -⟩ | ⟨-, w8⟩ | ⟨h, -⟩
          · rw [c1] at h; cases h
          · obtain ⟨ha1, ha2⟩ := zargs_of hag
            have hpre := zPre (as := as) hE hr hz
            have hst : st.map (zcv ρ) = (as.map (zcv ρ)).reverse ++ r.map (zcv ρ) := by rw [ha2, List.map_append, List.map_reverse]
            unfold zCon at hC
            exact va_runSN (As := as.map (zcv ρ)) (rest := r.map (zcv ρ)) hS hC ⟨va_cnB np hts (zGws q hq.1 hq.2) rfl rfl rfl hwn (hts _ w1) ⟨w4.1, w4.2, by rw [w5, hnp]⟩ (hroom q hq.1 hq.2), hts _ w8, trivial⟩ hpre rfl (by rw [List.length_map]; exact ha1) hls hst (lv_room (by rw [zsum hf]; exact c3)) (zdec hk hi rfl) ⟨hcells, hslots⟩
          · rw [c1] at h; cases h
        · cases hc
      · cases hc
    · cases hc
  · split at hc
    · next np _ hlk =>
      split at hc
      · next a o r' hag =>
        split at hc
        · next hcc =>
          cases hc
          obtain ⟨c1, c2, c3, c4⟩ := hcc
          have hw := zlk_of hk hlk
          simp only [zlok, Bool.and_eq_true, decide_eq_true_eq] at hw
          obtain ⟨⟨hq, hnp⟩, hw3⟩ := hw
          have hwn := hts _ (zat_in hw3)
          rw [(zown_all k hk).1] at hwn
          obtain ⟨w1, w2, w3, w4, w5, w6, w7⟩ := zmok_of hq.1 hq.2
          rcases w7 with ⟨h, -⟩ | ⟨h, -⟩ | ⟨-, w8, w9, w10⟩
          · rw [c1] at h; cases h
          · rw [c1] at h; cases h
          · obtain ⟨ha1, ha2⟩ := zargs_of hag
            have hpre := zPre (as := .ref o :: a) hE hr hz
            have hst : st.map (zcv ρ) = (a.map (zcv ρ)).reverse ++ .ref (zadr ρ o) :: r.map (zcv ρ) := by rw [ha2, List.map_append, List.map_reverse, List.map_cons, zcv_ne c2]
            rw [List.map_cons, zcv_ne c2] at hpre
            unfold zCon at hC
            rw [List.map_cons, zcv_ne c2] at hC
            have hG := zGws q hq.1 hq.2
            rw [w10] at hC hG
            exact va_runI (As := a.map (zcv ρ)) (rest := r.map (zcv ρ)) hS hC ⟨callB_of np hts hG rfl rfl rfl (hts _ w1) hwn ⟨w4.1, w4.2, by rw [w5, hnp]⟩ (hroom q hq.1 hq.2), w9, hts _ w8⟩ hpre rfl (by rw [List.length_map]; exact ha1) hls hst (lv_room (by rw [zsum hf]; exact c3)) (zdec hk hi rfl) ⟨hcells, hslots⟩
        · cases hc
      · cases hc
    · next np _ hlk =>
      split at hc
      · next a o r' hag =>
        split at hc
        · next hcc =>
          cases hc
          obtain ⟨c1, c2, c3, c4⟩ := hcc
          have hw := zlk_of hk hlk
          simp only [zlok, Bool.and_eq_true, decide_eq_true_eq] at hw
          obtain ⟨⟨hq, hnp⟩, hw3⟩ := hw
          obtain ⟨z, hz1, hz2⟩ := List.any_eq_true.mp hw3
          simp only [decide_eq_true_eq] at hz2
          have hwn := hE.2.1 z hz1
          rw [hz2.1, hz2.2.1, hz2.2.2, (zown_all k hk).1] at hwn
          obtain ⟨w1, w2, w3, w4, w5, w6, w7⟩ := zmok_of hq.1 hq.2
          rcases w7 with ⟨h, -⟩ | ⟨h, -⟩ | ⟨-, w8, w9, w10⟩
          · rw [c1] at h; cases h
          · rw [c1] at h; cases h
          · obtain ⟨ha1, ha2⟩ := zargs_of hag
            have hpre := zPre (as := .ref o :: a) hE hr hz
            have hst : st.map (zcv ρ) = (a.map (zcv ρ)).reverse ++ .ref (zadr ρ o) :: r.map (zcv ρ) := by rw [ha2, List.map_append, List.map_reverse, List.map_cons, zcv_ne c2]
            rw [List.map_cons, zcv_ne c2] at hpre
            unfold zCon at hC
            rw [List.map_cons, zcv_ne c2] at hC
            have hG := zGws q hq.1 hq.2
            rw [w10] at hC hG
            exact va_runIN (As := a.map (zcv ρ)) (rest := r.map (zcv ρ)) hS hC ⟨va_cnB np hts hG rfl rfl rfl hwn (hts _ w1) ⟨w4.1, w4.2, by rw [w5, hnp]⟩ (hroom q hq.1 hq.2), w9, hts _ w8⟩ hpre rfl (by rw [List.length_map]; exact ha1) hls hst (lv_room (by rw [zsum hf]; exact c3)) (zdec hk hi rfl) ⟨hcells, hslots⟩
        · cases hc
      · cases hc
    · cases hc
  · cases hc
/-- THE RUN: what the abstract machine comes to, the machine comes to -/
theorem zcon_of {f : Nat} (IH : ∀ {p : Program} {e : Env} {R : Room} {s : State} {m : MethodId} {args : Array Value} {below : List Frame} {meth : Method} {c : Code} {H : Heap} {locs : List Loc} {cells slots : Nat} {Q : State → Prop} {ls : Array Slot} (sc : Option (Nat × (Nat → Int32))) (d k : Nat) (g : ZFr) (M : ZMem) (v : Option Value) (M' : ZMem), zFx p s m args meth c ρ cA D k → zSc sc ρ s → d ≤ R.frames ∧ 60 * d ≤ R.locals → zr sc d f k g M = some (v, M') → cells + (zn M' - zn M) ≤ R.cells → slots + (zc M' - zc M) ≤ R.slots → lv_has ls (zml k) (zcl2 ρ g.2.1) → zRl ρ cA D s M H locs cells →
      (∀ (pc : Nat) (i : Instr) (st : List Value) (ls' : Array Slot) (H' : Heap) (locs' : List Loc), zi k pc = some i → zend k i st = some v → zRl ρ cA D s M' H' locs' (cells + (zn M' - zn M)) → W p l e R s m args below meth c H' locs' (cells + (zn M' - zn M)) (slots + (zc M' - zc M)) Q (F0 m pc ls' (st.map (zcv ρ)))) → W p l e R s m args below meth c H locs cells slots Q (F0 m g.1 ls (g.2.2.map (zcv ρ))))
    (hf : zfm ρ) {d q : Nat} {as : List Value} {M : ZMem} {v : Option Value} {M' : ZMem} (hq0 : 0 < q) (hq : q < 240) (hlen : (lg_sl as).length ≤ zml q) (hin : zr none d f q (0, lv_args 0 as, []) M = some (v, M')) : zCon l ρ cA D d q as M v M' := by
  obtain ⟨w1, w2, w3, w4, w5, w6, w7⟩ := zmok_of hq0 hq
  unfold zCon
  refine zMet_of (cc := (zmeth q).2.1) (maxL := zml q) (ret := zret q) w3 rfl ?_
  intro p e s m args below meth c s₁ B hml hv
  obtain ⟨rfl, hE, hbs, hO, hP, hz⟩ := hv
  have hl := lv_entry (as.map (zcv ρ)) (n := zml q) (by rw [zcl2_sl hf]; exact hlen)
  rw [lg_entry_eq]
  generalize (lg_sl (as.map (zcv ρ)) ++ List.replicate (zml q - (lg_sl (as.map (zcv ρ))).length) Slot.unset).toArray = ls at hl ⊢
  rw [zcl2_args hf] at hl
  have hts := atoms_spec (ws := Cond.code (zmeth q).1 (zmeth q).2.1 (zml q) (zret q) :: zG) B.pre
  have F : zFx p s m (as.map (zcv ρ)).toArray meth c ρ cA D q := ⟨hq, B.exec, B.bytes, hml, findClass_of_methodNamed B.named, fun w hw => hts w (List.mem_cons_of_mem _ hw), fun h => by
      have h1 := (name_of_methodNamed B.named B.method).1
      rw [h1]
      exact eq_of_beq h, hf, hE, hbs⟩
  have hR : zRl ρ cA D s M s.heap [] 0 := ⟨hO, hP, hz, va_S.rf⟩
  refine IH none d q (0, lv_args 0 as, []) M v M' F (fun L xs h => by cases h) ⟨Nat.le_refl _, Nat.le_refl _⟩ hin (by rw [Nat.zero_add]; exact Nat.le_refl _) (by rw [Nat.zero_add]; exact Nat.le_refl _) hl hR ?_
  intro pc i st ls' H' locs' hi he hr'
  rw [Nat.zero_add] at hr' ⊢
  rw [Nat.zero_add]
  exact zendW F B.returns B.notSynchronized hi he (fun t ht hW => ⟨rfl, hr'.1, by rw [ht]; exact hr'.2.1, hr'.2.2.2.F ht⟩) hr'.2.2.2.2.2
theorem zrun (hf : zfm ρ) : ∀ (f : Nat) {p : Program} {e : Env} {R : Room} {s : State} {m : MethodId} {args : Array Value} {below : List Frame} {meth : Method} {c : Code} {H : Heap} {locs : List Loc} {cells slots : Nat} {Q : State → Prop} {ls : Array Slot} (sc : Option (Nat × (Nat → Int32))) (d k : Nat) (g : ZFr) (M : ZMem) (v : Option Value) (M' : ZMem), zFx p s m args meth c ρ cA D k → zSc sc ρ s → d ≤ R.frames ∧ 60 * d ≤ R.locals → zr sc d f k g M = some (v, M') → cells + (zn M' - zn M) ≤ R.cells → slots + (zc M' - zc M) ≤ R.slots → lv_has ls (zml k) (zcl2 ρ g.2.1) → zRl ρ cA D s M H locs cells →
      (∀ (pc : Nat) (i : Instr) (st : List Value) (ls' : Array Slot) (H' : Heap) (locs' : List Loc), zi k pc = some i → zend k i st = some v → zRl ρ cA D s M' H' locs' (cells + (zn M' - zn M)) → W p l e R s m args below meth c H' locs' (cells + (zn M' - zn M)) (slots + (zc M' - zc M)) Q (F0 m pc ls' (st.map (zcv ρ)))) → W p l e R s m args below meth c H locs cells slots Q (F0 m g.1 ls (g.2.2.map (zcv ρ))) := by
  intro f
  induction f with
  | zero => intro p e R s m args below meth c H locs cells slots Q ls sc d k g M v M' F hsc hR h; cases h
  | succ f ih =>
    intro p e R s m args below meth c H locs cells slots Q ls sc d k g M v M' F hsc hR h hcells hslots hl hr hend
    unfold zr at h
    split at h
    · cases h
    · next i hi =>
      split at h
      · next g1 M1 hs =>
        have m1 := zs_mono hs
        have m2 := zr_mono _ _ _ _ _ _ _ _ h
        have e1 : cells + (zn M1 - zn M) + (zn M' - zn M1) = cells + (zn M' - zn M) := by omega
        have e2 : slots + (zc M1 - zc M) + (zc M' - zc M1) = slots + (zc M' - zc M) := by omega
        refine zstep F hsc hR hi hs (by omega) (by omega) hl hr (fun ls' H' locs' hl' hr' => ?_)
        refine ih sc d k g1 M1 v M' F hsc hR h (by omega) (by omega) hl' hr' (fun pc i st ls2 H2 locs2 h1 h2 h3 => ?_)
        rw [e1] at h3 ⊢
        rw [e2]
        exact hend pc i st ls2 H2 locs2 h1 h2 h3
      · split at h
        · next q as r hc =>
          split at h
          · cases h
          · next d' _ =>
            split at h
            · next v1 M1 hin =>
              have m1 := zr_mono _ _ _ _ _ _ _ _ hin
              have m2 := zr_mono _ _ _ _ _ _ _ _ h
              have e1 : cells + (zn M1 - zn M) + (zn M' - zn M1) = cells + (zn M' - zn M) := by omega
              have e2 : slots + (zc M1 - zc M) + (zc M' - zc M1) = slots + (zc M' - zc M) := by omega
              obtain ⟨hq0, hq, hlen⟩ := zcall_q F.1 hc
              have hC : zCon l ρ cA D d' q as M v1 M1 := zcon_of ih hf hq0 hq hlen hin
              refine zsize F.2.2.2.2.2.2.2.2.2 hr fun hz => ?_
              refine zcallW (v := v1.map (zcv ρ)) (rest := r.map (zcv ρ)) (zcallR F hR hi hc hC hl.1 hr hz (by omega) (by omega)) hr m1.1 (fun H1 locs1 hr1 => ?_)
              have est : (v1.map (zcv ρ)).toList ++ r.map (zcv ρ) = (v1.toList ++ r).map (zcv ρ) := by cases v1 <;> simp
              rw [est]
              refine ih sc (d' + 1) k (g.1 + 3, g.2.1, v1.toList ++ r) M1 v M' F hsc hR h (by omega) (by omega) hl hr1 (fun pc i st ls2 H2 locs2 h1 h2 h3 => ?_)
              rw [e1] at h3 ⊢
              rw [e2]
              exact hend pc i st ls2 H2 locs2 h1 h2 h3
            · cases h
        · split at h
          · next v2 hz =>
            cases h
            have e1 : cells + (zn M - zn M) = cells := by omega
            have e2 : slots + (zc M - zc M) = slots := by omega
            have h3 := hend g.1 i g.2.2 ls H locs hi hz (by rw [e1]; exact hr)
            rw [e1, e2] at h3
            exact h3
          · cases h
end ZSND
end
section
/-! the start: what the Statement gives is the world of the abstract machine -/
theorem znp_0 : (Cond.methodLinkNest "SlateHalves" 11 (zmeth 2).1 "SlateHalves") ∈ lw_tbl := List.mem_of_getElem? (i := 125) (by decide +kernel)
theorem znp_1 : (Cond.methodLinkNest "SlateHalves" 49 (zmeth 6).1 "SlateHalves") ∈ lw_tbl := List.mem_of_getElem? (i := 256) (by decide +kernel)
theorem znp_2 : (Cond.methodLinkNest "SlateHalves" 56 (zmeth 7).1 "SlateHalves") ∈ lw_tbl := List.mem_of_getElem? (i := 283) (by decide +kernel)
theorem znp_3 : (Cond.methodLinkNest "SlateHalves$HillReader" 22 (zmeth 6).1 "SlateHalves") ∈ lw_tbl := List.mem_of_getElem? (i := 288) (by decide +kernel)
theorem znp_4 : (Cond.methodLinkNest "SlateHalves" 63 (zmeth 8).1 "SlateHalves") ∈ lw_tbl := List.mem_of_getElem? (i := 304) (by decide +kernel)
theorem znp_5 : (Cond.methodLinkNest "SlateHalves" 70 (zmeth 9).1 "SlateHalves") ∈ lw_tbl := List.mem_of_getElem? (i := 324) (by decide +kernel)
theorem znp_6 : (Cond.methodLinkNest "SlateHalves$Valuer" 11 (zmeth 8).1 "SlateHalves") ∈ lw_tbl := List.mem_of_getElem? (i := 329) (by decide +kernel)
theorem znp_7 : (Cond.methodLinkNest "SlateHalves" 77 (zmeth 10).1 "SlateHalves") ∈ lw_tbl := List.mem_of_getElem? (i := 354) (by decide +kernel)
theorem znp_8 : (Cond.methodLinkNest "SlateHalves" 84 (zmeth 11).1 "SlateHalves") ∈ lw_tbl := List.mem_of_getElem? (i := 380) (by decide +kernel)
theorem znp_9 : (Cond.methodLinkNest "SlateHalves" 95 (zmeth 12).1 "SlateHalves") ∈ lw_tbl := List.mem_of_getElem? (i := 405) (by decide +kernel)
theorem znp_10 : (Cond.methodLinkNest "SlateHalves$Yard" 33 (zmeth 14).1 "SlateHalves") ∈ lw_tbl := List.mem_of_getElem? (i := 495) (by decide +kernel)
theorem znp_11 : (Cond.methodLinkNest "SlateHalves$Blows" 31 (zmeth 25).1 "SlateHalves") ∈ lw_tbl := List.mem_of_getElem? (i := 532) (by decide +kernel)
theorem znp_12 : (Cond.methodLinkNest "SlateHalves$Valuer" 105 (zmeth 14).1 "SlateHalves") ∈ lw_tbl := List.mem_of_getElem? (i := 580) (by decide +kernel)
theorem znp_13 : (Cond.methodLinkNest "SlateHalves$HillReader" 96 (zmeth 14).1 "SlateHalves") ∈ lw_tbl := List.mem_of_getElem? (i := 758) (by decide +kernel)
theorem znp_14 : (Cond.methodLinkNest "SlateHalves$Yard" 44 (zmeth 26).1 "SlateHalves") ∈ lw_tbl := List.mem_of_getElem? (i := 863) (by decide +kernel)
theorem znp_15 : (Cond.methodLinkNest "SlateHalves$Planner" 52 (zmeth 14).1 "SlateHalves") ∈ lw_tbl := List.mem_of_getElem? (i := 911) (by decide +kernel)
theorem znest_in : ∀ q ∈ znest, Cond.methodLinkNest q.1 q.2.1 (zmeth q.2.2.1).1 q.2.2.2 ∈ lw_tbl := by
  intro q hq
  unfold znest at hq
  simp only [List.mem_cons, List.not_mem_nil, or_false] at hq
  rcases hq with rfl | rfl | rfl | rfl | rfl | rfl | rfl | rfl | rfl | rfl | rfl | rfl | rfl | rfl | rfl | rfl
  · exact znp_0
  · exact znp_1
  · exact znp_2
  · exact znp_3
  · exact znp_4
  · exact znp_5
  · exact znp_6
  · exact znp_7
  · exact znp_8
  · exact znp_9
  · exact znp_10
  · exact znp_11
  · exact znp_12
  · exact znp_13
  · exact znp_14
  · exact znp_15
theorem zsp_0 : (Cond.stringRef (zown1 (zstr.getD 0 (0, 0, "")).1) (zstr.getD 0 (0, 0, "")).2.1 (zstr.getD 0 (0, 0, "")).2.2) ∈ lw_tbl := List.mem_of_getElem? (i := 688) (by decide +kernel)
theorem zsp_1 : (Cond.stringRef (zown1 (zstr.getD 1 (0, 0, "")).1) (zstr.getD 1 (0, 0, "")).2.1 (zstr.getD 1 (0, 0, "")).2.2) ∈ lw_tbl := List.mem_of_getElem? (i := 689) (by decide +kernel)
theorem zsp_2 : (Cond.stringRef (zown1 (zstr.getD 2 (0, 0, "")).1) (zstr.getD 2 (0, 0, "")).2.1 (zstr.getD 2 (0, 0, "")).2.2) ∈ lw_tbl := List.mem_of_getElem? (i := 690) (by decide +kernel)
theorem zsp_3 : (Cond.stringRef (zown1 (zstr.getD 3 (0, 0, "")).1) (zstr.getD 3 (0, 0, "")).2.1 (zstr.getD 3 (0, 0, "")).2.2) ∈ lw_tbl := List.mem_of_getElem? (i := 691) (by decide +kernel)
theorem zsp_4 : (Cond.stringRef (zown1 (zstr.getD 4 (0, 0, "")).1) (zstr.getD 4 (0, 0, "")).2.1 (zstr.getD 4 (0, 0, "")).2.2) ∈ lw_tbl := List.mem_of_getElem? (i := 692) (by decide +kernel)
theorem zsp_5 : (Cond.stringRef (zown1 (zstr.getD 5 (0, 0, "")).1) (zstr.getD 5 (0, 0, "")).2.1 (zstr.getD 5 (0, 0, "")).2.2) ∈ lw_tbl := List.mem_of_getElem? (i := 775) (by decide +kernel)
theorem zsp_6 : (Cond.stringRef (zown1 (zstr.getD 6 (0, 0, "")).1) (zstr.getD 6 (0, 0, "")).2.1 (zstr.getD 6 (0, 0, "")).2.2) ∈ lw_tbl := List.mem_of_getElem? (i := 835) (by decide +kernel)
theorem zs_in : ∀ i, i < 7 → (Cond.stringRef (zown1 (zstr.getD i (0, 0, "")).1) (zstr.getD i (0, 0, "")).2.1 (zstr.getD i (0, 0, "")).2.2) ∈ lw_tbl := by
  intro i hi
  match i, hi with
  | 0, _ => exact zsp_0
  | 1, _ => exact zsp_1
  | 2, _ => exact zsp_2
  | 3, _ => exact zsp_3
  | 4, _ => exact zsp_4
  | 5, _ => exact zsp_5
  | 6, _ => exact zsp_6
  | i + 7, h => exact absurd h (by omega)
theorem zq_zl_ab : (.laysStatic "SlateHalves" "ABOVE" "[I" : Jvm.Cond) ∈ lw_tbl := List.mem_of_getElem? (i := 1050) (by decide +kernel)
theorem zq_zl_cs : (.laysStatic "java/lang/String" "COMPACT_STRINGS" "Z" : Jvm.Cond) ∈ lw_tbl := List.mem_of_getElem? (i := 706) (by decide +kernel)
theorem zq_zl_fm : (.laysStatic "jdk/internal/util/Preconditions" "SIOOBE_FORMATTER" "Ljava/util/function/BiFunction;" : Jvm.Cond) ∈ lw_tbl := List.mem_of_getElem? (i := 722) (by decide +kernel)
theorem zq_zi_ab : (.initialized "SlateHalves" : Jvm.Cond) ∈ lw_tbl := List.mem_of_getElem? (i := 93) (by decide +kernel)
theorem zq_zi_cs : (.initialized "java/lang/String" : Jvm.Cond) ∈ lw_tbl := List.mem_of_getElem? (i := 109) (by decide +kernel)
theorem zq_zi_fm : (.initialized "jdk/internal/util/Preconditions" : Jvm.Cond) ∈ lw_tbl := List.mem_of_getElem? (i := 111) (by decide +kernel)
theorem zq_zo_h : (.arrayOver (.object "SlateHalves$Hill") : Jvm.Cond) ∈ lw_tbl := List.mem_of_getElem? (i := 254) (by decide +kernel)
theorem zq_zo_t : (.arrayOver (.object "SlateHalves$Tape") : Jvm.Cond) ∈ lw_tbl := List.mem_of_getElem? (i := 403) (by decide +kernel)
theorem zq_zo_b : (.arrayOver (.object "SlateHalves$Block") : Jvm.Cond) ∈ lw_tbl := List.mem_of_getElem? (i := 136) (by decide +kernel)
theorem zarr_of {s : State} {A : Array Value} {ty : FieldType} (h : (Cond.arrayClass ty).before A s = true) (hp : ∀ C, ty ≠ .object C) : ∃ cA, ArrOfT s cA ty ∧ va_RA s cA ty := by
  obtain ⟨cA, kA, comp, h1, h2, h3⟩ := Cond.arrayClass_spec h
  refine ⟨cA, fun n z => ⟨fun k h => (by cases h), kA, h2, comp, h3⟩, ?_⟩
  cases ty <;> first | exact h1 | exact absurd rfl (hp _)
theorem zarr_ofR {s : State} {A : Array Value} {C : String} (h : (Cond.arrayOver (.object C)).before A s = true) : ∃ cA, ArrOfT s cA (.object C) ∧ va_RA s cA (.object C) := by
  obtain ⟨comp, cA, kA, h1, -, h2, h3, h4⟩ := Cond.arrayOver_spec h
  exact ⟨cA, fun n z => ⟨fun k h => (by cases h), kA, h2, comp, h3⟩, kA, comp, h2, h3, h1, h4⟩
def znw : List Jvm.Cond := flatC (Jvm.Cond.and given_1 narrow_1)
def zstm (i : Nat) : Term := .string "SlateHalves$HillReader" (zstr.getD i (0, 0, "")).2.1
theorem zstm_ok : ∀ i, i < 7 → (Cond.exactly (zstm i) "java/lang/String") ∈ znw ∧ (Cond.eq (.field (zstm i) "java/lang/String" "coder" "B") (.int 0)) ∈ znw ∧ (Cond.arrayOf (.field (zstm i) "java/lang/String" "value" "[B") .byte) ∈ znw ∧ (Cond.eq (.length (.field (zstm i) "java/lang/String" "value" "[B")) (.int (Int32.ofNat ((zT0.map List.length).getD i 0)))) ∈ znw := by decide +kernel
theorem zstm_el : ∀ i, i < 7 → ∀ j, j < (zT0.map List.length).getD i 0 → (Cond.eq (.elem (.field (zstm i) "java/lang/String" "value" "[B") (.int (Int32.ofNat j))) (.int ((zT0.getD i []).getD j 0))) ∈ znw := by decide +kernel
theorem zstm_ne : ∀ i, i < 7 → ∀ j, j < 7 → i ≠ j → (Cond.not (Cond.eq (zstm i) (zstm j))) ∈ znw ∨ (Cond.not (Cond.eq (zstm j) (zstm i))) ∈ znw := by decide +kernel
theorem zab_ok : (Cond.arrayOf (.static "SlateHalves" "ABOVE" "[I") .int) ∈ znw ∧ (Cond.eq (.length (.static "SlateHalves" "ABOVE" "[I")) (.int (Int32.ofNat 7))) ∈ znw ∧ ∀ j, j < 7 → (Cond.eq (.elem (.static "SlateHalves" "ABOVE" "[I") (.int (Int32.ofNat j))) (.int (zAb.getD j 0))) ∈ znw := by decide +kernel
theorem zst_ok : (Cond.eq (.static "java/lang/String" "COMPACT_STRINGS" "Z") (.int 1)) ∈ znw ∧ (Cond.isRef (.static "jdk/internal/util/Preconditions" "SIOOBE_FORMATTER" "Ljava/util/function/BiFunction;")) ∈ znw := by decide +kernel
theorem zstart {s : State} {A : Array Value} {b : Nat} (hts : ∀ w ∈ lw_tbl, w.before A s = true) (hgv : (Jvm.Cond.and given_1 narrow_1).before A s = true) : ∃ (ρ : ZAd) (cA : Nat → ClassId) (D : va_G), ρ.1 0 = b ∧ ρ.2.2 = s.heap.size ∧ zfm ρ ∧ zEnv ρ cA D s s.heap := by
  have hn : ∀ c ∈ znw, c.before A s = true := flat_of_before _ hgv
  have hA : ∀ a : Nat, a < s.heap.size → ¬ s.heap.size ≤ a := fun a h h2 => absurd h (by omega)
  have hG : ∀ w ∈ zG, w.before A s = true := fun w hw => hts w (List.mem_filter.mp hw).1
  -- the classes
  have hk : ∀ t, ∃ q : ClassId × (Nat → Nat), t < 13 → u_Kn s (zcl t).1 (zcl t).2.1 (zcl t).2.2 q.1 q.2 := by
    intro t
    by_cases ht : t < 13
    · have hu : ∀ w ∈ u_ws (zcl t).1 (zcl t).2.1 (zcl t).2.2, w ∈ zG := fun w hw => by
        obtain ⟨a, ha, rfl⟩ := List.mem_map.mp hw
        exact zuws t ht a (by unfold zN; rw [if_neg (by omega)]; exact List.mem_range.mp ha)
      obtain ⟨cC, iS, h⟩ := u_known hG hu (hG _ (zat_in (zcw_all t ht).1))
      exact ⟨(cC, iS), fun _ => h⟩
    · exact ⟨(0, fun _ => 0), fun h => absurd h ht⟩
  obtain ⟨dq, hdq⟩ := Classical.axiomOfChoice hk
  -- rows
  obtain ⟨a0, h0⟩ := zarr_of (hG _ zw_arri) (fun C h => by cases h)
  obtain ⟨a1, h1⟩ := zarr_of (hG _ zw_arrb) (fun C h => by cases h)
  obtain ⟨a2, h2⟩ := zarr_of (hG _ zw_arrz) (fun C h => by cases h)
  obtain ⟨a3, h3⟩ := zarr_of (hG _ zw_arrl) (fun C h => by cases h)
  obtain ⟨a4, h4⟩ := zarr_ofR (hts _ zq_zo_h)
  obtain ⟨a5, h5⟩ := zarr_ofR (hts _ zq_zo_t)
  obtain ⟨a6, h6⟩ := zarr_ofR (hts _ zq_zo_b)
  -- texts
  obtain ⟨adK, adV, hS, hSe⟩ := vk_Sof (args := A) (s := s) (N := 7) (tm := zstm) (len := zT0.map List.length) (byt := zT0) (A := fun q => s.heap.size ≤ q) (by decide +kernel) (fun i hi => hn _ (zstm_ok i hi).1) (fun i hi => hn _ (zstm_ok i hi).2.1) (fun i hi => hn _ (zstm_ok i hi).2.2.1) (fun i hi => hn _ (zstm_ok i hi).2.2.2) (fun i hi j hj => hn _ (zstm_el i hi j hj)) (fun i j hi hj h => (zstm_ne i hi j hj h).elim (fun q => Or.inl (hn _ q)) (fun q => Or.inr (hn _ q))) hA
  -- statics
  obtain ⟨tA, hA1, hA2⟩ := va_Tof (args := A) (s := s) (tm := .static "SlateHalves" "ABOVE" "[I") (ty := .int) (N := 7) (f := fun j => .int (zAb.getD j 0)) (A := fun q => s.heap.size ≤ q) (by decide) (hn _ zab_ok.1) (va_eqt (hn _ zab_ok.2.1)) (fun j hj => va_eqt (hn _ (zab_ok.2.2 j hj))) hA
  obtain ⟨fv, hf1, hf2⟩ := Cond.isRef_spec (hn _ zst_ok.2)
  refine ⟨(fun k => if k = 0 then b else if k = 1 then tA else if k < 9 then adK (k - 2) else adV (k - 9), fv, s.heap.size), fun t => if t = 20 then a0 else if t = 21 then a1 else if t = 22 then a2 else if t = 23 then a3 else if t = 24 then a4 else if t = 25 then a5 else a6, (fun t => (dq t).1, fun t => (dq t).2), rfl, rfl, ?_, ⟨fun c q hq => ?_, fun k q hq => ?_⟩, fun q hq => va_Nw.of rfl (hts _ (znest_in q hq)), fun i hi => ?_, ⟨va_Zof (hts _ zq_zl_ab) (hts _ zq_zi_ab) hA1 hA, va_Zof (hts _ zq_zl_cs) (hts _ zq_zi_cs) (va_eqt (hn _ zst_ok.1)) hA, va_Zof (hts _ zq_zl_fm) (hts _ zq_zi_fm) hf1 hA⟩, ?_, hA2, va_AO.of (hts _ zq_zo_h), va_AO.of (hts _ zq_zo_t), va_AO.of (hts _ zq_zo_b)⟩
  · cases fv <;> first | exact Or.inl rfl | exact Or.inr ⟨_, rfl⟩ | cases hf2
  · have hc : c < 13 := (List.getElem?_eq_some_iff.mp hq).1
    have := Option.some.inj (hq.symm.trans (zvw c hc))
    subst this
    exact hdq c hc
  · match k, hq with
    | 0, hq => cases hq; exact h0
    | 1, hq => cases hq; exact h1
    | 2, hq => cases hq; exact h2
    | 3, hq => cases hq; exact h3
    | 4, hq => cases hq; exact h4
    | 5, hq => cases hq; exact h5
    | 6, hq => cases hq; exact h6
    | k + 7, hq => simp [ztys] at hq
  · have e : (if 2 + i = 0 then b else if 2 + i = 1 then tA else if 2 + i < 9 then adK (2 + i - 2) else adV (2 + i - 9)) = adK i := by
      rw [if_neg (by omega), if_neg (by omega), if_pos (by omega), show 2 + i - 2 = i by omega]
    show vk_R _ _ _ (if 2 + i = 0 then b else if 2 + i = 1 then tA else if 2 + i < 9 then adK (2 + i - 2) else adV (2 + i - 9)) s
    rw [e]
    refine vk_R.of (hts _ (zs_in i hi)) ?_
    have h := hSe i hi
    have e2 : zown1 (zstr.getD i (0, 0, "")).1 = "SlateHalves$HillReader" := by
      rcases (by omega : i = 0 ∨ i = 1 ∨ i = 2 ∨ i = 3 ∨ i = 4 ∨ i = 5 ∨ i = 6) with h | h | h | h | h | h | h <;> subst h <;> rfl
    rw [e2]
    exact h
  · have e1 : (fun i => (fun k => if k = 0 then b else if k = 1 then tA else if k < 9 then adK (k - 2) else adV (k - 9)) (9 + i)) = adV := by
      funext i
      show (if 9 + i = 0 then b else if 9 + i = 1 then tA else if 9 + i < 9 then adK (9 + i - 2) else adV (9 + i - 9)) = adV i
      rw [if_neg (by omega), if_neg (by omega), if_neg (by omega), show 9 + i - 9 = i by omega]
    refine ⟨fun i hi => ?_, fun i j hi hj h => ?_⟩
    · have e2 : (fun k => if k = 0 then b else if k = 1 then tA else if k < 9 then adK (k - 2) else adV (k - 9)) (2 + i) = adK i := by
        show (if 2 + i = 0 then b else if 2 + i = 1 then tA else if 2 + i < 9 then adK (2 + i - 2) else adV (2 + i - 9)) = adK i
        rw [if_neg (by omega), if_neg (by omega), if_pos (by omega), show 2 + i - 2 = i by omega]
      have h := hS.1 i hi
      rw [← e2, ← congrFun e1 i] at h
      exact h
    · have e2 : ∀ i, i < 7 → (fun k => if k = 0 then b else if k = 1 then tA else if k < 9 then adK (k - 2) else adV (k - 9)) (2 + i) = adK i := fun i hi => by
        show (if 2 + i = 0 then b else if 2 + i = 1 then tA else if 2 + i < 9 then adK (2 + i - 2) else adV (2 + i - 9)) = adK i
        rw [if_neg (by omega), if_neg (by omega), if_pos (by omega), show 2 + i - 2 = i by omega]
      have h2 : adK i = adK j := by rw [← e2 i hi, ← e2 j hj]; exact h
      exact hS.2 i j hi hj h2
end
section
-- ===== end of PART A; then your names; then what follows =====
/-! THE CLAIM OUT OF ONE WALK OF THE LAW'S BODY. Your part is whole_start (and what it stands on); all else here is the same for every law, but numbers. -/
def R_law : String := "SlateHalvesLaw"
def lw_P (b : Addr) (xs : List Int32) (args : Array Value) (s : State) : Prop := args = #[.ref b] ∧ s.IntsAt b xs ∧ xs.length ≤ 3072 ∧ (Jvm.Cond.and given_1 narrow_1).before args s = true
def lw_Q (_ : Array Value) (s : State) (o : Outcome) (t : State) : Prop := o = .returned (some (.int 1)) ∧ Framed s o t [] 600000 7302249
def lw_Z (below : List Frame) (a : Array Value) (s : State) : State → Prop := fun t => ∃ o, t.status = .running ∧ Ended t below o ∧ lw_Q a s o t
/-- the law's own end, with 1 on the stack, nothing written that was there before, its room as the claim has it -/
theorem lw_ret {p : Program} {l : Launch} {e : Env} {s : State} {m : MethodId} {below : List Frame} {meth : Method} {c : Code} {b : Nat} (hx : p.tables.exec = Jvm.exec) (hb : c.code = code) (hr : meth.sig.returnType = ret) (hlocks : meth.locks = false) {pc : Nat} {H : Heap} {ls : Array Slot} (hdg : decode code pc = .ok (.ireturn, 1)) : W p l e room_1 s m #[Value.ref b] below meth c H [] 600000 7302249 (lw_Z below #[Value.ref b] s) (F0 m pc ls [.int 1]) := by
  intro T hT X
  obtain ⟨fs, hret, hrun, hended, hW, hframe⟩ := X.leave (v := some (.int 1)) (hlocks := hlocks) (fun h => by rw [hr] at h; cases h)
  have hmeth' : T.vm.method? m = some meth := X.method'
  refine ⟨T.setFrames fs, ?_, .returned (some (.int 1)), hrun, hended, rfl, ⟨_, rfl⟩, hW, hframe⟩
  jvm_step X.here [X.here.top, hx, hb, hdg, hmeth', hr, ret, narrow_b1]
  (try refine ⟨rfl, ?_⟩); (try refine ⟨rfl, ?_⟩)
  first | (intro acts; rw [hret _ acts rfl rfl rfl]) | rw [hret _ _ rfl rfl rfl]
  exact Steps.refl _
/-- what holds at the law's entry: the machine, the code, the tables' words (any of lw_tbl by 'hts w (by decide +kernel)'), the script of L ints xs at the cell b, what the Statement gives of the start (any of its parts by flat_of_before) -/
def lw_At (p : Program) (s : State) (m : MethodId) (meth : Method) (c : Code) (b L : Nat) (xs : Nat → Int32) : Prop :=
  p.tables.exec = Jvm.exec ∧ c.code = code ∧ meth.sig.returnType = ret ∧ c.maxLocals = 4 ∧ s.vm.findClass R_law = some m.cls ∧ (∀ w ∈ lw_tbl, w.before #[Value.ref b] s = true) ∧ va_X b L xs s s.heap ∧ b < s.heap.size ∧ meth.locks = false ∧ (Jvm.Cond.and given_1 narrow_1).before #[Value.ref b] s = true
-- ===== YOUR PART BEGINS =====
def zLaw : Prop := ∀ (L : Nat) (xs : Nat → Int32), L ≤ 3072 → ∃ (d f : Nat) (M' : ZMem), d ≤ 1000 ∧ zr (some (L, xs)) d f 0 (0, [(0, .ref 0)], []) zM0 = some (some (.int 1), M') ∧ zn M' ≤ 600000 ∧ zc M' ≤ 7302249
set_option maxRecDepth 10000 in
theorem zwhole (hlaw : zLaw) {p : Program} {e : Env} {s : State} {m : MethodId} {below : List Frame} {meth : Method} {c : Code} (l : Launch) {b L : Nat} {xs : Nat → Int32} (hL : L ≤ 3072) (C0 : lw_At p s m meth c b L xs) : W p l e room_1 s m #[Value.ref b] below meth c s.heap [] 0 0 (lw_Z below #[Value.ref b] s) (entryFrame m ([Value.ref b] : List Value).toArray 4) := by
  obtain ⟨hx, hb, hr, hml, hown, hts, hX, hbl, hlocks, hgv⟩ := C0
  obtain ⟨ρ, cA, D, e0, eb, hf, hE⟩ := zstart (b := b) hts hgv
  obtain ⟨d, f, M', hd, hrun, hn, hc⟩ := hlaw L xs hL
  have F : zFx p s m #[Value.ref b] meth c ρ cA D 0 := ⟨by decide, hx, hb, hml, hown, fun w hw => hts w (List.mem_filter.mp hw).1, fun h => absurd h (by decide), hf, hE, by rw [eb]; exact Nat.le_refl _⟩
  have hl := lv_entry ([.ref b]) (n := 4) (Nat.le_of_ble_eq_true rfl)
  rw [lg_entry_eq]
  generalize (lg_sl ([.ref b]) ++ List.replicate (4 - (lg_sl ([.ref b])).length) Slot.unset).toArray = ls at hl ⊢
  have ead : zcv ρ (.ref 0) = .ref b := by rw [zcv_ne (by omega), show zadr ρ 0 = ρ.1 0 from if_pos (by omega), e0]
  have hl : lv_has ls (zml 0) (zcl2 ρ [(0, .ref 0)]) := by
    show lv_has ls 4 [(0, zcv ρ (.ref 0))]
    rw [ead]
    exact hl
  have hR : zRl ρ cA D s zM0 s.heap [] 0 := ⟨⟨Nat.le_refl _, fun p hp => ⟨rfl, fun _ => rfl, fun _ => rfl⟩⟩, fun k q h => absurd (zws_of h).1 (by show ¬ k + 20 < 20; omega), by rw [eb]; rfl, va_S.rf⟩
  have hsc : zSc (some (L, xs)) ρ s := fun L' xs' h => by
    cases h
    rw [e0, eb]
    exact ⟨hX, hbl, by omega⟩
  refine zrun (l := l) hf f (some (L, xs)) d 0 (0, [(0, .ref 0)], []) zM0 _ M' F hsc ⟨by show d ≤ 2048; omega, by show 60 * d ≤ 84000; omega⟩ hrun (by show 0 + (zn M' - zn zM0) ≤ 600000; omega) (by show 0 + (zc M' - zc zM0) ≤ 7302249; omega) hl hR ?_
  intro pc i st ls' H' locs' hi hz hr'
  unfold zend at hz
  split at hz
  · split at hz
    · split at hz
      · cases hz
        refine va_forget (fun q hq => by have := hr'.2.2.2.2.2 q hq; rw [eb] at this; exact this) ?_
        refine W.widen (k := 600000) (n := 7302249) (by omega) (by omega) ?_
        exact lw_ret hx hb hr hlocks (zdec (k := 0) (by decide) hi rfl)
      · cases hz
    · cases hz
  · split at hz
    · cases hz
    · cases hz
  · split at hz
    · split at hz <;> cases hz
    · cases hz
  · split at hz
    · split at hz <;> cases hz
    · cases hz
  · split at hz <;> cases hz
  · cases hz
end
section
/-! RULES: from a frame of which some locals are known, the abstract machine comes to an end -/
def zhas (l L : List (Nat × Value)) : Prop := ∀ i v, zget L i = some v → zget l i = some v
theorem zhas_rf (l : List (Nat × Value)) : zhas l l := fun _ _ h => h
theorem zget_nil (i : Nat) : zget [] i = none := rfl
theorem zget_cons (j : Nat) (w : Value) (r : List (Nat × Value)) (i : Nat) : zget ((j, w) :: r) i = if j = i then some w else zget r i := rfl
/-- a store keeps what is elsewhere, but for a long whose second half it takes -/
theorem zget_st1 {l : List (Nat × Value)} {i j : Nat} {v w : Value} (h : zget l j = some w) (hj : j ≠ i) (hc : j + 1 = i → w.category = 1) : zget (zst1 l i v) j = some w := by
  unfold zst1
  rw [zget_cons, if_neg (fun q => hj q.symm)]
  induction l with
  | nil => cases h
  | cons a r ih =>
    obtain ⟨k, u⟩ := a
    rw [zget_cons] at h
    rw [List.filter_cons]
    by_cases hk : k = j
    · rw [if_pos hk] at h
      cases h
      have hb : (!((k, w).1 == i) && !((k, w).1 + 1 == i && (k, w).2.category == 2)) = true := by
        by_cases h1 : k + 1 = i
        · have := hc (by omega)
          simp [this, hk, hj]
        · simp [h1, hk, hj]
          omega
      rw [if_pos hb, zget_cons, if_pos hk]
    · rw [if_neg hk] at h
      split
      · rw [zget_cons, if_neg hk]; exact ih h
      · exact ih h
theorem zget_st1_self {l : List (Nat × Value)} {i : Nat} {v : Value} : zget (zst1 l i v) i = some v := by
  unfold zst1
  rw [zget_cons, if_pos rfl]
/-- the known locals behind a store, given their list: each is the new one or a known one that the store leaves -/
def zleft (L : List (Nat × Value)) (i : Nat) (v : Value) : List (Nat × Value) → Prop
  | [] => True
  | (j, w) :: r => ((j = i ∧ w = v) ∨ (j ≠ i ∧ zget L j = some w ∧ (j + 1 = i → w.category = 1))) ∧ zleft L i v r
theorem zhas_st {l L L' : List (Nat × Value)} {i : Nat} {v : Value} (h : zhas l L) (hl : zleft L i v L') : zhas (zst1 l i v) L' := by
  intro j w hj
  induction L' with
  | nil => cases hj
  | cons a r ih =>
    obtain ⟨k, u⟩ := a
    obtain ⟨h1, h2⟩ := hl
    rw [zget_cons] at hj
    split at hj
    · next e =>
      cases hj
      subst e
      rcases h1 with ⟨rfl, rfl⟩ | ⟨h3, h4, h5⟩
      · exact zget_st1_self
      · exact zget_st1 (h _ _ h4) h3 h5
    · exact ih h2 hj
/-- fewer known locals -/
def zsub (L : List (Nat × Value)) : List (Nat × Value) → Prop
  | [] => True
  | (j, w) :: r => zget L j = some w ∧ zsub L r
theorem zhas_sub {l L L' : List (Nat × Value)} (h : zhas l L) (hl : zsub L L') : zhas l L' := by
  intro j w hj
  induction L' with
  | nil => cases hj
  | cons a r ih =>
    obtain ⟨k, u⟩ := a
    obtain ⟨h1, h2⟩ := hl
    rw [zget_cons] at hj
    split at hj
    · next e => cases hj; subst e; exact h _ _ h1
    · exact ih h2 hj
theorem zrf_cat (r : Option Nat) : (zrf r).category = 1 := by cases r <;> rfl
/-- more fuel does no harm -/
theorem zr_fuel : ∀ (f : Nat) (sc : Option (Nat × (Nat → Int32))) (d k : Nat) (g : ZFr) (M : ZMem) (o : Option Value × ZMem), zr sc d f k g M = some o → ∀ f', f ≤ f' → zr sc d f' k g M = some o := by
  intro f
  induction f with
  | zero => intro sc d k g M o h; cases h
  | succ f ih =>
    intro sc d k g M o h f' hf
    obtain ⟨f1, rfl⟩ : ∃ f1, f' = f1 + 1 := ⟨f' - 1, by omega⟩
    have hf1 : f ≤ f1 := by omega
    unfold zr at h ⊢
    cases hi : zi k g.1 with
    | none => rw [hi] at h; cases h
    | some i =>
      rw [hi] at h
      simp only at h ⊢
      cases hs : zs sc d k g.1 g.2.1 g.2.2 M i with
      | some x =>
        obtain ⟨g1, M1⟩ := x
        rw [hs] at h
        exact ih _ _ _ _ _ _ h _ hf1
      | none =>
        rw [hs] at h
        simp only at h ⊢
        cases hc : zcall k i g.2.2 M with
        | none => rw [hc] at h; exact h
        | some x =>
          obtain ⟨q, as, r⟩ := x
          rw [hc] at h
          cases d with
          | zero => cases h
          | succ d' =>
            simp only at h ⊢
            cases hin : zr none d' f q (0, lv_args 0 as, []) M with
            | none => rw [hin] at h; cases h
            | some y =>
              obtain ⟨v1, M1⟩ := y
              rw [hin] at h
              rw [ih _ _ _ _ _ _ hin _ hf1]
              exact ih _ _ _ _ _ _ h _ hf1
def zgo (sc : Option (Nat × (Nat → Int32))) (d k pc : Nat) (L : List (Nat × Value)) (st : List Value) (M : ZMem) (o : Option Value × ZMem) : Prop := ∀ l, zhas l L → ∃ f, zr sc d f k (pc, l, st) M = some o
/-- a method, from its arguments -/
def zrn (d k : Nat) (as : List Value) (M : ZMem) (o : Option Value × ZMem) : Prop := ∃ f, zr none d f k (0, lv_args 0 as, []) M = some o
theorem zrn_of {d k : Nat} {as : List Value} {L : List (Nat × Value)} {M : ZMem} {o : Option Value × ZMem} (hL : lv_args 0 as = L) (h : zgo none d k 0 L [] M o) : zrn d k as M o := by
  subst hL
  exact h _ (zhas_rf _)
section ZG
variable {sc : Option (Nat × (Nat → Int32))} {d k pc : Nat} {L : List (Nat × Value)} {st : List Value} {M : ZMem} {o : Option Value × ZMem}
theorem zgo_sub {L' : List (Nat × Value)} (hl : zsub L L') (h : zgo sc d k pc L' st M o) : zgo sc d k pc L st M o := fun l hh => h l (zhas_sub hh hl)
theorem zgo_s {i : Instr} {pc' : Nat} {L' : List (Nat × Value)} {st' : List Value} {M' : ZMem} (hi : zi k pc = some i) (hs : ∀ l, zhas l L → ∃ l', zhas l' L' ∧ zs sc d k pc l st M i = some ((pc', l', st'), M')) (h : zgo sc d k pc' L' st' M' o) : zgo sc d k pc L st M o := by
  intro l hl
  obtain ⟨l', hl', e⟩ := hs l hl
  obtain ⟨f, hf⟩ := h l' hl'
  refine ⟨f + 1, ?_⟩
  unfold zr
  simp only [hi, e]
  exact hf
theorem zgo_p {i : Instr} {pc' : Nat} {st' : List Value} {M' : ZMem} (hi : zi k pc = some i) (hs : ∀ l, zs sc d k pc l st M i = some ((pc', l, st'), M')) (h : zgo sc d k pc' L st' M' o) : zgo sc d k pc L st M o := zgo_s hi (fun l hl => ⟨l, hl, hs l⟩) h
theorem zgo_r {i : Instr} {v : Option Value} (hi : zi k pc = some i) (hs : ∀ l, zs sc d k pc l st M i = none) (hc : zcall k i st M = none) (he : zend k i st = some v) (ho : o = (v, M)) : zgo sc d k pc L st M o := by
  intro l hl
  refine ⟨1, ?_⟩
  unfold zr
  simp only [hi, hs, hc, he, ho]
theorem zgo_c {i : Instr} {q : Nat} {as r : List Value} {v : Option Value} {M1 : ZMem} (hi : zi k pc = some i) (hs : ∀ l, zs sc (d + 1) k pc l st M i = none) (hc : zcall k i st M = some (q, as, r)) (hq : zrn d q as M (v, M1)) (h : zgo sc (d + 1) k (pc + 3) L (v.toList ++ r) M1 o) : zgo sc (d + 1) k pc L st M o := by
  intro l hl
  obtain ⟨f1, h1⟩ := hq
  obtain ⟨f2, h2⟩ := h l hl
  refine ⟨max f1 f2 + 1, ?_⟩
  unfold zr
  simp only [hi, hs, hc]
  rw [zr_fuel _ _ _ _ _ _ _ h1 (max f1 f2) (Nat.le_max_left _ _)]
  exact zr_fuel _ _ _ _ _ _ _ h2 (max f1 f2) (Nat.le_max_right _ _)
-- constants, locals
theorem zo_iconst {n : Int} {v : Int32} {p' : Nat} (hi : zi k pc = some (.iconst n)) (hp : pc + 1 = p') (hv : Int32.ofInt n = v) (h : zgo sc d k p' L (.int v :: st) M o) : zgo sc d k pc L st M o := by
  subst hp; subst hv; exact zgo_p hi (fun l => rfl) h
theorem zo_bipush {n : Int} {v : Int32} {p' : Nat} (hi : zi k pc = some (.bipush n)) (hp : pc + 2 = p') (hv : (Int8.ofInt n).toInt32 = v) (h : zgo sc d k p' L (.int v :: st) M o) : zgo sc d k pc L st M o := by
  subst hp; subst hv; exact zgo_p hi (fun l => rfl) h
theorem zo_sipush {n : Int} {v : Int32} {p' : Nat} (hi : zi k pc = some (.sipush n)) (hp : pc + 3 = p') (hv : (Int16.ofInt n).toInt32 = v) (h : zgo sc d k p' L (.int v :: st) M o) : zgo sc d k pc L st M o := by
  subst hp; subst hv; exact zgo_p hi (fun l => rfl) h
theorem zo_lconst {n : Fin 2} {v : Int64} {p' : Nat} (hi : zi k pc = some (.lconst n)) (hp : pc + 1 = p') (hv : Int64.ofNat (n : Nat) = v) (h : zgo sc d k p' L (.long v :: st) M o) : zgo sc d k pc L st M o := by
  subst hp; subst hv; exact zgo_p hi (fun l => rfl) h
theorem zo_ldcI {n w : Nat} {v : Int32} {p' : Nat} (hi : zi k pc = some (.ldc n)) (hp : pc + 2 = p') (hl : zlk k n = none) (hv : zki k n = some (v, w)) (h : zgo sc d k p' L (.int v :: st) M o) : zgo sc d k pc L st M o := by
  subst hp; exact zgo_p hi (fun l => by simp [zs, hl, hv]) h
theorem zo_ldcS {n a x y : Nat} {p' : Nat} (hi : zi k pc = some (.ldc n)) (hp : pc + 2 = p') (hl : zlk k n = some (9, a, x, y)) (h : zgo sc d k p' L (.ref (2 + a) :: st) M o) : zgo sc d k pc L st M o := by
  subst hp; exact zgo_p hi (fun l => by simp [zs, hl]) h
theorem zo_ldcw {n w : Nat} {v : Int32} {p' : Nat} (hi : zi k pc = some (.ldc_w n)) (hp : pc + 3 = p') (hv : zki k n = some (v, w)) (h : zgo sc d k p' L (.int v :: st) M o) : zgo sc d k pc L st M o := by
  subst hp; exact zgo_p hi (fun l => by simp [zs, hv]) h
theorem zo_ldc2 {n w : Nat} {v : Int64} {p' : Nat} (hi : zi k pc = some (.ldc2_w n)) (hp : pc + 3 = p') (hv : zkl k n = some (v, w)) (h : zgo sc d k p' L (.long v :: st) M o) : zgo sc d k pc L st M o := by
  subst hp; exact zgo_p hi (fun l => by simp [zs, hv]) h
theorem zo_null {p' : Nat} (hi : zi k pc = some .aconst_null) (hp : pc + 1 = p') (h : zgo sc d k p' L (.null :: st) M o) : zgo sc d k pc L st M o := by
  subst hp; exact zgo_p hi (fun l => rfl) h
theorem zo_iload_n {n : Fin 4} {x : Int32} {p' : Nat} (hi : zi k pc = some (.iload_n n)) (hp : pc + 1 = p') (hl : zget L n = some (.int x)) (h : zgo sc d k p' L (.int x :: st) M o) : zgo sc d k pc L st M o := by
  subst hp; exact zgo_s hi (fun l hh => ⟨l, hh, by simp [zs, hh _ _ hl]⟩) h
theorem zo_iload {n : Nat} {x : Int32} {p' : Nat} (hi : zi k pc = some (.iload n)) (hp : pc + 2 = p') (hl : zget L n = some (.int x)) (h : zgo sc d k p' L (.int x :: st) M o) : zgo sc d k pc L st M o := by
  subst hp; exact zgo_s hi (fun l hh => ⟨l, hh, by simp [zs, hh _ _ hl]⟩) h
theorem zo_lload_n {n : Fin 4} {x : Int64} {p' : Nat} (hi : zi k pc = some (.lload_n n)) (hp : pc + 1 = p') (hl : zget L n = some (.long x)) (h : zgo sc d k p' L (.long x :: st) M o) : zgo sc d k pc L st M o := by
  subst hp; exact zgo_s hi (fun l hh => ⟨l, hh, by simp [zs, hh _ _ hl]⟩) h
theorem zo_lload {n : Nat} {x : Int64} {p' : Nat} (hi : zi k pc = some (.lload n)) (hp : pc + 2 = p') (hl : zget L n = some (.long x)) (h : zgo sc d k p' L (.long x :: st) M o) : zgo sc d k pc L st M o := by
  subst hp; exact zgo_s hi (fun l hh => ⟨l, hh, by simp [zs, hh _ _ hl]⟩) h
theorem zo_aload_n {n : Fin 4} {r : Option Nat} {p' : Nat} (hi : zi k pc = some (.aload_n n)) (hp : pc + 1 = p') (hl : zget L n = some (zrf r)) (h : zgo sc d k p' L (zrf r :: st) M o) : zgo sc d k pc L st M o := by
  subst hp; exact zgo_s hi (fun l hh => ⟨l, hh, by cases r <;> simp [zs, hh _ _ hl, zrf]⟩) h
theorem zo_aload {n : Nat} {r : Option Nat} {p' : Nat} (hi : zi k pc = some (.aload n)) (hp : pc + 2 = p') (hl : zget L n = some (zrf r)) (h : zgo sc d k p' L (zrf r :: st) M o) : zgo sc d k pc L st M o := by
  subst hp; exact zgo_s hi (fun l hh => ⟨l, hh, by cases r <;> simp [zs, hh _ _ hl, zrf]⟩) h
theorem zo_istore_n {n : Fin 4} {x : Int32} {p' : Nat} {L' : List (Nat × Value)} (hi : zi k pc = some (.istore_n n)) (hp : pc + 1 = p') (hm : (n : Nat) < zml k) (hl : zleft L n (.int x) L') (h : zgo sc d k p' L' st M o) : zgo sc d k pc L (.int x :: st) M o := by
  subst hp; exact zgo_s hi (fun l hh => ⟨_, zhas_st hh hl, by simp [zs, hm]⟩) h
theorem zo_istore {n : Nat} {x : Int32} {p' : Nat} {L' : List (Nat × Value)} (hi : zi k pc = some (.istore n)) (hp : pc + 2 = p') (hm : n < zml k) (hl : zleft L n (.int x) L') (h : zgo sc d k p' L' st M o) : zgo sc d k pc L (.int x :: st) M o := by
  subst hp; exact zgo_s hi (fun l hh => ⟨_, zhas_st hh hl, by simp [zs, hm]⟩) h
theorem zo_astore_n {n : Fin 4} {r : Option Nat} {p' : Nat} {L' : List (Nat × Value)} (hi : zi k pc = some (.astore_n n)) (hp : pc + 1 = p') (hm : (n : Nat) < zml k) (hl : zleft L n (zrf r) L') (h : zgo sc d k p' L' st M o) : zgo sc d k pc L (zrf r :: st) M o := by
  subst hp; exact zgo_s hi (fun l hh => ⟨_, zhas_st hh hl, by cases r <;> simp [zs, hm, zrf]⟩) h
theorem zo_astore {n : Nat} {r : Option Nat} {p' : Nat} {L' : List (Nat × Value)} (hi : zi k pc = some (.astore n)) (hp : pc + 2 = p') (hm : n < zml k) (hl : zleft L n (zrf r) L') (h : zgo sc d k p' L' st M o) : zgo sc d k pc L (zrf r :: st) M o := by
  subst hp; exact zgo_s hi (fun l hh => ⟨_, zhas_st hh hl, by cases r <;> simp [zs, hm, zrf]⟩) h
theorem zo_iinc {n : Nat} {c : Int} {x v : Int32} {p' : Nat} {L' : List (Nat × Value)} (hi : zi k pc = some (.iinc n c)) (hp : pc + 3 = p') (hm : n < zml k) (hx : zget L n = some (.int x)) (hv : x + Int32.ofInt c = v) (hl : zleft L n (.int v) L') (h : zgo sc d k p' L' st M o) : zgo sc d k pc L st M o := by
  subst hp; subst hv; exact zgo_s hi (fun l hh => ⟨_, zhas_st hh hl, by simp [zs, hm, hh _ _ hx]⟩) h
end ZG
end
section
section ZG2
variable {sc : Option (Nat × (Nat → Int32))} {d k pc : Nat} {L : List (Nat × Value)} {st : List Value} {M M' : ZMem} {o : Option Value × ZMem} {p' : Nat}
theorem zo_iadd {x y : Int32} (hi : zi k pc = some .iadd) (hp : pc + 1 = p') (h : zgo sc d k p' L (.int (x + y) :: st) M o) : zgo sc d k pc L (.int y :: .int x :: st) M o := by
  subst hp; exact zgo_p hi (fun l => rfl) h
theorem zo_isub {x y : Int32} (hi : zi k pc = some .isub) (hp : pc + 1 = p') (h : zgo sc d k p' L (.int (x - y) :: st) M o) : zgo sc d k pc L (.int y :: .int x :: st) M o := by
  subst hp; exact zgo_p hi (fun l => rfl) h
theorem zo_imul {x y : Int32} (hi : zi k pc = some .imul) (hp : pc + 1 = p') (h : zgo sc d k p' L (.int (x * y) :: st) M o) : zgo sc d k pc L (.int y :: .int x :: st) M o := by
  subst hp; exact zgo_p hi (fun l => rfl) h
theorem zo_idiv {x y : Int32} (hi : zi k pc = some .idiv) (hp : pc + 1 = p') (hy : ¬ y = 0) (h : zgo sc d k p' L (.int (x / y) :: st) M o) : zgo sc d k pc L (.int y :: .int x :: st) M o := by
  subst hp; exact zgo_p hi (fun l => if_neg hy) h
theorem zo_irem {x y : Int32} (hi : zi k pc = some .irem) (hp : pc + 1 = p') (hy : ¬ y = 0) (h : zgo sc d k p' L (.int (x - x / y * y) :: st) M o) : zgo sc d k pc L (.int y :: .int x :: st) M o := by
  subst hp; exact zgo_p hi (fun l => if_neg hy) h
theorem zo_ineg {x : Int32} (hi : zi k pc = some .ineg) (hp : pc + 1 = p') (h : zgo sc d k p' L (.int (-x) :: st) M o) : zgo sc d k pc L (.int x :: st) M o := by
  subst hp; exact zgo_p hi (fun l => rfl) h
theorem zo_iand {x y : Int32} (hi : zi k pc = some .iand) (hp : pc + 1 = p') (h : zgo sc d k p' L (.int (x &&& y) :: st) M o) : zgo sc d k pc L (.int y :: .int x :: st) M o := by
  subst hp; exact zgo_p hi (fun l => rfl) h
theorem zo_ior {x y : Int32} (hi : zi k pc = some .ior) (hp : pc + 1 = p') (h : zgo sc d k p' L (.int (x ||| y) :: st) M o) : zgo sc d k pc L (.int y :: .int x :: st) M o := by
  subst hp; exact zgo_p hi (fun l => rfl) h
theorem zo_ixor {x y : Int32} (hi : zi k pc = some .ixor) (hp : pc + 1 = p') (h : zgo sc d k p' L (.int (x ^^^ y) :: st) M o) : zgo sc d k pc L (.int y :: .int x :: st) M o := by
  subst hp; exact zgo_p hi (fun l => rfl) h
theorem zo_ishl {x y : Int32} (hi : zi k pc = some .ishl) (hp : pc + 1 = p') (h : zgo sc d k p' L (.int (x <<< (y &&& 31)) :: st) M o) : zgo sc d k pc L (.int y :: .int x :: st) M o := by
  subst hp; exact zgo_p hi (fun l => rfl) h
theorem zo_ishr {x y : Int32} (hi : zi k pc = some .ishr) (hp : pc + 1 = p') (h : zgo sc d k p' L (.int (x >>> (y &&& 31)) :: st) M o) : zgo sc d k pc L (.int y :: .int x :: st) M o := by
  subst hp; exact zgo_p hi (fun l => rfl) h
theorem zo_iushr {x y : Int32} (hi : zi k pc = some .iushr) (hp : pc + 1 = p') (h : zgo sc d k p' L (.int (x.toUInt32 >>> (y.toUInt32 &&& Int32.toUInt32 31)).toInt32 :: st) M o) : zgo sc d k pc L (.int y :: .int x :: st) M o := by
  subst hp; exact zgo_p hi (fun l => rfl) h
theorem zo_lshl {x : Int64} {y : Int32} (hi : zi k pc = some .lshl) (hp : pc + 1 = p') (h : zgo sc d k p' L (.long (x <<< (y.toInt64 &&& 63)) :: st) M o) : zgo sc d k pc L (.int y :: .long x :: st) M o := by
  subst hp; exact zgo_p hi (fun l => rfl) h
theorem zo_lor {x y : Int64} (hi : zi k pc = some .lor) (hp : pc + 1 = p') (h : zgo sc d k p' L (.long (x ||| y) :: st) M o) : zgo sc d k pc L (.long y :: .long x :: st) M o := by
  subst hp; exact zgo_p hi (fun l => rfl) h
theorem zo_land {x y : Int64} (hi : zi k pc = some .land) (hp : pc + 1 = p') (h : zgo sc d k p' L (.long (x &&& y) :: st) M o) : zgo sc d k pc L (.long y :: .long x :: st) M o := by
  subst hp; exact zgo_p hi (fun l => rfl) h
theorem zo_lcmp {x y : Int64} (hi : zi k pc = some .lcmp) (hp : pc + 1 = p') (h : zgo sc d k p' L (.int (lg_cmp x y) :: st) M o) : zgo sc d k pc L (.long y :: .long x :: st) M o := by
  subst hp; exact zgo_p hi (fun l => rfl) h
theorem zo_i2l {x : Int32} (hi : zi k pc = some .i2l) (hp : pc + 1 = p') (h : zgo sc d k p' L (.long x.toInt64 :: st) M o) : zgo sc d k pc L (.int x :: st) M o := by
  subst hp; exact zgo_p hi (fun l => rfl) h
theorem zo_l2i {x : Int64} (hi : zi k pc = some .l2i) (hp : pc + 1 = p') (h : zgo sc d k p' L (.int x.toInt32 :: st) M o) : zgo sc d k pc L (.long x :: st) M o := by
  subst hp; exact zgo_p hi (fun l => rfl) h
theorem zo_i2b {x : Int32} (hi : zi k pc = some .i2b) (hp : pc + 1 = p') (h : zgo sc d k p' L (.int x.toInt8.toInt32 :: st) M o) : zgo sc d k pc L (.int x :: st) M o := by
  subst hp; exact zgo_p hi (fun l => rfl) h
theorem zo_i2s {x : Int32} (hi : zi k pc = some .i2s) (hp : pc + 1 = p') (h : zgo sc d k p' L (.int x.toInt16.toInt32 :: st) M o) : zgo sc d k pc L (.int x :: st) M o := by
  subst hp; exact zgo_p hi (fun l => rfl) h
theorem zo_i2c {x : Int32} (hi : zi k pc = some .i2c) (hp : pc + 1 = p') (h : zgo sc d k p' L (.int (x.toUInt32 % 65536).toInt32 :: st) M o) : zgo sc d k pc L (.int x :: st) M o := by
  subst hp; exact zgo_p hi (fun l => rfl) h
theorem zo_dup {v : Value} (hi : zi k pc = some .dup) (hp : pc + 1 = p') (hv : v.category = 1) (h : zgo sc d k p' L (v :: v :: st) M o) : zgo sc d k pc L (v :: st) M o := by
  subst hp; exact zgo_p hi (fun l => if_pos hv) h
theorem zo_dup2 {v w : Value} (hi : zi k pc = some .dup2) (hp : pc + 1 = p') (hv : v.category = 1 ∧ w.category = 1) (h : zgo sc d k p' L (v :: w :: v :: w :: st) M o) : zgo sc d k pc L (v :: w :: st) M o := by
  subst hp; exact zgo_p hi (fun l => if_pos hv) h
theorem zo_pop {v : Value} (hi : zi k pc = some .pop) (hp : pc + 1 = p') (hv : v.category = 1) (h : zgo sc d k p' L st M o) : zgo sc d k pc L (v :: st) M o := by
  subst hp; exact zgo_p hi (fun l => if_pos hv) h
-- branches
theorem zo_goto {n : Int} (hi : zi k pc = some (.goto n)) (hp : zjmp pc n = some p') (h : zgo sc d k p' L st M o) : zgo sc d k pc L st M o := zgo_p hi (fun l => by simp [zs, hp]) h
theorem zo_ifT {c : ClassFile.Cond} {n : Int} {x : Int32} (hi : zi k pc = some (.ifCond c n)) (hp : zjmp pc n = some p') (hc : zcnd c x 0) (h : zgo sc d k p' L st M o) : zgo sc d k pc L (.int x :: st) M o := zgo_p hi (fun l => by simp [zs, hp, (zcndB_iff c x 0).mpr hc]) h
theorem zo_ifF {c : ClassFile.Cond} {n : Int} {x : Int32} {q : Nat} (hi : zi k pc = some (.ifCond c n)) (hq : zjmp pc n = some q) (hp : pc + 3 = p') (hc : ¬ zcnd c x 0) (h : zgo sc d k p' L st M o) : zgo sc d k pc L (.int x :: st) M o := by
  subst hp
  have hb : zcndB c x 0 = false := by
    cases hz : zcndB c x 0 with
    | false => rfl
    | true => exact absurd ((zcndB_iff c x 0).mp hz) hc
  exact zgo_p hi (fun l => by simp [zs, hq, hb]) h
theorem zo_icT {c : ClassFile.Cond} {n : Int} {x y : Int32} (hi : zi k pc = some (.if_icmp c n)) (hp : zjmp pc n = some p') (hc : zcnd c x y) (h : zgo sc d k p' L st M o) : zgo sc d k pc L (.int y :: .int x :: st) M o := zgo_p hi (fun l => by simp [zs, hp, (zcndB_iff c x y).mpr hc]) h
theorem zo_icF {c : ClassFile.Cond} {n : Int} {x y : Int32} {q : Nat} (hi : zi k pc = some (.if_icmp c n)) (hq : zjmp pc n = some q) (hp : pc + 3 = p') (hc : ¬ zcnd c x y) (h : zgo sc d k p' L st M o) : zgo sc d k pc L (.int y :: .int x :: st) M o := by
  subst hp
  have hb : zcndB c x y = false := by
    cases hz : zcndB c x y with
    | false => rfl
    | true => exact absurd ((zcndB_iff c x y).mp hz) hc
  exact zgo_p hi (fun l => by simp [zs, hq, hb]) h
theorem zo_nullT {n : Int} (hi : zi k pc = some (.ifnull n)) (hp : zjmp pc n = some p') (h : zgo sc d k p' L st M o) : zgo sc d k pc L (zrf none :: st) M o := zgo_p hi (fun l => by simp [zs, zrf, hp]) h
theorem zo_nullF {n : Int} {q : Nat} (hi : zi k pc = some (.ifnull n)) (hp : pc + 3 = p') (hq : q ≠ 18) (h : zgo sc d k p' L st M o) : zgo sc d k pc L (zrf (some q) :: st) M o := by
  subst hp; exact zgo_p hi (fun l => by simp [zs, zrf, hq]) h
theorem zo_nonnullF {n : Int} (hi : zi k pc = some (.ifnonnull n)) (hp : pc + 3 = p') (h : zgo sc d k p' L st M o) : zgo sc d k pc L (zrf none :: st) M o := by
  subst hp; exact zgo_p hi (fun l => by simp [zs, zrf]) h
theorem zo_nonnullT {n : Int} {q : Nat} (hi : zi k pc = some (.ifnonnull n)) (hp : zjmp pc n = some p') (hq : q ≠ 18) (h : zgo sc d k p' L st M o) : zgo sc d k pc L (zrf (some q) :: st) M o := zgo_p hi (fun l => by simp [zs, zrf, hp, hq]) h
theorem zo_table {df lo hi' : Int} {os : Array Int} {x : Int32} {n : Int} (hi : zi k pc = some (.tableswitch df lo hi' os)) (hl : os.toList.length = (hi' - lo + 1).toNat ∧ lo ≤ hi') (hn : zsel x (zkeys lo os.toList) df = n) (hp : zjmp pc n = some p') (h : zgo sc d k p' L st M o) : zgo sc d k pc L (.int x :: st) M o := by
  subst hn
  exact zgo_p hi (fun l => by
    show (if os.toList.length = (hi' - lo + 1).toNat ∧ lo ≤ hi' then _ else _) = _
    rw [if_pos hl, hp]; rfl) h
theorem zo_look {df : Int} {ps : Array (Int × Int)} {x : Int32} {n : Int} (hi : zi k pc = some (.lookupswitch df ps)) (hl : (ps.toList.zip (ps.toList.drop 1)).all (fun (a, next) => a.1 < next.1) = true) (hn : zsel x ps.toList df = n) (hp : zjmp pc n = some p') (h : zgo sc d k p' L st M o) : zgo sc d k pc L (.int x :: st) M o := by
  subst hn
  exact zgo_p hi (fun l => by
    show (if _ then _ else _) = _
    rw [if_pos hl, hp]; rfl) h
/-- the arms of a switch by equality of whole numbers -/
theorem zsel_hit {x : Int32} {c : Int32} {n m : Int} {r : List (Int × Int)} {df : Int} (hx : x = c) (hc : c.toInt = n) : zsel x ((n, m) :: r) df = m := by
  subst hx; exact if_pos hc
theorem zsel_skip {x : Int32} {c : Int32} {n m v : Int} {r : List (Int × Int)} {df : Int} (hx : ¬ x = c) (hc : c.toInt = n) (h : zsel x r df = v) : zsel x ((n, m) :: r) df = v := by
  show (if x.toInt = n then m else zsel x r df) = v
  rw [if_neg (fun q => hx (Int32.toInt_inj.mp (q.trans hc.symm)))]
  exact h
-- fields
def zgi (M : ZMem) (t j o : Nat) : Option Int32 := match zgf M t j o with
  | some (.int x) => some x
  | _ => none
def zgr (M : ZMem) (t j o : Nat) : Option (Option Nat) := match zgf M t j o with
  | some (.ref q) => some (some q)
  | some .null => some none
  | _ => none
theorem zgi_of {t j q : Nat} {x : Int32} (h : zgi M t j q = some x) : zgf M t j q = some (.int x) := by
  unfold zgi at h
  split at h
  · next hz => cases h; exact hz
  · cases h
theorem zgr_of {t j q : Nat} {r : Option Nat} (h : zgr M t j q = some r) : zgf M t j q = some (zrf r) := by
  unfold zgr at h
  split at h
  · next hz => cases h; exact hz
  · next hz => cases h; exact hz
  · cases h
theorem zo_getI {n t j q w : Nat} {x : Int32} (hi : zi k pc = some (.getfield n)) (hp : pc + 3 = p') (hl : zlk k n = some (0, t, j, w)) (hx : zgi M t j q = some x) (h : zgo sc d k p' L (.int x :: st) M o) : zgo sc d k pc L (.ref q :: st) M o := by
  subst hp; exact zgo_p hi (fun l => by simp [zs, hl, zgi_of hx]) h
theorem zo_getR {n t j q w : Nat} {x : Option Nat} (hi : zi k pc = some (.getfield n)) (hp : pc + 3 = p') (hl : zlk k n = some (0, t, j, w)) (hx : zgr M t j q = some x) (h : zgo sc d k p' L (zrf x :: st) M o) : zgo sc d k pc L (.ref q :: st) M o := by
  subst hp; exact zgo_p hi (fun l => by simp [zs, hl, zgr_of hx]) h
theorem zo_putI {n t j q w : Nat} {x : Int32} {b : Bool} (hi : zi k pc = some (.putfield n)) (hp : pc + 3 = p') (hl : zlk k n = some (0, t, j, w)) (hb : (zini k && ((zcl t).1 == (zmeth k).1.cls)) = b) (hx : zpf M t j q (.int x) b = some M') (h : zgo sc d k p' L st M' o) : zgo sc d k pc L (.int x :: .ref q :: st) M o := by
  subst hp; subst hb; exact zgo_p hi (fun l => by simp [zs, hl, hx]) h
theorem zo_putR {n t j q w : Nat} {x : Option Nat} {b : Bool} (hi : zi k pc = some (.putfield n)) (hp : pc + 3 = p') (hl : zlk k n = some (0, t, j, w)) (hb : (zini k && ((zcl t).1 == (zmeth k).1.cls)) = b) (hx : zpf M t j q (zrf x) b = some M') (h : zgo sc d k p' L st M' o) : zgo sc d k pc L (zrf x :: .ref q :: st) M o := by
  subst hp; subst hb; exact zgo_p hi (fun l => by cases x <;> simp_all [zs, zrf]) h
theorem zo_gets0 {n w1 w2 : Nat} (hi : zi k pc = some (.getstatic n)) (hp : pc + 3 = p') (hl : zlk k n = some (1, 0, w1, w2)) (h : zgo sc d k p' L (zrf (some 1) :: st) M o) : zgo sc d k pc L st M o := by
  subst hp; exact zgo_p hi (fun l => by simp [zs, hl, zrf]) h
theorem zo_gets1 {n w1 w2 : Nat} (hi : zi k pc = some (.getstatic n)) (hp : pc + 3 = p') (hl : zlk k n = some (1, 1, w1, w2)) (h : zgo sc d k p' L (.int 1 :: st) M o) : zgo sc d k pc L st M o := by
  subst hp; exact zgo_p hi (fun l => by simp [zs, hl]) h
theorem zo_gets2 {n w1 w2 : Nat} (hi : zi k pc = some (.getstatic n)) (hp : pc + 3 = p') (hl : zlk k n = some (1, 2, w1, w2)) (h : zgo sc d k p' L (zrf (some 18) :: st) M o) : zgo sc d k pc L st M o := by
  subst hp; exact zgo_p hi (fun l => by simp [zs, hl, zrf]) h
-- rows
/-- a row of ints: ours, or ABOVE -/
def zai (M : ZMem) (p : Nat) (i : Int32) : Option Int32 := if p = 0 then none else zla M (if p = 1 then 31 else 20) p i
def zab (M : ZMem) (p : Nat) (i : Int32) : Option Int32 := zla M (if p < 20 then 32 else if (zsh M p).1 = 21 then 21 else 22) p i
def zsb (M : ZMem) (p : Nat) (i x : Int32) : Option ZMem := zsa M (if (zsh M p).1 = 21 then 21 else 22) p i (if (zsh M p).1 = 21 then vp_nar .byte x else vp_nar .boolean x)
theorem zo_iald {q : Nat} {i x : Int32} (hi : zi k pc = some .iaload) (hp : pc + 1 = p') (hx : zai M q i = some x) (h : zgo sc d k p' L (.int x :: st) M o) : zgo sc d k pc L (.int i :: .ref q :: st) M o := by
  subst hp
  unfold zai at hx
  split at hx
  · cases hx
  · next h0 => exact zgo_p hi (fun l => by simp [zs, h0, hx]) h
theorem zo_bald {q : Nat} {i x : Int32} (hi : zi k pc = some .baload) (hp : pc + 1 = p') (hx : zab M q i = some x) (h : zgo sc d k p' L (.int x :: st) M o) : zgo sc d k pc L (.int i :: .ref q :: st) M o := by
  subst hp; unfold zab at hx; exact zgo_p hi (fun l => by simp [zs, hx]) h
theorem zo_lald {q : Nat} {i : Int32} {x : Int64} (hi : zi k pc = some .laload) (hp : pc + 1 = p') (hx : zlaL M q i = some x) (h : zgo sc d k p' L (.long x :: st) M o) : zgo sc d k pc L (.int i :: .ref q :: st) M o := by
  subst hp; exact zgo_p hi (fun l => by simp [zs, hx]) h
theorem zo_aald {q : Nat} {i : Int32} {x : Option Nat} (hi : zi k pc = some .aaload) (hp : pc + 1 = p') (hx : zlaR M q i = some x) (h : zgo sc d k p' L (zrf x :: st) M o) : zgo sc d k pc L (.int i :: .ref q :: st) M o := by
  subst hp; exact zgo_p hi (fun l => by simp [zs, hx]) h
theorem zo_iast {q : Nat} {i x : Int32} (hi : zi k pc = some .iastore) (hp : pc + 1 = p') (hx : zsa M 20 q i x = some M') (h : zgo sc d k p' L st M' o) : zgo sc d k pc L (.int x :: .int i :: .ref q :: st) M o := by
  subst hp; exact zgo_p hi (fun l => by simp [zs, hx]) h
theorem zo_bast {q : Nat} {i x : Int32} (hi : zi k pc = some .bastore) (hp : pc + 1 = p') (hx : zsb M q i x = some M') (h : zgo sc d k p' L st M' o) : zgo sc d k pc L (.int x :: .int i :: .ref q :: st) M o := by
  subst hp; unfold zsb at hx; exact zgo_p hi (fun l => by simp [zs, hx]) h
theorem zo_last {q : Nat} {i : Int32} {x : Int64} (hi : zi k pc = some .lastore) (hp : pc + 1 = p') (hx : zsaL M q i x = some M') (h : zgo sc d k p' L st M' o) : zgo sc d k pc L (.long x :: .int i :: .ref q :: st) M o := by
  subst hp; exact zgo_p hi (fun l => by simp [zs, hx]) h
theorem zo_alen {q : Nat} {x : Int32} (hi : zi k pc = some .arraylength) (hp : pc + 1 = p') (hx : zlen sc M q = some x) (h : zgo sc d k p' L (.int x :: st) M o) : zgo sc d k pc L (.ref q :: st) M o := by
  subst hp; exact zgo_p hi (fun l => by simp [zs, hx]) h
theorem zo_copy {n w1 w2 w3 p q : Nat} {sp dp c : Int32} (hi : zi k pc = some (.invokestatic n)) (hp : pc + 3 = p') (hl : zlk k n = some (5, w1, w2, w3)) (hs : (st.map fun v => v.category).sum ≤ 8) (hx : zcopy M p sp q dp c = some M') (h : zgo sc (d + 1) k p' L st M' o) : zgo sc (d + 1) k pc L (.int c :: .int dp :: .ref q :: .int sp :: .ref p :: st) M o := by
  subst hp; exact zgo_p hi (fun l => by simp [zs, hl, hs, hx]) h
-- returns
theorem zo_iret {ty : FieldType} {v : Int32} (hi : zi k pc = some .ireturn) (ht : zret k = some ty) (hc : zkd ty = 0 ∧ narrow ty (.int v) = .int v) : zgo sc d k pc L [.int v] M (some (.int v), M) :=
  zgo_r hi (fun l => rfl) rfl (by simp [zend, ht, hc]) rfl
theorem zo_lret {v : Int64} (hi : zi k pc = some .lreturn) (ht : zret k = some .long) : zgo sc d k pc L [.long v] M (some (.long v), M) :=
  zgo_r hi (fun l => rfl) rfl (by simp [zend, ht]) rfl
theorem zo_aret {ty : FieldType} {r : Option Nat} (hi : zi k pc = some .areturn) (ht : zret k = some ty) (hc : zkd ty = 2) (hr : r ≠ some 18) : zgo sc d k pc L [zrf r] M (some (zrf r), M) :=
  zgo_r hi (fun l => by cases r <;> rfl) rfl (by
    cases r with
    | none => simp [zend, ht, hc, zrf]
    | some q => simp [zend, ht, hc, zrf]; exact fun h => hr (by rw [h])) rfl
theorem zo_vret (hi : zi k pc = some .return_) (ht : zret k = none) : zgo sc d k pc L [] M (none, M) :=
  zgo_r hi (fun l => rfl) rfl (by simp [zend, ht]) rfl
-- calls
/-- the receiver of a call: an object of that class -/
def zok (M : ZMem) (t q : Nat) : Bool := decide ((zsh M q).1 = t ∧ ((t < 13 ∧ 20 ≤ q ∧ q < zn M) ∨ (t = 13 ∧ 2 ≤ q ∧ q < 9)))
theorem zo_callV {n t q c np w : Nat} {as r : List Value} {v : Option Value} {M1 : ZMem} (hi : zi k pc = some (.invokevirtual n)) (hp : pc + 3 = p') (hl : zlk k n = some (2, c, np, w)) (ha : zargs np st = some (as, .ref q :: r)) (hk : zmk c = 0) (ht : (t < 13 ∧ (zcl t).1 = (zmeth c).1.cls) ∨ (t = 13 ∧ (zmeth c).1.cls = "java/lang/String")) (hs : (r.map fun v => v.category).sum ≤ 8) (hg : (lg_sl (.ref q :: as)).length ≤ zml c) (hok : zok M t q = true) (hq : zrn d c (.ref q :: as) M (v, M1)) (h : zgo sc (d + 1) k p' L (v.toList ++ r) M1 o) : zgo sc (d + 1) k pc L st M o := by
  subst hp
  simp only [zok, decide_eq_true_eq] at hok
  refine zgo_c hi (fun l => ?_) (as := .ref q :: as) (r := r) ?_ hq h
  · unfold zs; split <;> first | rfl | simp_all
  · unfold zcall
    simp only [hl, ha]
    refine if_pos ⟨hk, ?_, hs, hg⟩
    obtain ⟨h1, h2⟩ := hok
    rcases ht with ⟨h3, h4⟩ | ⟨h3, h4⟩
    · rcases h2 with h2 | h2
      · exact Or.inl ⟨by omega, h2.2.1, h2.2.2, by rw [h1]; exact h4⟩
      · omega
    · rcases h2 with h2 | h2
      · omega
      · exact Or.inr ⟨by omega, h2.2.1, h2.2.2, h4⟩
theorem zo_callS {n c np w : Nat} {as r : List Value} {v : Option Value} {M1 : ZMem} (hi : zi k pc = some (.invokestatic n)) (hp : pc + 3 = p') (hl : zlk k n = some (2, c, np, w) ∨ zlk k n = some (3, c, np, w)) (ha : zargs np st = some (as, r)) (hk : zmk c = 1) (hs : (r.map fun v => v.category).sum ≤ 8) (hg : (lg_sl as).length ≤ zml c) (hq : zrn d c as M (v, M1)) (h : zgo sc (d + 1) k p' L (v.toList ++ r) M1 o) : zgo sc (d + 1) k pc L st M o := by
  subst hp
  refine zgo_c hi (fun l => ?_) (as := as) (r := r) ?_ hq h
  · unfold zs
    split <;> first | rfl | simp_all
    rcases hl with hl | hl <;> simp_all
  · unfold zcall
    rcases hl with hl | hl
    · simp only [hl, ha]
      exact if_pos ⟨hk, hs, hg⟩
    · simp only [hl, ha]
      exact if_pos ⟨hk, hs, hg⟩
end ZG2
end
section
/-! what the functions are made of -/
def zF : Nat := 100000
def zb {α β : Type} (x : Option α) (f : α → Option β) : Option β := match x with
  | none => none
  | some a => f a
theorem zb_of {α β : Type} {x : Option α} {f : α → Option β} {b : β} (h : zb x f = some b) : ∃ a, x = some a ∧ f a = some b := by
  cases x with
  | none => cases h
  | some a => exact ⟨a, rfl, h⟩
theorem zb_some {α β : Type} (a : α) (f : α → Option β) : zb (some a) f = f a := rfl
theorem zb_none {α β : Type} (f : α → Option β) : zb none f = none := rfl
def zbd {α β : Type} (x : Option (α × ZMem)) (f : α → ZMem → Option β) : Option β := match x with
  | none => none
  | some y => f y.1 y.2
theorem zbd_of {α β : Type} {x : Option (α × ZMem)} {f : α → ZMem → Option β} {b : β} (h : zbd x f = some b) : ∃ a M, x = some (a, M) ∧ f a M = some b := by
  cases x with
  | none => cases h
  | some y => exact ⟨y.1, y.2, rfl, h⟩
theorem zbd_some {α β : Type} (a : α) (M : ZMem) (f : α → ZMem → Option β) : zbd (some (a, M)) f = f a M := rfl
theorem zbd_none {α β : Type} (f : α → ZMem → Option β) : zbd none f = none := rfl
def zcs {β : Type} (r : Option Nat) (a : Option β) (f : Nat → Option β) : Option β := match r with
  | none => a
  | some q => if q = 18 then none else f q
theorem zcat_i (x : Int32) : (Value.int x).category = 1 := rfl
theorem zcat_r (x : Nat) : (Value.ref x).category = 1 := rfl
theorem zcat_l (x : Int64) : (Value.long x).category = 2 := rfl
theorem zcs_none {β : Type} {a : Option β} {f : Nat → Option β} {b : β} (h : zcs none a f = some b) : a = some b := h
theorem zcs_some {β : Type} {a : Option β} {f : Nat → Option β} {b : β} {q : Nat} (h : zcs (some q) a f = some b) : q ≠ 18 ∧ f q = some b := by
  by_cases hq : q = 18
  · have h2 : (if q = 18 then none else f q) = some b := h
    rw [if_pos hq] at h2; cases h2
  · have h2 : (if q = 18 then none else f q) = some b := h
    rw [if_neg hq] at h2
    exact ⟨hq, h2⟩
section ZG3
variable {sc : Option (Nat × (Nat → Int32))} {d k pc : Nat} {L : List (Nat × Value)} {st : List Value} {M M' : ZMem} {o : Option Value × ZMem} {p' : Nat}
theorem zo_callVi {n t q c np w : Nat} {as r : List Value} {x : Int32} {M1 : ZMem} (hi : zi k pc = some (.invokevirtual n)) (hp : pc + 3 = p') (hl : zlk k n = some (2, c, np, w)) (ha : zargs np st = some (as, .ref q :: r)) (hk : zmk c = 0) (ht : (t < 13 ∧ (zcl t).1 = (zmeth c).1.cls) ∨ (t = 13 ∧ (zmeth c).1.cls = "java/lang/String")) (hs : (r.map fun v => v.category).sum ≤ 8) (hg : (lg_sl (.ref q :: as)).length ≤ zml c) (hok : zok M t q = true) (hq : zrn d c (.ref q :: as) M (some (.int x), M1)) (h : zgo sc (d + 1) k p' L (.int x :: r) M1 o) : zgo sc (d + 1) k pc L st M o := zo_callV hi hp hl ha hk ht hs hg hok hq h
theorem zo_callSi {n c np w : Nat} {as r : List Value} {x : Int32} {M1 : ZMem} (hi : zi k pc = some (.invokestatic n)) (hp : pc + 3 = p') (hl : zlk k n = some (2, c, np, w) ∨ zlk k n = some (3, c, np, w)) (ha : zargs np st = some (as, r)) (hk : zmk c = 1) (hs : (r.map fun v => v.category).sum ≤ 8) (hg : (lg_sl as).length ≤ zml c) (hq : zrn d c as M (some (.int x), M1)) (h : zgo sc (d + 1) k p' L (.int x :: r) M1 o) : zgo sc (d + 1) k pc L st M o := zo_callS hi hp hl ha hk hs hg hq h
theorem zo_callVl {n t q c np w : Nat} {as r : List Value} {x : Int64} {M1 : ZMem} (hi : zi k pc = some (.invokevirtual n)) (hp : pc + 3 = p') (hl : zlk k n = some (2, c, np, w)) (ha : zargs np st = some (as, .ref q :: r)) (hk : zmk c = 0) (ht : (t < 13 ∧ (zcl t).1 = (zmeth c).1.cls) ∨ (t = 13 ∧ (zmeth c).1.cls = "java/lang/String")) (hs : (r.map fun v => v.category).sum ≤ 8) (hg : (lg_sl (.ref q :: as)).length ≤ zml c) (hok : zok M t q = true) (hq : zrn d c (.ref q :: as) M (some (.long x), M1)) (h : zgo sc (d + 1) k p' L (.long x :: r) M1 o) : zgo sc (d + 1) k pc L st M o := zo_callV hi hp hl ha hk ht hs hg hok hq h
theorem zo_callSl {n c np w : Nat} {as r : List Value} {x : Int64} {M1 : ZMem} (hi : zi k pc = some (.invokestatic n)) (hp : pc + 3 = p') (hl : zlk k n = some (2, c, np, w) ∨ zlk k n = some (3, c, np, w)) (ha : zargs np st = some (as, r)) (hk : zmk c = 1) (hs : (r.map fun v => v.category).sum ≤ 8) (hg : (lg_sl as).length ≤ zml c) (hq : zrn d c as M (some (.long x), M1)) (h : zgo sc (d + 1) k p' L (.long x :: r) M1 o) : zgo sc (d + 1) k pc L st M o := zo_callS hi hp hl ha hk hs hg hq h
theorem zo_callVa {n t q c np w : Nat} {as r : List Value} {x : Option Nat} {M1 : ZMem} (hi : zi k pc = some (.invokevirtual n)) (hp : pc + 3 = p') (hl : zlk k n = some (2, c, np, w)) (ha : zargs np st = some (as, .ref q :: r)) (hk : zmk c = 0) (ht : (t < 13 ∧ (zcl t).1 = (zmeth c).1.cls) ∨ (t = 13 ∧ (zmeth c).1.cls = "java/lang/String")) (hs : (r.map fun v => v.category).sum ≤ 8) (hg : (lg_sl (.ref q :: as)).length ≤ zml c) (hok : zok M t q = true) (hq : zrn d c (.ref q :: as) M (some (zrf x), M1)) (h : zgo sc (d + 1) k p' L (zrf x :: r) M1 o) : zgo sc (d + 1) k pc L st M o := zo_callV hi hp hl ha hk ht hs hg hok hq h
theorem zo_callSa {n c np w : Nat} {as r : List Value} {x : Option Nat} {M1 : ZMem} (hi : zi k pc = some (.invokestatic n)) (hp : pc + 3 = p') (hl : zlk k n = some (2, c, np, w) ∨ zlk k n = some (3, c, np, w)) (ha : zargs np st = some (as, r)) (hk : zmk c = 1) (hs : (r.map fun v => v.category).sum ≤ 8) (hg : (lg_sl as).length ≤ zml c) (hq : zrn d c as M (some (zrf x), M1)) (h : zgo sc (d + 1) k p' L (zrf x :: r) M1 o) : zgo sc (d + 1) k pc L st M o := zo_callS hi hp hl ha hk hs hg hq h
theorem zo_callVv {n t q c np w : Nat} {as r : List Value}  {M1 : ZMem} (hi : zi k pc = some (.invokevirtual n)) (hp : pc + 3 = p') (hl : zlk k n = some (2, c, np, w)) (ha : zargs np st = some (as, .ref q :: r)) (hk : zmk c = 0) (ht : (t < 13 ∧ (zcl t).1 = (zmeth c).1.cls) ∨ (t = 13 ∧ (zmeth c).1.cls = "java/lang/String")) (hs : (r.map fun v => v.category).sum ≤ 8) (hg : (lg_sl (.ref q :: as)).length ≤ zml c) (hok : zok M t q = true) (hq : zrn d c (.ref q :: as) M (none, M1)) (h : zgo sc (d + 1) k p' L (r) M1 o) : zgo sc (d + 1) k pc L st M o := zo_callV hi hp hl ha hk ht hs hg hok hq h
theorem zo_callSv {n c np w : Nat} {as r : List Value}  {M1 : ZMem} (hi : zi k pc = some (.invokestatic n)) (hp : pc + 3 = p') (hl : zlk k n = some (2, c, np, w) ∨ zlk k n = some (3, c, np, w)) (ha : zargs np st = some (as, r)) (hk : zmk c = 1) (hs : (r.map fun v => v.category).sum ≤ 8) (hg : (lg_sl as).length ≤ zml c) (hq : zrn d c as M (none, M1)) (h : zgo sc (d + 1) k p' L (r) M1 o) : zgo sc (d + 1) k pc L st M o := zo_callS hi hp hl ha hk hs hg hq h
end ZG3
theorem zi_0 {pc : Nat} {i : Instr} (h : zfind2 zt_0 pc = some i) : zi 0 pc = some i := h
theorem zml_0 : zml 0 = 4 := rfl
theorem zi_1 {pc : Nat} {i : Instr} (h : zfind2 zt_1 pc = some i) : zi 1 pc = some i := h
theorem zml_1 : zml 1 = 2 := rfl
theorem zi_2 {pc : Nat} {i : Instr} (h : zfind2 zt_2 pc = some i) : zi 2 pc = some i := h
theorem zml_2 : zml 2 = 1 := rfl
theorem zi_3 {pc : Nat} {i : Instr} (h : zfind2 zt_3 pc = some i) : zi 3 pc = some i := h
theorem zml_3 : zml 3 = 2 := rfl
theorem zi_4 {pc : Nat} {i : Instr} (h : zfind2 zt_4 pc = some i) : zi 4 pc = some i := h
theorem zml_4 : zml 4 = 2 := rfl
theorem zi_5 {pc : Nat} {i : Instr} (h : zfind2 zt_5 pc = some i) : zi 5 pc = some i := h
theorem zml_5 : zml 5 = 2 := rfl
theorem zi_6 {pc : Nat} {i : Instr} (h : zfind2 zt_6 pc = some i) : zi 6 pc = some i := h
theorem zml_6 : zml 6 = 1 := rfl
theorem zi_7 {pc : Nat} {i : Instr} (h : zfind2 zt_7 pc = some i) : zi 7 pc = some i := h
theorem zml_7 : zml 7 = 1 := rfl
theorem zi_8 {pc : Nat} {i : Instr} (h : zfind2 zt_8 pc = some i) : zi 8 pc = some i := h
theorem zml_8 : zml 8 = 1 := rfl
theorem zi_9 {pc : Nat} {i : Instr} (h : zfind2 zt_9 pc = some i) : zi 9 pc = some i := h
theorem zml_9 : zml 9 = 1 := rfl
theorem zi_10 {pc : Nat} {i : Instr} (h : zfind2 zt_10 pc = some i) : zi 10 pc = some i := h
theorem zml_10 : zml 10 = 1 := rfl
theorem zi_11 {pc : Nat} {i : Instr} (h : zfind2 zt_11 pc = some i) : zi 11 pc = some i := h
theorem zml_11 : zml 11 = 1 := rfl
theorem zi_12 {pc : Nat} {i : Instr} (h : zfind2 zt_12 pc = some i) : zi 12 pc = some i := h
theorem zml_12 : zml 12 = 1 := rfl
theorem zi_13 {pc : Nat} {i : Instr} (h : zfind2 zt_13 pc = some i) : zi 13 pc = some i := h
theorem zml_13 : zml 13 = 5 := rfl
theorem zm_13_4 : 4 < zml 13 := by rw [zml_13]; decide
theorem zi_14 {pc : Nat} {i : Instr} (h : zfind2 zt_14 pc = some i) : zi 14 pc = some i := h
theorem zml_14 : zml 14 = 3 := rfl
theorem zi_15 {pc : Nat} {i : Instr} (h : zfind2 zt_15 pc = some i) : zi 15 pc = some i := h
theorem zml_15 : zml 15 = 1 := rfl
theorem zpb_15 (t : Nat) : (zini 15 && ((zcl t).1 == (zmeth 15).1.cls)) = false := by rw [show zini 15 = false by decide +kernel]; rfl
theorem zi_16 {pc : Nat} {i : Instr} (h : zfind2 zt_16 pc = some i) : zi 16 pc = some i := h
theorem zml_16 : zml 16 = 4 := rfl
theorem zpb_16 (t : Nat) : (zini 16 && ((zcl t).1 == (zmeth 16).1.cls)) = false := by rw [show zini 16 = false by decide +kernel]; rfl
theorem zi_17 {pc : Nat} {i : Instr} (h : zfind2 zt_17 pc = some i) : zi 17 pc = some i := h
theorem zml_17 : zml 17 = 4 := rfl
theorem zm_17_2 : 2 < zml 17 := by rw [zml_17]; decide
theorem zm_17_3 : 3 < zml 17 := by rw [zml_17]; decide
theorem zi_18 {pc : Nat} {i : Instr} (h : zfind2 zt_18 pc = some i) : zi 18 pc = some i := h
theorem zml_18 : zml 18 = 4 := rfl
theorem zm_18_3 : 3 < zml 18 := by rw [zml_18]; decide
theorem zi_19 {pc : Nat} {i : Instr} (h : zfind2 zt_19 pc = some i) : zi 19 pc = some i := h
theorem zml_19 : zml 19 = 2 := rfl
theorem zi_20 {pc : Nat} {i : Instr} (h : zfind2 zt_20 pc = some i) : zi 20 pc = some i := h
theorem zml_20 : zml 20 = 2 := rfl
theorem zm_20_1 : 1 < zml 20 := by rw [zml_20]; decide
theorem zi_21 {pc : Nat} {i : Instr} (h : zfind2 zt_21 pc = some i) : zi 21 pc = some i := h
theorem zml_21 : zml 21 = 7 := rfl
theorem zm_21_3 : 3 < zml 21 := by rw [zml_21]; decide
theorem zm_21_4 : 4 < zml 21 := by rw [zml_21]; decide
theorem zm_21_5 : 5 < zml 21 := by rw [zml_21]; decide
theorem zm_21_6 : 6 < zml 21 := by rw [zml_21]; decide
theorem zi_22 {pc : Nat} {i : Instr} (h : zfind2 zt_22 pc = some i) : zi 22 pc = some i := h
theorem zml_22 : zml 22 = 5 := rfl
theorem zm_22_3 : 3 < zml 22 := by rw [zml_22]; decide
theorem zm_22_4 : 4 < zml 22 := by rw [zml_22]; decide
theorem zi_23 {pc : Nat} {i : Instr} (h : zfind2 zt_23 pc = some i) : zi 23 pc = some i := h
theorem zml_23 : zml 23 = 3 := rfl
theorem zi_24 {pc : Nat} {i : Instr} (h : zfind2 zt_24 pc = some i) : zi 24 pc = some i := h
theorem zml_24 : zml 24 = 2 := rfl
theorem zi_25 {pc : Nat} {i : Instr} (h : zfind2 zt_25 pc = some i) : zi 25 pc = some i := h
theorem zml_25 : zml 25 = 4 := rfl
theorem zm_25_3 : 3 < zml 25 := by rw [zml_25]; decide
theorem zi_26 {pc : Nat} {i : Instr} (h : zfind2 zt_26 pc = some i) : zi 26 pc = some i := h
theorem zml_26 : zml 26 = 2 := rfl
theorem zi_27 {pc : Nat} {i : Instr} (h : zfind2 zt_27 pc = some i) : zi 27 pc = some i := h
theorem zml_27 : zml 27 = 3 := rfl
theorem zi_28 {pc : Nat} {i : Instr} (h : zfind2 zt_28 pc = some i) : zi 28 pc = some i := h
theorem zml_28 : zml 28 = 4 := rfl
theorem zpb_28 (t : Nat) : (zini 28 && ((zcl t).1 == (zmeth 28).1.cls)) = false := by rw [show zini 28 = false by decide +kernel]; rfl
theorem zi_29 {pc : Nat} {i : Instr} (h : zfind2 zt_29 pc = some i) : zi 29 pc = some i := h
theorem zml_29 : zml 29 = 5 := rfl
theorem zpb_29 (t : Nat) : (zini 29 && ((zcl t).1 == (zmeth 29).1.cls)) = false := by rw [show zini 29 = false by decide +kernel]; rfl
theorem zi_30 {pc : Nat} {i : Instr} (h : zfind2 zt_30 pc = some i) : zi 30 pc = some i := h
theorem zml_30 : zml 30 = 3 := rfl
theorem zm_30_2 : 2 < zml 30 := by rw [zml_30]; decide
theorem zi_31 {pc : Nat} {i : Instr} (h : zfind2 zt_31 pc = some i) : zi 31 pc = some i := h
theorem zml_31 : zml 31 = 1 := rfl
theorem zi_32 {pc : Nat} {i : Instr} (h : zfind2 zt_32 pc = some i) : zi 32 pc = some i := h
theorem zml_32 : zml 32 = 1 := rfl
theorem zi_33 {pc : Nat} {i : Instr} (h : zfind2 zt_33 pc = some i) : zi 33 pc = some i := h
theorem zml_33 : zml 33 = 2 := rfl
theorem zi_34 {pc : Nat} {i : Instr} (h : zfind2 zt_34 pc = some i) : zi 34 pc = some i := h
theorem zml_34 : zml 34 = 2 := rfl
theorem zi_35 {pc : Nat} {i : Instr} (h : zfind2 zt_35 pc = some i) : zi 35 pc = some i := h
theorem zml_35 : zml 35 = 7 := rfl
theorem zm_35_2 : 2 < zml 35 := by rw [zml_35]; decide
theorem zm_35_3 : 3 < zml 35 := by rw [zml_35]; decide
theorem zm_35_4 : 4 < zml 35 := by rw [zml_35]; decide
theorem zm_35_5 : 5 < zml 35 := by rw [zml_35]; decide
theorem zm_35_6 : 6 < zml 35 := by rw [zml_35]; decide
theorem zi_36 {pc : Nat} {i : Instr} (h : zfind2 zt_36 pc = some i) : zi 36 pc = some i := h
theorem zml_36 : zml 36 = 1 := rfl
theorem zi_37 {pc : Nat} {i : Instr} (h : zfind2 zt_37 pc = some i) : zi 37 pc = some i := h
theorem zml_37 : zml 37 = 2 := rfl
theorem zi_38 {pc : Nat} {i : Instr} (h : zfind2 zt_38 pc = some i) : zi 38 pc = some i := h
theorem zml_38 : zml 38 = 2 := rfl
theorem zi_39 {pc : Nat} {i : Instr} (h : zfind2 zt_39 pc = some i) : zi 39 pc = some i := h
theorem zml_39 : zml 39 = 2 := rfl
theorem zi_40 {pc : Nat} {i : Instr} (h : zfind2 zt_40 pc = some i) : zi 40 pc = some i := h
theorem zml_40 : zml 40 = 3 := rfl
theorem zi_41 {pc : Nat} {i : Instr} (h : zfind2 zt_41 pc = some i) : zi 41 pc = some i := h
theorem zml_41 : zml 41 = 5 := rfl
theorem zm_41_3 : 3 < zml 41 := by rw [zml_41]; decide
theorem zm_41_4 : 4 < zml 41 := by rw [zml_41]; decide
theorem zi_42 {pc : Nat} {i : Instr} (h : zfind2 zt_42 pc = some i) : zi 42 pc = some i := h
theorem zml_42 : zml 42 = 4 := rfl
theorem zm_42_2 : 2 < zml 42 := by rw [zml_42]; decide
theorem zm_42_3 : 3 < zml 42 := by rw [zml_42]; decide
theorem zi_43 {pc : Nat} {i : Instr} (h : zfind2 zt_43 pc = some i) : zi 43 pc = some i := h
theorem zml_43 : zml 43 = 4 := rfl
theorem zm_43_2 : 2 < zml 43 := by rw [zml_43]; decide
theorem zm_43_3 : 3 < zml 43 := by rw [zml_43]; decide
theorem zi_44 {pc : Nat} {i : Instr} (h : zfind2 zt_44 pc = some i) : zi 44 pc = some i := h
theorem zml_44 : zml 44 = 4 := rfl
theorem zi_45 {pc : Nat} {i : Instr} (h : zfind2 zt_45 pc = some i) : zi 45 pc = some i := h
theorem zml_45 : zml 45 = 2 := rfl
theorem zpb_45 (t : Nat) : (zini 45 && ((zcl t).1 == (zmeth 45).1.cls)) = false := by rw [show zini 45 = false by decide +kernel]; rfl
theorem zi_46 {pc : Nat} {i : Instr} (h : zfind2 zt_46 pc = some i) : zi 46 pc = some i := h
theorem zml_46 : zml 46 = 4 := rfl
theorem zm_46_2 : 2 < zml 46 := by rw [zml_46]; decide
theorem zm_46_3 : 3 < zml 46 := by rw [zml_46]; decide
theorem zi_47 {pc : Nat} {i : Instr} (h : zfind2 zt_47 pc = some i) : zi 47 pc = some i := h
theorem zml_47 : zml 47 = 4 := rfl
theorem zm_47_2 : 2 < zml 47 := by rw [zml_47]; decide
theorem zm_47_3 : 3 < zml 47 := by rw [zml_47]; decide
theorem zi_48 {pc : Nat} {i : Instr} (h : zfind2 zt_48 pc = some i) : zi 48 pc = some i := h
theorem zml_48 : zml 48 = 5 := rfl
theorem zpb_48 (t : Nat) : (zini 48 && ((zcl t).1 == (zmeth 48).1.cls)) = false := by rw [show zini 48 = false by decide +kernel]; rfl
theorem zm_48_3 : 3 < zml 48 := by rw [zml_48]; decide
theorem zm_48_4 : 4 < zml 48 := by rw [zml_48]; decide
theorem zi_49 {pc : Nat} {i : Instr} (h : zfind2 zt_49 pc = some i) : zi 49 pc = some i := h
theorem zml_49 : zml 49 = 6 := rfl
theorem zm_49_4 : 4 < zml 49 := by rw [zml_49]; decide
theorem zm_49_5 : 5 < zml 49 := by rw [zml_49]; decide
theorem zi_50 {pc : Nat} {i : Instr} (h : zfind2 zt_50 pc = some i) : zi 50 pc = some i := h
theorem zml_50 : zml 50 = 6 := rfl
theorem zpb_50 (t : Nat) : (zini 50 && ((zcl t).1 == (zmeth 50).1.cls)) = false := by rw [show zini 50 = false by decide +kernel]; rfl
theorem zm_50_3 : 3 < zml 50 := by rw [zml_50]; decide
theorem zm_50_4 : 4 < zml 50 := by rw [zml_50]; decide
theorem zm_50_5 : 5 < zml 50 := by rw [zml_50]; decide
theorem zi_51 {pc : Nat} {i : Instr} (h : zfind2 zt_51 pc = some i) : zi 51 pc = some i := h
theorem zml_51 : zml 51 = 4 := rfl
theorem zi_52 {pc : Nat} {i : Instr} (h : zfind2 zt_52 pc = some i) : zi 52 pc = some i := h
theorem zml_52 : zml 52 = 3 := rfl
theorem zi_53 {pc : Nat} {i : Instr} (h : zfind2 zt_53 pc = some i) : zi 53 pc = some i := h
theorem zml_53 : zml 53 = 2 := rfl
theorem zpb_53 (t : Nat) : (zini 53 && ((zcl t).1 == (zmeth 53).1.cls)) = false := by rw [show zini 53 = false by decide +kernel]; rfl
theorem zi_54 {pc : Nat} {i : Instr} (h : zfind2 zt_54 pc = some i) : zi 54 pc = some i := h
theorem zml_54 : zml 54 = 5 := rfl
theorem zm_54_4 : 4 < zml 54 := by rw [zml_54]; decide
theorem zi_55 {pc : Nat} {i : Instr} (h : zfind2 zt_55 pc = some i) : zi 55 pc = some i := h
theorem zml_55 : zml 55 = 2 := rfl
theorem zi_56 {pc : Nat} {i : Instr} (h : zfind2 zt_56 pc = some i) : zi 56 pc = some i := h
theorem zml_56 : zml 56 = 4 := rfl
theorem zpb_56 (t : Nat) : (zini 56 && ((zcl t).1 == (zmeth 56).1.cls)) = false := by rw [show zini 56 = false by decide +kernel]; rfl
theorem zm_56_2 : 2 < zml 56 := by rw [zml_56]; decide
theorem zm_56_3 : 3 < zml 56 := by rw [zml_56]; decide
theorem zi_57 {pc : Nat} {i : Instr} (h : zfind2 zt_57 pc = some i) : zi 57 pc = some i := h
theorem zml_57 : zml 57 = 1 := rfl
theorem zi_58 {pc : Nat} {i : Instr} (h : zfind2 zt_58 pc = some i) : zi 58 pc = some i := h
theorem zml_58 : zml 58 = 3 := rfl
theorem zi_59 {pc : Nat} {i : Instr} (h : zfind2 zt_59 pc = some i) : zi 59 pc = some i := h
theorem zml_59 : zml 59 = 2 := rfl
theorem zpb_59 (t : Nat) : (zini 59 && ((zcl t).1 == (zmeth 59).1.cls)) = false := by rw [show zini 59 = false by decide +kernel]; rfl
theorem zi_60 {pc : Nat} {i : Instr} (h : zfind2 zt_60 pc = some i) : zi 60 pc = some i := h
theorem zml_60 : zml 60 = 2 := rfl
theorem zpb_60 (t : Nat) : (zini 60 && ((zcl t).1 == (zmeth 60).1.cls)) = false := by rw [show zini 60 = false by decide +kernel]; rfl
theorem zm_60_1 : 1 < zml 60 := by rw [zml_60]; decide
theorem zi_61 {pc : Nat} {i : Instr} (h : zfind2 zt_61 pc = some i) : zi 61 pc = some i := h
theorem zml_61 : zml 61 = 5 := rfl
theorem zpb_61 (t : Nat) : (zini 61 && ((zcl t).1 == (zmeth 61).1.cls)) = false := by rw [show zini 61 = false by decide +kernel]; rfl
theorem zm_61_4 : 4 < zml 61 := by rw [zml_61]; decide
theorem zi_62 {pc : Nat} {i : Instr} (h : zfind2 zt_62 pc = some i) : zi 62 pc = some i := h
theorem zml_62 : zml 62 = 1 := rfl
theorem zpb_62 (t : Nat) : (zini 62 && ((zcl t).1 == (zmeth 62).1.cls)) = false := by rw [show zini 62 = false by decide +kernel]; rfl
theorem zi_63 {pc : Nat} {i : Instr} (h : zfind2 zt_63 pc = some i) : zi 63 pc = some i := h
theorem zml_63 : zml 63 = 3 := rfl
theorem zpb_63 (t : Nat) : (zini 63 && ((zcl t).1 == (zmeth 63).1.cls)) = false := by rw [show zini 63 = false by decide +kernel]; rfl
theorem zm_63_1 : 1 < zml 63 := by rw [zml_63]; decide
theorem zm_63_2 : 2 < zml 63 := by rw [zml_63]; decide
theorem zi_64 {pc : Nat} {i : Instr} (h : zfind2 zt_64 pc = some i) : zi 64 pc = some i := h
theorem zml_64 : zml 64 = 4 := rfl
theorem zpb_64 (t : Nat) : (zini 64 && ((zcl t).1 == (zmeth 64).1.cls)) = false := by rw [show zini 64 = false by decide +kernel]; rfl
theorem zm_64_1 : 1 < zml 64 := by rw [zml_64]; decide
theorem zm_64_2 : 2 < zml 64 := by rw [zml_64]; decide
theorem zm_64_3 : 3 < zml 64 := by rw [zml_64]; decide
theorem zi_65 {pc : Nat} {i : Instr} (h : zfind2 zt_65 pc = some i) : zi 65 pc = some i := h
theorem zml_65 : zml 65 = 1 := rfl
theorem zi_66 {pc : Nat} {i : Instr} (h : zfind2 zt_66 pc = some i) : zi 66 pc = some i := h
theorem zml_66 : zml 66 = 4 := rfl
theorem zm_66_2 : 2 < zml 66 := by rw [zml_66]; decide
theorem zm_66_3 : 3 < zml 66 := by rw [zml_66]; decide
theorem zi_67 {pc : Nat} {i : Instr} (h : zfind2 zt_67 pc = some i) : zi 67 pc = some i := h
theorem zml_67 : zml 67 = 1 := rfl
theorem zi_68 {pc : Nat} {i : Instr} (h : zfind2 zt_68 pc = some i) : zi 68 pc = some i := h
theorem zml_68 : zml 68 = 1 := rfl
theorem zi_69 {pc : Nat} {i : Instr} (h : zfind2 zt_69 pc = some i) : zi 69 pc = some i := h
theorem zml_69 : zml 69 = 2 := rfl
theorem zi_70 {pc : Nat} {i : Instr} (h : zfind2 zt_70 pc = some i) : zi 70 pc = some i := h
theorem zml_70 : zml 70 = 1 := rfl
theorem zi_71 {pc : Nat} {i : Instr} (h : zfind2 zt_71 pc = some i) : zi 71 pc = some i := h
theorem zml_71 : zml 71 = 2 := rfl
theorem zi_72 {pc : Nat} {i : Instr} (h : zfind2 zt_72 pc = some i) : zi 72 pc = some i := h
theorem zml_72 : zml 72 = 2 := rfl
theorem zi_73 {pc : Nat} {i : Instr} (h : zfind2 zt_73 pc = some i) : zi 73 pc = some i := h
theorem zml_73 : zml 73 = 3 := rfl
theorem zi_74 {pc : Nat} {i : Instr} (h : zfind2 zt_74 pc = some i) : zi 74 pc = some i := h
theorem zml_74 : zml 74 = 2 := rfl
theorem zpb_74 (t : Nat) : (zini 74 && ((zcl t).1 == (zmeth 74).1.cls)) = false := by rw [show zini 74 = false by decide +kernel]; rfl
theorem zi_75 {pc : Nat} {i : Instr} (h : zfind2 zt_75 pc = some i) : zi 75 pc = some i := h
theorem zml_75 : zml 75 = 1 := rfl
theorem zi_76 {pc : Nat} {i : Instr} (h : zfind2 zt_76 pc = some i) : zi 76 pc = some i := h
theorem zml_76 : zml 76 = 3 := rfl
theorem zpb_76 (t : Nat) : (zini 76 && ((zcl t).1 == (zmeth 76).1.cls)) = false := by rw [show zini 76 = false by decide +kernel]; rfl
theorem zm_76_1 : 1 < zml 76 := by rw [zml_76]; decide
theorem zm_76_2 : 2 < zml 76 := by rw [zml_76]; decide
theorem zi_77 {pc : Nat} {i : Instr} (h : zfind2 zt_77 pc = some i) : zi 77 pc = some i := h
theorem zml_77 : zml 77 = 3 := rfl
theorem zm_77_2 : 2 < zml 77 := by rw [zml_77]; decide
theorem zi_78 {pc : Nat} {i : Instr} (h : zfind2 zt_78 pc = some i) : zi 78 pc = some i := h
theorem zml_78 : zml 78 = 3 := rfl
theorem zm_78_2 : 2 < zml 78 := by rw [zml_78]; decide
theorem zi_79 {pc : Nat} {i : Instr} (h : zfind2 zt_79 pc = some i) : zi 79 pc = some i := h
theorem zml_79 : zml 79 = 2 := rfl
theorem zi_80 {pc : Nat} {i : Instr} (h : zfind2 zt_80 pc = some i) : zi 80 pc = some i := h
theorem zml_80 : zml 80 = 4 := rfl
theorem zm_80_1 : 1 < zml 80 := by rw [zml_80]; decide
theorem zm_80_2 : 2 < zml 80 := by rw [zml_80]; decide
theorem zm_80_3 : 3 < zml 80 := by rw [zml_80]; decide
theorem zi_81 {pc : Nat} {i : Instr} (h : zfind2 zt_81 pc = some i) : zi 81 pc = some i := h
theorem zml_81 : zml 81 = 3 := rfl
theorem zpb_81 (t : Nat) : (zini 81 && ((zcl t).1 == (zmeth 81).1.cls)) = false := by rw [show zini 81 = false by decide +kernel]; rfl
theorem zm_81_2 : 2 < zml 81 := by rw [zml_81]; decide
theorem zi_82 {pc : Nat} {i : Instr} (h : zfind2 zt_82 pc = some i) : zi 82 pc = some i := h
theorem zml_82 : zml 82 = 2 := rfl
theorem zi_83 {pc : Nat} {i : Instr} (h : zfind2 zt_83 pc = some i) : zi 83 pc = some i := h
theorem zml_83 : zml 83 = 3 := rfl
theorem zi_84 {pc : Nat} {i : Instr} (h : zfind2 zt_84 pc = some i) : zi 84 pc = some i := h
theorem zml_84 : zml 84 = 4 := rfl
theorem zm_84_2 : 2 < zml 84 := by rw [zml_84]; decide
theorem zm_84_3 : 3 < zml 84 := by rw [zml_84]; decide
theorem zi_85 {pc : Nat} {i : Instr} (h : zfind2 zt_85 pc = some i) : zi 85 pc = some i := h
theorem zml_85 : zml 85 = 1 := rfl
theorem zi_86 {pc : Nat} {i : Instr} (h : zfind2 zt_86 pc = some i) : zi 86 pc = some i := h
theorem zml_86 : zml 86 = 6 := rfl
theorem zm_86_4 : 4 < zml 86 := by rw [zml_86]; decide
theorem zm_86_5 : 5 < zml 86 := by rw [zml_86]; decide
theorem zi_87 {pc : Nat} {i : Instr} (h : zfind2 zt_87 pc = some i) : zi 87 pc = some i := h
theorem zml_87 : zml 87 = 5 := rfl
theorem zpb_87 (t : Nat) : (zini 87 && ((zcl t).1 == (zmeth 87).1.cls)) = false := by rw [show zini 87 = false by decide +kernel]; rfl
theorem zi_88 {pc : Nat} {i : Instr} (h : zfind2 zt_88 pc = some i) : zi 88 pc = some i := h
theorem zml_88 : zml 88 = 2 := rfl
theorem zi_89 {pc : Nat} {i : Instr} (h : zfind2 zt_89 pc = some i) : zi 89 pc = some i := h
theorem zml_89 : zml 89 = 4 := rfl
theorem zm_89_2 : 2 < zml 89 := by rw [zml_89]; decide
theorem zm_89_3 : 3 < zml 89 := by rw [zml_89]; decide
theorem zi_90 {pc : Nat} {i : Instr} (h : zfind2 zt_90 pc = some i) : zi 90 pc = some i := h
theorem zml_90 : zml 90 = 3 := rfl
theorem zi_91 {pc : Nat} {i : Instr} (h : zfind2 zt_91 pc = some i) : zi 91 pc = some i := h
theorem zml_91 : zml 91 = 2 := rfl
theorem zi_92 {pc : Nat} {i : Instr} (h : zfind2 zt_92 pc = some i) : zi 92 pc = some i := h
theorem zml_92 : zml 92 = 5 := rfl
theorem zpb_92 (t : Nat) : (zini 92 && ((zcl t).1 == (zmeth 92).1.cls)) = false := by rw [show zini 92 = false by decide +kernel]; rfl
theorem zm_92_3 : 3 < zml 92 := by rw [zml_92]; decide
theorem zm_92_4 : 4 < zml 92 := by rw [zml_92]; decide
theorem zi_93 {pc : Nat} {i : Instr} (h : zfind2 zt_93 pc = some i) : zi 93 pc = some i := h
theorem zml_93 : zml 93 = 5 := rfl
theorem zm_93_3 : 3 < zml 93 := by rw [zml_93]; decide
theorem zm_93_4 : 4 < zml 93 := by rw [zml_93]; decide
theorem zi_94 {pc : Nat} {i : Instr} (h : zfind2 zt_94 pc = some i) : zi 94 pc = some i := h
theorem zml_94 : zml 94 = 2 := rfl
theorem zi_95 {pc : Nat} {i : Instr} (h : zfind2 zt_95 pc = some i) : zi 95 pc = some i := h
theorem zml_95 : zml 95 = 3 := rfl
theorem zpb_95 (t : Nat) : (zini 95 && ((zcl t).1 == (zmeth 95).1.cls)) = false := by rw [show zini 95 = false by decide +kernel]; rfl
theorem zm_95_2 : 2 < zml 95 := by rw [zml_95]; decide
theorem zi_96 {pc : Nat} {i : Instr} (h : zfind2 zt_96 pc = some i) : zi 96 pc = some i := h
theorem zml_96 : zml 96 = 3 := rfl
theorem zm_96_2 : 2 < zml 96 := by rw [zml_96]; decide
theorem zi_97 {pc : Nat} {i : Instr} (h : zfind2 zt_97 pc = some i) : zi 97 pc = some i := h
theorem zml_97 : zml 97 = 2 := rfl
theorem zi_98 {pc : Nat} {i : Instr} (h : zfind2 zt_98 pc = some i) : zi 98 pc = some i := h
theorem zml_98 : zml 98 = 5 := rfl
theorem zm_98_1 : 1 < zml 98 := by rw [zml_98]; decide
theorem zm_98_2 : 2 < zml 98 := by rw [zml_98]; decide
theorem zm_98_3 : 3 < zml 98 := by rw [zml_98]; decide
theorem zm_98_4 : 4 < zml 98 := by rw [zml_98]; decide
theorem zi_99 {pc : Nat} {i : Instr} (h : zfind2 zt_99 pc = some i) : zi 99 pc = some i := h
theorem zml_99 : zml 99 = 1 := rfl
theorem zm_99_0 : 0 < zml 99 := by rw [zml_99]; decide
theorem zi_100 {pc : Nat} {i : Instr} (h : zfind2 zt_100 pc = some i) : zi 100 pc = some i := h
theorem zml_100 : zml 100 = 4 := rfl
theorem zpb_100 (t : Nat) : (zini 100 && ((zcl t).1 == (zmeth 100).1.cls)) = false := by rw [show zini 100 = false by decide +kernel]; rfl
theorem zm_100_2 : 2 < zml 100 := by rw [zml_100]; decide
theorem zm_100_3 : 3 < zml 100 := by rw [zml_100]; decide
theorem zi_101 {pc : Nat} {i : Instr} (h : zfind2 zt_101 pc = some i) : zi 101 pc = some i := h
theorem zml_101 : zml 101 = 4 := rfl
theorem zm_101_2 : 2 < zml 101 := by rw [zml_101]; decide
theorem zm_101_3 : 3 < zml 101 := by rw [zml_101]; decide
theorem zi_102 {pc : Nat} {i : Instr} (h : zfind2 zt_102 pc = some i) : zi 102 pc = some i := h
theorem zml_102 : zml 102 = 5 := rfl
theorem zm_102_3 : 3 < zml 102 := by rw [zml_102]; decide
theorem zm_102_4 : 4 < zml 102 := by rw [zml_102]; decide
theorem zi_103 {pc : Nat} {i : Instr} (h : zfind2 zt_103 pc = some i) : zi 103 pc = some i := h
theorem zml_103 : zml 103 = 3 := rfl
theorem zm_103_2 : 2 < zml 103 := by rw [zml_103]; decide
theorem zi_104 {pc : Nat} {i : Instr} (h : zfind2 zt_104 pc = some i) : zi 104 pc = some i := h
theorem zml_104 : zml 104 = 3 := rfl
theorem zm_104_2 : 2 < zml 104 := by rw [zml_104]; decide
theorem zi_105 {pc : Nat} {i : Instr} (h : zfind2 zt_105 pc = some i) : zi 105 pc = some i := h
theorem zml_105 : zml 105 = 4 := rfl
theorem zm_105_2 : 2 < zml 105 := by rw [zml_105]; decide
theorem zm_105_3 : 3 < zml 105 := by rw [zml_105]; decide
theorem zi_106 {pc : Nat} {i : Instr} (h : zfind2 zt_106 pc = some i) : zi 106 pc = some i := h
theorem zml_106 : zml 106 = 6 := rfl
theorem zm_106_1 : 1 < zml 106 := by rw [zml_106]; decide
theorem zm_106_2 : 2 < zml 106 := by rw [zml_106]; decide
theorem zm_106_3 : 3 < zml 106 := by rw [zml_106]; decide
theorem zm_106_4 : 4 < zml 106 := by rw [zml_106]; decide
theorem zm_106_5 : 5 < zml 106 := by rw [zml_106]; decide
theorem zi_107 {pc : Nat} {i : Instr} (h : zfind2 zt_107 pc = some i) : zi 107 pc = some i := h
theorem zml_107 : zml 107 = 4 := rfl
theorem zpb_107 (t : Nat) : (zini 107 && ((zcl t).1 == (zmeth 107).1.cls)) = false := by rw [show zini 107 = false by decide +kernel]; rfl
theorem zi_108 {pc : Nat} {i : Instr} (h : zfind2 zt_108 pc = some i) : zi 108 pc = some i := h
theorem zml_108 : zml 108 = 4 := rfl
theorem zpb_108 (t : Nat) : (zini 108 && ((zcl t).1 == (zmeth 108).1.cls)) = false := by rw [show zini 108 = false by decide +kernel]; rfl
theorem zi_109 {pc : Nat} {i : Instr} (h : zfind2 zt_109 pc = some i) : zi 109 pc = some i := h
theorem zml_109 : zml 109 = 3 := rfl
theorem zi_110 {pc : Nat} {i : Instr} (h : zfind2 zt_110 pc = some i) : zi 110 pc = some i := h
theorem zml_110 : zml 110 = 9 := rfl
theorem zm_110_5 : 5 < zml 110 := by rw [zml_110]; decide
theorem zm_110_6 : 6 < zml 110 := by rw [zml_110]; decide
theorem zm_110_7 : 7 < zml 110 := by rw [zml_110]; decide
theorem zm_110_8 : 8 < zml 110 := by rw [zml_110]; decide
theorem zi_111 {pc : Nat} {i : Instr} (h : zfind2 zt_111 pc = some i) : zi 111 pc = some i := h
theorem zml_111 : zml 111 = 3 := rfl
theorem zm_111_1 : 1 < zml 111 := by rw [zml_111]; decide
theorem zm_111_2 : 2 < zml 111 := by rw [zml_111]; decide
theorem zi_112 {pc : Nat} {i : Instr} (h : zfind2 zt_112 pc = some i) : zi 112 pc = some i := h
theorem zml_112 : zml 112 = 3 := rfl
theorem zi_113 {pc : Nat} {i : Instr} (h : zfind2 zt_113 pc = some i) : zi 113 pc = some i := h
theorem zml_113 : zml 113 = 6 := rfl
theorem zm_113_3 : 3 < zml 113 := by rw [zml_113]; decide
theorem zm_113_4 : 4 < zml 113 := by rw [zml_113]; decide
theorem zm_113_5 : 5 < zml 113 := by rw [zml_113]; decide
theorem zi_114 {pc : Nat} {i : Instr} (h : zfind2 zt_114 pc = some i) : zi 114 pc = some i := h
theorem zml_114 : zml 114 = 6 := rfl
theorem zm_114_3 : 3 < zml 114 := by rw [zml_114]; decide
theorem zm_114_4 : 4 < zml 114 := by rw [zml_114]; decide
theorem zm_114_5 : 5 < zml 114 := by rw [zml_114]; decide
theorem zi_115 {pc : Nat} {i : Instr} (h : zfind2 zt_115 pc = some i) : zi 115 pc = some i := h
theorem zml_115 : zml 115 = 5 := rfl
theorem zm_115_2 : 2 < zml 115 := by rw [zml_115]; decide
theorem zm_115_3 : 3 < zml 115 := by rw [zml_115]; decide
theorem zm_115_4 : 4 < zml 115 := by rw [zml_115]; decide
theorem zi_116 {pc : Nat} {i : Instr} (h : zfind2 zt_116 pc = some i) : zi 116 pc = some i := h
theorem zml_116 : zml 116 = 3 := rfl
theorem zpb_116 (t : Nat) : (zini 116 && ((zcl t).1 == (zmeth 116).1.cls)) = false := by rw [show zini 116 = false by decide +kernel]; rfl
theorem zi_117 {pc : Nat} {i : Instr} (h : zfind2 zt_117 pc = some i) : zi 117 pc = some i := h
theorem zml_117 : zml 117 = 4 := rfl
theorem zm_117_2 : 2 < zml 117 := by rw [zml_117]; decide
theorem zm_117_3 : 3 < zml 117 := by rw [zml_117]; decide
theorem zi_118 {pc : Nat} {i : Instr} (h : zfind2 zt_118 pc = some i) : zi 118 pc = some i := h
theorem zml_118 : zml 118 = 4 := rfl
theorem zpb_118 (t : Nat) : (zini 118 && ((zcl t).1 == (zmeth 118).1.cls)) = false := by rw [show zini 118 = false by decide +kernel]; rfl
theorem zm_118_3 : 3 < zml 118 := by rw [zml_118]; decide
theorem zi_119 {pc : Nat} {i : Instr} (h : zfind2 zt_119 pc = some i) : zi 119 pc = some i := h
theorem zml_119 : zml 119 = 3 := rfl
theorem zm_119_1 : 1 < zml 119 := by rw [zml_119]; decide
theorem zm_119_2 : 2 < zml 119 := by rw [zml_119]; decide
theorem zi_120 {pc : Nat} {i : Instr} (h : zfind2 zt_120 pc = some i) : zi 120 pc = some i := h
theorem zml_120 : zml 120 = 3 := rfl
theorem zpb_120 (t : Nat) : (zini 120 && ((zcl t).1 == (zmeth 120).1.cls)) = false := by rw [show zini 120 = false by decide +kernel]; rfl
theorem zi_121 {pc : Nat} {i : Instr} (h : zfind2 zt_121 pc = some i) : zi 121 pc = some i := h
theorem zml_121 : zml 121 = 3 := rfl
theorem zm_121_1 : 1 < zml 121 := by rw [zml_121]; decide
theorem zm_121_2 : 2 < zml 121 := by rw [zml_121]; decide
theorem zi_122 {pc : Nat} {i : Instr} (h : zfind2 zt_122 pc = some i) : zi 122 pc = some i := h
theorem zml_122 : zml 122 = 5 := rfl
theorem zm_122_3 : 3 < zml 122 := by rw [zml_122]; decide
theorem zm_122_4 : 4 < zml 122 := by rw [zml_122]; decide
theorem zi_123 {pc : Nat} {i : Instr} (h : zfind2 zt_123 pc = some i) : zi 123 pc = some i := h
theorem zml_123 : zml 123 = 1 := rfl
theorem zi_124 {pc : Nat} {i : Instr} (h : zfind2 zt_124 pc = some i) : zi 124 pc = some i := h
theorem zml_124 : zml 124 = 1 := rfl
theorem zpb_124 (t : Nat) : (zini 124 && ((zcl t).1 == (zmeth 124).1.cls)) = false := by rw [show zini 124 = false by decide +kernel]; rfl
theorem zi_125 {pc : Nat} {i : Instr} (h : zfind2 zt_125 pc = some i) : zi 125 pc = some i := h
theorem zml_125 : zml 125 = 2 := rfl
theorem zi_126 {pc : Nat} {i : Instr} (h : zfind2 zt_126 pc = some i) : zi 126 pc = some i := h
theorem zml_126 : zml 126 = 2 := rfl
theorem zpb_126 (t : Nat) : (zini 126 && ((zcl t).1 == (zmeth 126).1.cls)) = false := by rw [show zini 126 = false by decide +kernel]; rfl
theorem zi_127 {pc : Nat} {i : Instr} (h : zfind2 zt_127 pc = some i) : zi 127 pc = some i := h
theorem zml_127 : zml 127 = 1 := rfl
theorem zi_128 {pc : Nat} {i : Instr} (h : zfind2 zt_128 pc = some i) : zi 128 pc = some i := h
theorem zml_128 : zml 128 = 5 := rfl
theorem zpb_128 (t : Nat) : (zini 128 && ((zcl t).1 == (zmeth 128).1.cls)) = false := by rw [show zini 128 = false by decide +kernel]; rfl
theorem zm_128_4 : 4 < zml 128 := by rw [zml_128]; decide
theorem zi_129 {pc : Nat} {i : Instr} (h : zfind2 zt_129 pc = some i) : zi 129 pc = some i := h
theorem zml_129 : zml 129 = 4 := rfl
theorem zpb_129 (t : Nat) : (zini 129 && ((zcl t).1 == (zmeth 129).1.cls)) = false := by rw [show zini 129 = false by decide +kernel]; rfl
theorem zi_130 {pc : Nat} {i : Instr} (h : zfind2 zt_130 pc = some i) : zi 130 pc = some i := h
theorem zml_130 : zml 130 = 3 := rfl
theorem zi_131 {pc : Nat} {i : Instr} (h : zfind2 zt_131 pc = some i) : zi 131 pc = some i := h
theorem zml_131 : zml 131 = 2 := rfl
theorem zpb_131 (t : Nat) : (zini 131 && ((zcl t).1 == (zmeth 131).1.cls)) = false := by rw [show zini 131 = false by decide +kernel]; rfl
theorem zi_132 {pc : Nat} {i : Instr} (h : zfind2 zt_132 pc = some i) : zi 132 pc = some i := h
theorem zml_132 : zml 132 = 3 := rfl
theorem zi_133 {pc : Nat} {i : Instr} (h : zfind2 zt_133 pc = some i) : zi 133 pc = some i := h
theorem zml_133 : zml 133 = 3 := rfl
theorem zi_134 {pc : Nat} {i : Instr} (h : zfind2 zt_134 pc = some i) : zi 134 pc = some i := h
theorem zml_134 : zml 134 = 2 := rfl
theorem zi_135 {pc : Nat} {i : Instr} (h : zfind2 zt_135 pc = some i) : zi 135 pc = some i := h
theorem zml_135 : zml 135 = 5 := rfl
theorem zm_135_3 : 3 < zml 135 := by rw [zml_135]; decide
theorem zm_135_4 : 4 < zml 135 := by rw [zml_135]; decide
theorem zi_136 {pc : Nat} {i : Instr} (h : zfind2 zt_136 pc = some i) : zi 136 pc = some i := h
theorem zml_136 : zml 136 = 2 := rfl
theorem zi_137 {pc : Nat} {i : Instr} (h : zfind2 zt_137 pc = some i) : zi 137 pc = some i := h
theorem zml_137 : zml 137 = 4 := rfl
theorem zi_138 {pc : Nat} {i : Instr} (h : zfind2 zt_138 pc = some i) : zi 138 pc = some i := h
theorem zml_138 : zml 138 = 1 := rfl
theorem zpb_138 (t : Nat) : (zini 138 && ((zcl t).1 == (zmeth 138).1.cls)) = false := by rw [show zini 138 = false by decide +kernel]; rfl
theorem zi_139 {pc : Nat} {i : Instr} (h : zfind2 zt_139 pc = some i) : zi 139 pc = some i := h
theorem zml_139 : zml 139 = 3 := rfl
theorem zpb_139 (t : Nat) : (zini 139 && ((zcl t).1 == (zmeth 139).1.cls)) = false := by rw [show zini 139 = false by decide +kernel]; rfl
theorem zi_140 {pc : Nat} {i : Instr} (h : zfind2 zt_140 pc = some i) : zi 140 pc = some i := h
theorem zml_140 : zml 140 = 5 := rfl
theorem zm_140_3 : 3 < zml 140 := by rw [zml_140]; decide
theorem zm_140_4 : 4 < zml 140 := by rw [zml_140]; decide
theorem zi_141 {pc : Nat} {i : Instr} (h : zfind2 zt_141 pc = some i) : zi 141 pc = some i := h
theorem zml_141 : zml 141 = 6 := rfl
theorem zm_141_5 : 5 < zml 141 := by rw [zml_141]; decide
theorem zi_142 {pc : Nat} {i : Instr} (h : zfind2 zt_142 pc = some i) : zi 142 pc = some i := h
theorem zml_142 : zml 142 = 3 := rfl
theorem zi_143 {pc : Nat} {i : Instr} (h : zfind2 zt_143 pc = some i) : zi 143 pc = some i := h
theorem zml_143 : zml 143 = 3 := rfl
theorem zi_144 {pc : Nat} {i : Instr} (h : zfind2 zt_144 pc = some i) : zi 144 pc = some i := h
theorem zml_144 : zml 144 = 8 := rfl
theorem zm_144_6 : 6 < zml 144 := by rw [zml_144]; decide
theorem zm_144_7 : 7 < zml 144 := by rw [zml_144]; decide
theorem zi_145 {pc : Nat} {i : Instr} (h : zfind2 zt_145 pc = some i) : zi 145 pc = some i := h
theorem zml_145 : zml 145 = 1 := rfl
theorem zi_146 {pc : Nat} {i : Instr} (h : zfind2 zt_146 pc = some i) : zi 146 pc = some i := h
theorem zml_146 : zml 146 = 5 := rfl
theorem zpb_146 (t : Nat) : (zini 146 && ((zcl t).1 == (zmeth 146).1.cls)) = false := by rw [show zini 146 = false by decide +kernel]; rfl
theorem zm_146_4 : 4 < zml 146 := by rw [zml_146]; decide
theorem zi_147 {pc : Nat} {i : Instr} (h : zfind2 zt_147 pc = some i) : zi 147 pc = some i := h
theorem zml_147 : zml 147 = 4 := rfl
theorem zi_148 {pc : Nat} {i : Instr} (h : zfind2 zt_148 pc = some i) : zi 148 pc = some i := h
theorem zml_148 : zml 148 = 4 := rfl
theorem zm_148_3 : 3 < zml 148 := by rw [zml_148]; decide
theorem zi_149 {pc : Nat} {i : Instr} (h : zfind2 zt_149 pc = some i) : zi 149 pc = some i := h
theorem zml_149 : zml 149 = 2 := rfl
theorem zi_150 {pc : Nat} {i : Instr} (h : zfind2 zt_150 pc = some i) : zi 150 pc = some i := h
theorem zml_150 : zml 150 = 5 := rfl
theorem zm_150_4 : 4 < zml 150 := by rw [zml_150]; decide
theorem zi_151 {pc : Nat} {i : Instr} (h : zfind2 zt_151 pc = some i) : zi 151 pc = some i := h
theorem zml_151 : zml 151 = 2 := rfl
theorem zpb_151 (t : Nat) : (zini 151 && ((zcl t).1 == (zmeth 151).1.cls)) = false := by rw [show zini 151 = false by decide +kernel]; rfl
theorem zi_152 {pc : Nat} {i : Instr} (h : zfind2 zt_152 pc = some i) : zi 152 pc = some i := h
theorem zml_152 : zml 152 = 2 := rfl
theorem zpb_152 (t : Nat) : (zini 152 && ((zcl t).1 == (zmeth 152).1.cls)) = false := by rw [show zini 152 = false by decide +kernel]; rfl
theorem zm_152_1 : 1 < zml 152 := by rw [zml_152]; decide
theorem zi_153 {pc : Nat} {i : Instr} (h : zfind2 zt_153 pc = some i) : zi 153 pc = some i := h
theorem zml_153 : zml 153 = 3 := rfl
theorem zpb_153 (t : Nat) : (zini 153 && ((zcl t).1 == (zmeth 153).1.cls)) = false := by rw [show zini 153 = false by decide +kernel]; rfl
theorem zm_153_2 : 2 < zml 153 := by rw [zml_153]; decide
theorem zi_154 {pc : Nat} {i : Instr} (h : zfind2 zt_154 pc = some i) : zi 154 pc = some i := h
theorem zml_154 : zml 154 = 2 := rfl
theorem zi_155 {pc : Nat} {i : Instr} (h : zfind2 zt_155 pc = some i) : zi 155 pc = some i := h
theorem zml_155 : zml 155 = 2 := rfl
theorem zi_156 {pc : Nat} {i : Instr} (h : zfind2 zt_156 pc = some i) : zi 156 pc = some i := h
theorem zml_156 : zml 156 = 1 := rfl
theorem zi_157 {pc : Nat} {i : Instr} (h : zfind2 zt_157 pc = some i) : zi 157 pc = some i := h
theorem zml_157 : zml 157 = 4 := rfl
theorem zm_157_3 : 3 < zml 157 := by rw [zml_157]; decide
theorem zi_158 {pc : Nat} {i : Instr} (h : zfind2 zt_158 pc = some i) : zi 158 pc = some i := h
theorem zml_158 : zml 158 = 2 := rfl
theorem zpb_158 (t : Nat) : (zini 158 && ((zcl t).1 == (zmeth 158).1.cls)) = false := by rw [show zini 158 = false by decide +kernel]; rfl
theorem zi_159 {pc : Nat} {i : Instr} (h : zfind2 zt_159 pc = some i) : zi 159 pc = some i := h
theorem zml_159 : zml 159 = 2 := rfl
theorem zpb_159 (t : Nat) : (zini 159 && ((zcl t).1 == (zmeth 159).1.cls)) = false := by rw [show zini 159 = false by decide +kernel]; rfl
theorem zm_159_1 : 1 < zml 159 := by rw [zml_159]; decide
theorem zi_160 {pc : Nat} {i : Instr} (h : zfind2 zt_160 pc = some i) : zi 160 pc = some i := h
theorem zml_160 : zml 160 = 1 := rfl
theorem zi_161 {pc : Nat} {i : Instr} (h : zfind2 zt_161 pc = some i) : zi 161 pc = some i := h
theorem zml_161 : zml 161 = 4 := rfl
theorem zpb_161 (t : Nat) : (zini 161 && ((zcl t).1 == (zmeth 161).1.cls)) = false := by rw [show zini 161 = false by decide +kernel]; rfl
theorem zm_161_2 : 2 < zml 161 := by rw [zml_161]; decide
theorem zm_161_3 : 3 < zml 161 := by rw [zml_161]; decide
theorem zi_162 {pc : Nat} {i : Instr} (h : zfind2 zt_162 pc = some i) : zi 162 pc = some i := h
theorem zml_162 : zml 162 = 3 := rfl
theorem zpb_162 (t : Nat) : (zini 162 && ((zcl t).1 == (zmeth 162).1.cls)) = false := by rw [show zini 162 = false by decide +kernel]; rfl
theorem zm_162_1 : 1 < zml 162 := by rw [zml_162]; decide
theorem zm_162_2 : 2 < zml 162 := by rw [zml_162]; decide
theorem zi_163 {pc : Nat} {i : Instr} (h : zfind2 zt_163 pc = some i) : zi 163 pc = some i := h
theorem zml_163 : zml 163 = 2 := rfl
theorem zi_164 {pc : Nat} {i : Instr} (h : zfind2 zt_164 pc = some i) : zi 164 pc = some i := h
theorem zml_164 : zml 164 = 2 := rfl
theorem zpb_164 (t : Nat) : (zini 164 && ((zcl t).1 == (zmeth 164).1.cls)) = false := by rw [show zini 164 = false by decide +kernel]; rfl
theorem zi_165 {pc : Nat} {i : Instr} (h : zfind2 zt_165 pc = some i) : zi 165 pc = some i := h
theorem zml_165 : zml 165 = 1 := rfl
theorem zpb_165 (t : Nat) : (zini 165 && ((zcl t).1 == (zmeth 165).1.cls)) = false := by rw [show zini 165 = false by decide +kernel]; rfl
theorem zi_166 {pc : Nat} {i : Instr} (h : zfind2 zt_166 pc = some i) : zi 166 pc = some i := h
theorem zml_166 : zml 166 = 2 := rfl
theorem zpb_166 (t : Nat) : (zini 166 && ((zcl t).1 == (zmeth 166).1.cls)) = false := by rw [show zini 166 = false by decide +kernel]; rfl
theorem zi_167 {pc : Nat} {i : Instr} (h : zfind2 zt_167 pc = some i) : zi 167 pc = some i := h
theorem zml_167 : zml 167 = 3 := rfl
theorem zi_168 {pc : Nat} {i : Instr} (h : zfind2 zt_168 pc = some i) : zi 168 pc = some i := h
theorem zml_168 : zml 168 = 4 := rfl
theorem zm_168_2 : 2 < zml 168 := by rw [zml_168]; decide
theorem zm_168_3 : 3 < zml 168 := by rw [zml_168]; decide
theorem zi_169 {pc : Nat} {i : Instr} (h : zfind2 zt_169 pc = some i) : zi 169 pc = some i := h
theorem zml_169 : zml 169 = 1 := rfl
theorem zi_170 {pc : Nat} {i : Instr} (h : zfind2 zt_170 pc = some i) : zi 170 pc = some i := h
theorem zml_170 : zml 170 = 1 := rfl
theorem zi_171 {pc : Nat} {i : Instr} (h : zfind2 zt_171 pc = some i) : zi 171 pc = some i := h
theorem zml_171 : zml 171 = 8 := rfl
theorem zm_171_3 : 3 < zml 171 := by rw [zml_171]; decide
theorem zm_171_4 : 4 < zml 171 := by rw [zml_171]; decide
theorem zm_171_5 : 5 < zml 171 := by rw [zml_171]; decide
theorem zm_171_6 : 6 < zml 171 := by rw [zml_171]; decide
theorem zm_171_7 : 7 < zml 171 := by rw [zml_171]; decide
theorem zi_172 {pc : Nat} {i : Instr} (h : zfind2 zt_172 pc = some i) : zi 172 pc = some i := h
theorem zml_172 : zml 172 = 3 := rfl
theorem zi_173 {pc : Nat} {i : Instr} (h : zfind2 zt_173 pc = some i) : zi 173 pc = some i := h
theorem zml_173 : zml 173 = 2 := rfl
theorem zi_174 {pc : Nat} {i : Instr} (h : zfind2 zt_174 pc = some i) : zi 174 pc = some i := h
theorem zml_174 : zml 174 = 3 := rfl
theorem zm_174_2 : 2 < zml 174 := by rw [zml_174]; decide
theorem zi_175 {pc : Nat} {i : Instr} (h : zfind2 zt_175 pc = some i) : zi 175 pc = some i := h
theorem zml_175 : zml 175 = 3 := rfl
theorem zm_175_2 : 2 < zml 175 := by rw [zml_175]; decide
theorem zi_176 {pc : Nat} {i : Instr} (h : zfind2 zt_176 pc = some i) : zi 176 pc = some i := h
theorem zml_176 : zml 176 = 5 := rfl
theorem zm_176_3 : 3 < zml 176 := by rw [zml_176]; decide
theorem zm_176_4 : 4 < zml 176 := by rw [zml_176]; decide
theorem zi_177 {pc : Nat} {i : Instr} (h : zfind2 zt_177 pc = some i) : zi 177 pc = some i := h
theorem zml_177 : zml 177 = 3 := rfl
theorem zi_178 {pc : Nat} {i : Instr} (h : zfind2 zt_178 pc = some i) : zi 178 pc = some i := h
theorem zml_178 : zml 178 = 1 := rfl
theorem zi_179 {pc : Nat} {i : Instr} (h : zfind2 zt_179 pc = some i) : zi 179 pc = some i := h
theorem zml_179 : zml 179 = 3 := rfl
theorem zi_180 {pc : Nat} {i : Instr} (h : zfind2 zt_180 pc = some i) : zi 180 pc = some i := h
theorem zml_180 : zml 180 = 1 := rfl
theorem zi_181 {pc : Nat} {i : Instr} (h : zfind2 zt_181 pc = some i) : zi 181 pc = some i := h
theorem zml_181 : zml 181 = 4 := rfl
theorem zm_181_3 : 3 < zml 181 := by rw [zml_181]; decide
theorem zi_182 {pc : Nat} {i : Instr} (h : zfind2 zt_182 pc = some i) : zi 182 pc = some i := h
theorem zml_182 : zml 182 = 9 := rfl
theorem zm_182_2 : 2 < zml 182 := by rw [zml_182]; decide
theorem zm_182_3 : 3 < zml 182 := by rw [zml_182]; decide
theorem zm_182_4 : 4 < zml 182 := by rw [zml_182]; decide
theorem zm_182_5 : 5 < zml 182 := by rw [zml_182]; decide
theorem zm_182_6 : 6 < zml 182 := by rw [zml_182]; decide
theorem zm_182_7 : 7 < zml 182 := by rw [zml_182]; decide
theorem zm_182_8 : 8 < zml 182 := by rw [zml_182]; decide
theorem zi_183 {pc : Nat} {i : Instr} (h : zfind2 zt_183 pc = some i) : zi 183 pc = some i := h
theorem zml_183 : zml 183 = 5 := rfl
theorem zm_183_4 : 4 < zml 183 := by rw [zml_183]; decide
theorem zi_184 {pc : Nat} {i : Instr} (h : zfind2 zt_184 pc = some i) : zi 184 pc = some i := h
theorem zml_184 : zml 184 = 5 := rfl
theorem zm_184_4 : 4 < zml 184 := by rw [zml_184]; decide
theorem zi_185 {pc : Nat} {i : Instr} (h : zfind2 zt_185 pc = some i) : zi 185 pc = some i := h
theorem zml_185 : zml 185 = 9 := rfl
theorem zm_185_4 : 4 < zml 185 := by rw [zml_185]; decide
theorem zm_185_5 : 5 < zml 185 := by rw [zml_185]; decide
theorem zm_185_6 : 6 < zml 185 := by rw [zml_185]; decide
theorem zm_185_7 : 7 < zml 185 := by rw [zml_185]; decide
theorem zm_185_8 : 8 < zml 185 := by rw [zml_185]; decide
theorem zi_186 {pc : Nat} {i : Instr} (h : zfind2 zt_186 pc = some i) : zi 186 pc = some i := h
theorem zml_186 : zml 186 = 4 := rfl
theorem zm_186_2 : 2 < zml 186 := by rw [zml_186]; decide
theorem zm_186_3 : 3 < zml 186 := by rw [zml_186]; decide
theorem zi_187 {pc : Nat} {i : Instr} (h : zfind2 zt_187 pc = some i) : zi 187 pc = some i := h
theorem zml_187 : zml 187 = 2 := rfl
theorem zi_188 {pc : Nat} {i : Instr} (h : zfind2 zt_188 pc = some i) : zi 188 pc = some i := h
theorem zml_188 : zml 188 = 3 := rfl
theorem zm_188_1 : 1 < zml 188 := by rw [zml_188]; decide
theorem zm_188_2 : 2 < zml 188 := by rw [zml_188]; decide
theorem zi_189 {pc : Nat} {i : Instr} (h : zfind2 zt_189 pc = some i) : zi 189 pc = some i := h
theorem zml_189 : zml 189 = 2 := rfl
theorem zi_190 {pc : Nat} {i : Instr} (h : zfind2 zt_190 pc = some i) : zi 190 pc = some i := h
theorem zml_190 : zml 190 = 6 := rfl
theorem zpb_190 (t : Nat) : (zini 190 && ((zcl t).1 == (zmeth 190).1.cls)) = false := by rw [show zini 190 = false by decide +kernel]; rfl
theorem zm_190_3 : 3 < zml 190 := by rw [zml_190]; decide
theorem zm_190_4 : 4 < zml 190 := by rw [zml_190]; decide
theorem zm_190_5 : 5 < zml 190 := by rw [zml_190]; decide
theorem zi_191 {pc : Nat} {i : Instr} (h : zfind2 zt_191 pc = some i) : zi 191 pc = some i := h
theorem zml_191 : zml 191 = 4 := rfl
theorem zi_192 {pc : Nat} {i : Instr} (h : zfind2 zt_192 pc = some i) : zi 192 pc = some i := h
theorem zml_192 : zml 192 = 3 := rfl
theorem zpb_192 (t : Nat) : (zini 192 && ((zcl t).1 == (zmeth 192).1.cls)) = false := by rw [show zini 192 = false by decide +kernel]; rfl
theorem zm_192_2 : 2 < zml 192 := by rw [zml_192]; decide
theorem zi_193 {pc : Nat} {i : Instr} (h : zfind2 zt_193 pc = some i) : zi 193 pc = some i := h
theorem zml_193 : zml 193 = 2 := rfl
theorem zi_194 {pc : Nat} {i : Instr} (h : zfind2 zt_194 pc = some i) : zi 194 pc = some i := h
theorem zml_194 : zml 194 = 2 := rfl
theorem zi_195 {pc : Nat} {i : Instr} (h : zfind2 zt_195 pc = some i) : zi 195 pc = some i := h
theorem zml_195 : zml 195 = 3 := rfl
theorem zm_195_2 : 2 < zml 195 := by rw [zml_195]; decide
theorem zi_196 {pc : Nat} {i : Instr} (h : zfind2 zt_196 pc = some i) : zi 196 pc = some i := h
theorem zml_196 : zml 196 = 3 := rfl
theorem zpb_196 (t : Nat) : (zini 196 && ((zcl t).1 == (zmeth 196).1.cls)) = false := by rw [show zini 196 = false by decide +kernel]; rfl
theorem zm_196_1 : 1 < zml 196 := by rw [zml_196]; decide
theorem zm_196_2 : 2 < zml 196 := by rw [zml_196]; decide
theorem zi_197 {pc : Nat} {i : Instr} (h : zfind2 zt_197 pc = some i) : zi 197 pc = some i := h
theorem zml_197 : zml 197 = 4 := rfl
theorem zm_197_3 : 3 < zml 197 := by rw [zml_197]; decide
theorem zi_198 {pc : Nat} {i : Instr} (h : zfind2 zt_198 pc = some i) : zi 198 pc = some i := h
theorem zml_198 : zml 198 = 2 := rfl
theorem zpb_198 (t : Nat) : (zini 198 && ((zcl t).1 == (zmeth 198).1.cls)) = false := by rw [show zini 198 = false by decide +kernel]; rfl
theorem zm_198_1 : 1 < zml 198 := by rw [zml_198]; decide
theorem zi_199 {pc : Nat} {i : Instr} (h : zfind2 zt_199 pc = some i) : zi 199 pc = some i := h
theorem zml_199 : zml 199 = 2 := rfl
theorem zpb_199 (t : Nat) : (zini 199 && ((zcl t).1 == (zmeth 199).1.cls)) = false := by rw [show zini 199 = false by decide +kernel]; rfl
theorem zm_199_1 : 1 < zml 199 := by rw [zml_199]; decide
theorem zi_200 {pc : Nat} {i : Instr} (h : zfind2 zt_200 pc = some i) : zi 200 pc = some i := h
theorem zml_200 : zml 200 = 4 := rfl
theorem zm_200_2 : 2 < zml 200 := by rw [zml_200]; decide
theorem zm_200_3 : 3 < zml 200 := by rw [zml_200]; decide
theorem zi_201 {pc : Nat} {i : Instr} (h : zfind2 zt_201 pc = some i) : zi 201 pc = some i := h
theorem zml_201 : zml 201 = 7 := rfl
theorem zm_201_2 : 2 < zml 201 := by rw [zml_201]; decide
theorem zm_201_3 : 3 < zml 201 := by rw [zml_201]; decide
theorem zm_201_4 : 4 < zml 201 := by rw [zml_201]; decide
theorem zm_201_5 : 5 < zml 201 := by rw [zml_201]; decide
theorem zm_201_6 : 6 < zml 201 := by rw [zml_201]; decide
theorem zi_202 {pc : Nat} {i : Instr} (h : zfind2 zt_202 pc = some i) : zi 202 pc = some i := h
theorem zml_202 : zml 202 = 3 := rfl
theorem zpb_202 (t : Nat) : (zini 202 && ((zcl t).1 == (zmeth 202).1.cls)) = false := by rw [show zini 202 = false by decide +kernel]; rfl
theorem zm_202_1 : 1 < zml 202 := by rw [zml_202]; decide
theorem zm_202_2 : 2 < zml 202 := by rw [zml_202]; decide
theorem zi_203 {pc : Nat} {i : Instr} (h : zfind2 zt_203 pc = some i) : zi 203 pc = some i := h
theorem zml_203 : zml 203 = 5 := rfl
theorem zm_203_2 : 2 < zml 203 := by rw [zml_203]; decide
theorem zm_203_3 : 3 < zml 203 := by rw [zml_203]; decide
theorem zm_203_4 : 4 < zml 203 := by rw [zml_203]; decide
theorem zi_204 {pc : Nat} {i : Instr} (h : zfind2 zt_204 pc = some i) : zi 204 pc = some i := h
theorem zml_204 : zml 204 = 3 := rfl
theorem zi_205 {pc : Nat} {i : Instr} (h : zfind2 zt_205 pc = some i) : zi 205 pc = some i := h
theorem zml_205 : zml 205 = 2 := rfl
theorem zi_206 {pc : Nat} {i : Instr} (h : zfind2 zt_206 pc = some i) : zi 206 pc = some i := h
theorem zml_206 : zml 206 = 5 := rfl
theorem zm_206_1 : 1 < zml 206 := by rw [zml_206]; decide
theorem zm_206_2 : 2 < zml 206 := by rw [zml_206]; decide
theorem zm_206_3 : 3 < zml 206 := by rw [zml_206]; decide
theorem zm_206_4 : 4 < zml 206 := by rw [zml_206]; decide
theorem zi_207 {pc : Nat} {i : Instr} (h : zfind2 zt_207 pc = some i) : zi 207 pc = some i := h
theorem zml_207 : zml 207 = 4 := rfl
theorem zpb_207 (t : Nat) : (zini 207 && ((zcl t).1 == (zmeth 207).1.cls)) = false := by rw [show zini 207 = false by decide +kernel]; rfl
theorem zi_208 {pc : Nat} {i : Instr} (h : zfind2 zt_208 pc = some i) : zi 208 pc = some i := h
theorem zml_208 : zml 208 = 7 := rfl
theorem zm_208_3 : 3 < zml 208 := by rw [zml_208]; decide
theorem zm_208_4 : 4 < zml 208 := by rw [zml_208]; decide
theorem zm_208_5 : 5 < zml 208 := by rw [zml_208]; decide
theorem zm_208_6 : 6 < zml 208 := by rw [zml_208]; decide
theorem zi_209 {pc : Nat} {i : Instr} (h : zfind2 zt_209 pc = some i) : zi 209 pc = some i := h
theorem zml_209 : zml 209 = 3 := rfl
theorem zm_209_2 : 2 < zml 209 := by rw [zml_209]; decide
theorem zi_210 {pc : Nat} {i : Instr} (h : zfind2 zt_210 pc = some i) : zi 210 pc = some i := h
theorem zml_210 : zml 210 = 7 := rfl
theorem zm_210_3 : 3 < zml 210 := by rw [zml_210]; decide
theorem zm_210_4 : 4 < zml 210 := by rw [zml_210]; decide
theorem zm_210_5 : 5 < zml 210 := by rw [zml_210]; decide
theorem zm_210_6 : 6 < zml 210 := by rw [zml_210]; decide
theorem zi_211 {pc : Nat} {i : Instr} (h : zfind2 zt_211 pc = some i) : zi 211 pc = some i := h
theorem zml_211 : zml 211 = 5 := rfl
theorem zm_211_3 : 3 < zml 211 := by rw [zml_211]; decide
theorem zm_211_4 : 4 < zml 211 := by rw [zml_211]; decide
theorem zi_212 {pc : Nat} {i : Instr} (h : zfind2 zt_212 pc = some i) : zi 212 pc = some i := h
theorem zml_212 : zml 212 = 5 := rfl
theorem zm_212_4 : 4 < zml 212 := by rw [zml_212]; decide
theorem zi_213 {pc : Nat} {i : Instr} (h : zfind2 zt_213 pc = some i) : zi 213 pc = some i := h
theorem zml_213 : zml 213 = 6 := rfl
theorem zm_213_3 : 3 < zml 213 := by rw [zml_213]; decide
theorem zm_213_4 : 4 < zml 213 := by rw [zml_213]; decide
theorem zm_213_5 : 5 < zml 213 := by rw [zml_213]; decide
theorem zi_214 {pc : Nat} {i : Instr} (h : zfind2 zt_214 pc = some i) : zi 214 pc = some i := h
theorem zml_214 : zml 214 = 5 := rfl
theorem zm_214_2 : 2 < zml 214 := by rw [zml_214]; decide
theorem zm_214_3 : 3 < zml 214 := by rw [zml_214]; decide
theorem zm_214_4 : 4 < zml 214 := by rw [zml_214]; decide
theorem zi_215 {pc : Nat} {i : Instr} (h : zfind2 zt_215 pc = some i) : zi 215 pc = some i := h
theorem zml_215 : zml 215 = 3 := rfl
theorem zpb_215 (t : Nat) : (zini 215 && ((zcl t).1 == (zmeth 215).1.cls)) = false := by rw [show zini 215 = false by decide +kernel]; rfl
theorem zi_216 {pc : Nat} {i : Instr} (h : zfind2 zt_216 pc = some i) : zi 216 pc = some i := h
theorem zml_216 : zml 216 = 5 := rfl
theorem zm_216_2 : 2 < zml 216 := by rw [zml_216]; decide
theorem zm_216_3 : 3 < zml 216 := by rw [zml_216]; decide
theorem zm_216_4 : 4 < zml 216 := by rw [zml_216]; decide
theorem zi_217 {pc : Nat} {i : Instr} (h : zfind2 zt_217 pc = some i) : zi 217 pc = some i := h
theorem zml_217 : zml 217 = 3 := rfl
theorem zpb_217 (t : Nat) : (zini 217 && ((zcl t).1 == (zmeth 217).1.cls)) = false := by rw [show zini 217 = false by decide +kernel]; rfl
theorem zi_218 {pc : Nat} {i : Instr} (h : zfind2 zt_218 pc = some i) : zi 218 pc = some i := h
theorem zml_218 : zml 218 = 2 := rfl
theorem zm_218_1 : 1 < zml 218 := by rw [zml_218]; decide
theorem zi_219 {pc : Nat} {i : Instr} (h : zfind2 zt_219 pc = some i) : zi 219 pc = some i := h
theorem zml_219 : zml 219 = 4 := rfl
theorem zm_219_3 : 3 < zml 219 := by rw [zml_219]; decide
theorem zi_220 {pc : Nat} {i : Instr} (h : zfind2 zt_220 pc = some i) : zi 220 pc = some i := h
theorem zml_220 : zml 220 = 2 := rfl
theorem zi_221 {pc : Nat} {i : Instr} (h : zfind2 zt_221 pc = some i) : zi 221 pc = some i := h
theorem zml_221 : zml 221 = 2 := rfl
theorem zpb_221 (t : Nat) : (zini 221 && ((zcl t).1 == (zmeth 221).1.cls)) = false := by rw [show zini 221 = false by decide +kernel]; rfl
theorem zm_221_1 : 1 < zml 221 := by rw [zml_221]; decide
theorem zi_222 {pc : Nat} {i : Instr} (h : zfind2 zt_222 pc = some i) : zi 222 pc = some i := h
theorem zml_222 : zml 222 = 2 := rfl
theorem zpb_222 (t : Nat) : (zini 222 && ((zcl t).1 == (zmeth 222).1.cls)) = false := by rw [show zini 222 = false by decide +kernel]; rfl
theorem zm_222_1 : 1 < zml 222 := by rw [zml_222]; decide
theorem zi_223 {pc : Nat} {i : Instr} (h : zfind2 zt_223 pc = some i) : zi 223 pc = some i := h
theorem zml_223 : zml 223 = 4 := rfl
theorem zpb_223 (t : Nat) : (zini 223 && ((zcl t).1 == (zmeth 223).1.cls)) = false := by rw [show zini 223 = false by decide +kernel]; rfl
theorem zi_224 {pc : Nat} {i : Instr} (h : zfind2 zt_224 pc = some i) : zi 224 pc = some i := h
theorem zml_224 : zml 224 = 3 := rfl
theorem zi_225 {pc : Nat} {i : Instr} (h : zfind2 zt_225 pc = some i) : zi 225 pc = some i := h
theorem zml_225 : zml 225 = 2 := rfl
theorem zpb_225 (t : Nat) : (zini 225 && ((zcl t).1 == (zmeth 225).1.cls)) = false := by rw [show zini 225 = false by decide +kernel]; rfl
theorem zi_226 {pc : Nat} {i : Instr} (h : zfind2 zt_226 pc = some i) : zi 226 pc = some i := h
theorem zml_226 : zml 226 = 3 := rfl
theorem zi_227 {pc : Nat} {i : Instr} (h : zfind2 zt_227 pc = some i) : zi 227 pc = some i := h
theorem zml_227 : zml 227 = 4 := rfl
theorem zm_227_3 : 3 < zml 227 := by rw [zml_227]; decide
theorem zi_228 {pc : Nat} {i : Instr} (h : zfind2 zt_228 pc = some i) : zi 228 pc = some i := h
theorem zml_228 : zml 228 = 3 := rfl
theorem zi_229 {pc : Nat} {i : Instr} (h : zfind2 zt_229 pc = some i) : zi 229 pc = some i := h
theorem zml_229 : zml 229 = 3 := rfl
theorem zi_230 {pc : Nat} {i : Instr} (h : zfind2 zt_230 pc = some i) : zi 230 pc = some i := h
theorem zml_230 : zml 230 = 4 := rfl
theorem zm_230_3 : 3 < zml 230 := by rw [zml_230]; decide
theorem zi_231 {pc : Nat} {i : Instr} (h : zfind2 zt_231 pc = some i) : zi 231 pc = some i := h
theorem zml_231 : zml 231 = 3 := rfl
theorem zi_232 {pc : Nat} {i : Instr} (h : zfind2 zt_232 pc = some i) : zi 232 pc = some i := h
theorem zml_232 : zml 232 = 2 := rfl
theorem zi_233 {pc : Nat} {i : Instr} (h : zfind2 zt_233 pc = some i) : zi 233 pc = some i := h
theorem zml_233 : zml 233 = 4 := rfl
theorem zm_233_3 : 3 < zml 233 := by rw [zml_233]; decide
theorem zi_234 {pc : Nat} {i : Instr} (h : zfind2 zt_234 pc = some i) : zi 234 pc = some i := h
theorem zml_234 : zml 234 = 2 := rfl
theorem zi_235 {pc : Nat} {i : Instr} (h : zfind2 zt_235 pc = some i) : zi 235 pc = some i := h
theorem zml_235 : zml 235 = 5 := rfl
theorem zm_235_4 : 4 < zml 235 := by rw [zml_235]; decide
theorem zi_236 {pc : Nat} {i : Instr} (h : zfind2 zt_236 pc = some i) : zi 236 pc = some i := h
theorem zml_236 : zml 236 = 5 := rfl
theorem zi_237 {pc : Nat} {i : Instr} (h : zfind2 zt_237 pc = some i) : zi 237 pc = some i := h
theorem zml_237 : zml 237 = 4 := rfl
theorem zi_238 {pc : Nat} {i : Instr} (h : zfind2 zt_238 pc = some i) : zi 238 pc = some i := h
theorem zml_238 : zml 238 = 3 := rfl
theorem zi_239 {pc : Nat} {i : Instr} (h : zfind2 zt_239 pc = some i) : zi 239 pc = some i := h
theorem zml_239 : zml 239 = 7 := rfl
theorem zm_239_6 : 6 < zml 239 := by rw [zml_239]; decide
theorem zl_0_7 {k : Nat} (hk : zcid k = 0 := by rfl) : zlk k 7 = some (6, 11, 0, 115) := by unfold zlk; rw [hk]; rfl
theorem zl_0_9 {k : Nat} (hk : zcid k = 0 := by rfl) : zlk k 9 = some (2, 1, 0, 117) := by unfold zlk; rw [hk]; rfl
theorem zl_0_10 {k : Nat} (hk : zcid k = 0 := by rfl) : zlk k 10 = some (6, 12, 0, 1087) := by unfold zlk; rw [hk]; rfl
theorem zl_0_12 {k : Nat} (hk : zcid k = 0 := by rfl) : zlk k 12 = some (2, 145, 0, 1089) := by unfold zlk; rw [hk]; rfl
theorem zl_0_13 {k : Nat} (hk : zcid k = 0 := by rfl) : zlk k 13 = some (2, 13, 3, 469) := by unfold zlk; rw [hk]; rfl
theorem zl_0_17 {k : Nat} (hk : zcid k = 0 := by rfl) : zlk k 17 = some (2, 146, 3, 1320) := by unfold zlk; rw [hk]; rfl
theorem zl_0_18 {k : Nat} (hk : zcid k = 0 := by rfl) : zlk k 18 = some (2, 18, 2, 487) := by unfold zlk; rw [hk]; rfl
theorem zl_0_22 {k : Nat} (hk : zcid k = 0 := by rfl) : zlk k 22 = some (2, 167, 2, 1404) := by unfold zlk; rw [hk]; rfl
theorem zl_0_23 {k : Nat} (hk : zcid k = 0 := by rfl) : zlk k 23 = some (2, 48, 2, 610) := by unfold zlk; rw [hk]; rfl
theorem zl_0_26 {k : Nat} (hk : zcid k = 0 := by rfl) : zlk k 26 = some (2, 148, 2, 1328) := by unfold zlk; rw [hk]; rfl
theorem zl_0_27 {k : Nat} (hk : zcid k = 0 := by rfl) : zlk k 27 = some (2, 49, 3, 614) := by unfold zlk; rw [hk]; rfl
theorem zl_0_30 {k : Nat} (hk : zcid k = 0 := by rfl) : zlk k 30 = some (2, 150, 3, 1336) := by unfold zlk; rw [hk]; rfl
theorem zl_0_31 {k : Nat} (hk : zcid k = 0 := by rfl) : zlk k 31 = some (2, 50, 2, 618) := by unfold zlk; rw [hk]; rfl
theorem zl_0_34 {k : Nat} (hk : zcid k = 0 := by rfl) : zlk k 34 = some (2, 190, 2, 1496) := by unfold zlk; rw [hk]; rfl
theorem zl_0_35 {k : Nat} (hk : zcid k = 0 := by rfl) : zlk k 35 = some (2, 54, 3, 639) := by unfold zlk; rw [hk]; rfl
theorem zl_0_38 {k : Nat} (hk : zcid k = 0 := by rfl) : zlk k 38 = some (2, 191, 3, 1500) := by unfold zlk; rw [hk]; rfl
theorem zl_0_39 {k : Nat} (hk : zcid k = 0 := by rfl) : zlk k 39 = some (2, 56, 1, 646) := by unfold zlk; rw [hk]; rfl
theorem zl_0_43 {k : Nat} (hk : zcid k = 0 := by rfl) : zlk k 43 = some (2, 192, 1, 1504) := by unfold zlk; rw [hk]; rfl
theorem zl_0_44 {k : Nat} (hk : zcid k = 0 := by rfl) : zlk k 44 = some (2, 59, 1, 660) := by unfold zlk; rw [hk]; rfl
theorem zl_0_47 {k : Nat} (hk : zcid k = 0 := by rfl) : zlk k 47 = some (2, 151, 1, 1340) := by unfold zlk; rw [hk]; rfl
theorem zl_0_48 {k : Nat} (hk : zcid k = 0 := by rfl) : zlk k 48 = some (2, 60, 0, 664) := by unfold zlk; rw [hk]; rfl
theorem zl_0_52 {k : Nat} (hk : zcid k = 0 := by rfl) : zlk k 52 = some (2, 152, 0, 1344) := by unfold zlk; rw [hk]; rfl
theorem zl_0_53 {k : Nat} (hk : zcid k = 0 := by rfl) : zlk k 53 = some (2, 88, 1, 840) := by unfold zlk; rw [hk]; rfl
theorem zl_0_56 {k : Nat} (hk : zcid k = 0 := by rfl) : zlk k 56 = some (2, 187, 1, 1484) := by unfold zlk; rw [hk]; rfl
theorem zl_0_57 {k : Nat} (hk : zcid k = 0 := by rfl) : zlk k 57 = some (2, 91, 1, 854) := by unfold zlk; rw [hk]; rfl
theorem zl_0_60 {k : Nat} (hk : zcid k = 0 := by rfl) : zlk k 60 = some (2, 193, 1, 1509) := by unfold zlk; rw [hk]; rfl
theorem zl_0_61 {k : Nat} (hk : zcid k = 0 := by rfl) : zlk k 61 = some (2, 93, 2, 865) := by unfold zlk; rw [hk]; rfl
theorem zl_0_64 {k : Nat} (hk : zcid k = 0 := by rfl) : zlk k 64 = some (2, 197, 2, 1525) := by unfold zlk; rw [hk]; rfl
theorem zl_0_65 {k : Nat} (hk : zcid k = 0 := by rfl) : zlk k 65 = some (2, 96, 1, 878) := by unfold zlk; rw [hk]; rfl
theorem zl_0_68 {k : Nat} (hk : zcid k = 0 := by rfl) : zlk k 68 = some (2, 200, 1, 1537) := by unfold zlk; rw [hk]; rfl
theorem zl_0_69 {k : Nat} (hk : zcid k = 0 := by rfl) : zlk k 69 = some (2, 97, 1, 883) := by unfold zlk; rw [hk]; rfl
theorem zl_0_72 {k : Nat} (hk : zcid k = 0 := by rfl) : zlk k 72 = some (2, 201, 1, 1542) := by unfold zlk; rw [hk]; rfl
theorem zl_0_73 {k : Nat} (hk : zcid k = 0 := by rfl) : zlk k 73 = some (2, 104, 1, 917) := by unfold zlk; rw [hk]; rfl
theorem zl_0_76 {k : Nat} (hk : zcid k = 0 := by rfl) : zlk k 76 = some (2, 205, 1, 1558) := by unfold zlk; rw [hk]; rfl
theorem zl_0_77 {k : Nat} (hk : zcid k = 0 := by rfl) : zlk k 77 = some (2, 106, 0, 925) := by unfold zlk; rw [hk]; rfl
theorem zl_0_80 {k : Nat} (hk : zcid k = 0 := by rfl) : zlk k 80 = some (2, 206, 0, 1563) := by unfold zlk; rw [hk]; rfl
theorem zl_0_81 {k : Nat} (hk : zcid k = 0 := by rfl) : zlk k 81 = some (2, 107, 3, 929) := by unfold zlk; rw [hk]; rfl
theorem zl_0_85 {k : Nat} (hk : zcid k = 0 := by rfl) : zlk k 85 = some (2, 207, 3, 1568) := by unfold zlk; rw [hk]; rfl
theorem zl_0_86 {k : Nat} (hk : zcid k = 0 := by rfl) : zlk k 86 = some (2, 109, 2, 937) := by unfold zlk; rw [hk]; rfl
theorem zl_0_89 {k : Nat} (hk : zcid k = 0 := by rfl) : zlk k 89 = some (2, 208, 2, 1572) := by unfold zlk; rw [hk]; rfl
theorem zl_0_90 {k : Nat} (hk : zcid k = 0 := by rfl) : zlk k 90 = some (2, 112, 2, 950) := by unfold zlk; rw [hk]; rfl
theorem zl_0_93 {k : Nat} (hk : zcid k = 0 := by rfl) : zlk k 93 = some (2, 210, 2, 1580) := by unfold zlk; rw [hk]; rfl
theorem zl_0_94 {k : Nat} (hk : zcid k = 0 := by rfl) : zlk k 94 = some (2, 113, 2, 954) := by unfold zlk; rw [hk]; rfl
theorem zl_0_98 {k : Nat} (hk : zcid k = 0 := by rfl) : zlk k 98 = some (2, 211, 2, 1584) := by unfold zlk; rw [hk]; rfl
theorem zl_0_99 {k : Nat} (hk : zcid k = 0 := by rfl) : zlk k 99 = some (2, 115, 1, 962) := by unfold zlk; rw [hk]; rfl
theorem zl_0_103 {k : Nat} (hk : zcid k = 0 := by rfl) : zlk k 103 = some (2, 214, 1, 1597) := by unfold zlk; rw [hk]; rfl
theorem zl_0_104 {k : Nat} (hk : zcid k = 0 := by rfl) : zlk k 104 = some (2, 116, 2, 966) := by unfold zlk; rw [hk]; rfl
theorem zl_0_107 {k : Nat} (hk : zcid k = 0 := by rfl) : zlk k 107 = some (2, 215, 2, 1601) := by unfold zlk; rw [hk]; rfl
theorem zl_0_108 {k : Nat} (hk : zcid k = 0 := by rfl) : zlk k 108 = some (2, 117, 1, 970) := by unfold zlk; rw [hk]; rfl
theorem zl_0_111 {k : Nat} (hk : zcid k = 0 := by rfl) : zlk k 111 = some (2, 216, 1, 1605) := by unfold zlk; rw [hk]; rfl
theorem zl_0_112 {k : Nat} (hk : zcid k = 0 := by rfl) : zlk k 112 = some (2, 120, 2, 982) := by unfold zlk; rw [hk]; rfl
theorem zl_0_115 {k : Nat} (hk : zcid k = 0 := by rfl) : zlk k 115 = some (2, 217, 2, 1609) := by unfold zlk; rw [hk]; rfl
theorem zl_0_116 {k : Nat} (hk : zcid k = 0 := by rfl) : zlk k 116 = some (2, 121, 0, 986) := by unfold zlk; rw [hk]; rfl
theorem zl_0_119 {k : Nat} (hk : zcid k = 0 := by rfl) : zlk k 119 = some (2, 218, 0, 1613) := by unfold zlk; rw [hk]; rfl
theorem zl_0_120 {k : Nat} (hk : zcid k = 0 := by rfl) : zlk k 120 = some (2, 122, 2, 990) := by unfold zlk; rw [hk]; rfl
theorem zl_0_123 {k : Nat} (hk : zcid k = 0 := by rfl) : zlk k 123 = some (2, 219, 2, 1617) := by unfold zlk; rw [hk]; rfl
theorem zl_0_124 {k : Nat} (hk : zcid k = 0 := by rfl) : zlk k 124 = some (2, 124, 0, 998) := by unfold zlk; rw [hk]; rfl
theorem zl_0_127 {k : Nat} (hk : zcid k = 0 := by rfl) : zlk k 127 = some (2, 221, 0, 1625) := by unfold zlk; rw [hk]; rfl
theorem zl_0_128 {k : Nat} (hk : zcid k = 0 := by rfl) : zlk k 128 = some (2, 127, 0, 1013) := by unfold zlk; rw [hk]; rfl
theorem zl_0_131 {k : Nat} (hk : zcid k = 0 := by rfl) : zlk k 131 = some (2, 222, 0, 1629) := by unfold zlk; rw [hk]; rfl
theorem zl_0_132 {k : Nat} (hk : zcid k = 0 := by rfl) : zlk k 132 = some (2, 128, 3, 1017) := by unfold zlk; rw [hk]; rfl
theorem zl_0_135 {k : Nat} (hk : zcid k = 0 := by rfl) : zlk k 135 = some (2, 223, 3, 1633) := by unfold zlk; rw [hk]; rfl
theorem zl_0_136 {k : Nat} (hk : zcid k = 0 := by rfl) : zlk k 136 = some (2, 134, 1, 1041) := by unfold zlk; rw [hk]; rfl
theorem zl_0_139 {k : Nat} (hk : zcid k = 0 := by rfl) : zlk k 139 = some (2, 232, 1, 1669) := by unfold zlk; rw [hk]; rfl
theorem zl_0_140 {k : Nat} (hk : zcid k = 0 := by rfl) : zlk k 140 = some (2, 135, 2, 1045) := by unfold zlk; rw [hk]; rfl
theorem zl_0_143 {k : Nat} (hk : zcid k = 0 := by rfl) : zlk k 143 = some (2, 233, 2, 1673) := by unfold zlk; rw [hk]; rfl
theorem zl_0_144 {k : Nat} (hk : zcid k = 0 := by rfl) : zlk k 144 = some (2, 136, 1, 1051) := by unfold zlk; rw [hk]; rfl
theorem zl_0_147 {k : Nat} (hk : zcid k = 0 := by rfl) : zlk k 147 = some (2, 234, 1, 1677) := by unfold zlk; rw [hk]; rfl
theorem zl_0_148 {k : Nat} (hk : zcid k = 0 := by rfl) : zlk k 148 = some (2, 137, 3, 1055) := by unfold zlk; rw [hk]; rfl
theorem zl_0_151 {k : Nat} (hk : zcid k = 0 := by rfl) : zlk k 151 = some (2, 235, 3, 1681) := by unfold zlk; rw [hk]; rfl
theorem zl_0_154 {k : Nat} (hk : zcid k = 0 := by rfl) : zlk k 154 = some (2, 141, 3, 1070) := by unfold zlk; rw [hk]; rfl
theorem zl_0_158 {k : Nat} (hk : zcid k = 0 := by rfl) : zlk k 158 = some (2, 236, 3, 1685) := by unfold zlk; rw [hk]; rfl
theorem zl_0_159 {k : Nat} (hk : zcid k = 0 := by rfl) : zlk k 159 = some (2, 143, 2, 1078) := by unfold zlk; rw [hk]; rfl
theorem zl_0_162 {k : Nat} (hk : zcid k = 0 := by rfl) : zlk k 162 = some (2, 238, 2, 1693) := by unfold zlk; rw [hk]; rfl
theorem zl_0_163 {k : Nat} (hk : zcid k = 0 := by rfl) : zlk k 163 = some (2, 144, 5, 1082) := by unfold zlk; rw [hk]; rfl
theorem zl_0_167 {k : Nat} (hk : zcid k = 0 := by rfl) : zlk k 167 = some (2, 239, 5, 1697) := by unfold zlk; rw [hk]; rfl
theorem zl_1_3 {k : Nat} (hk : zcid k = 1 := by rfl) : zlk k 3 = some (4, 0, 0, 120) := by unfold zlk; rw [hk]; rfl
theorem zl_1_9 {k : Nat} (hk : zcid k = 1 := by rfl) : zlk k 9 = some (6, 7, 0, 123) := by unfold zlk; rw [hk]; rfl
theorem zl_1_11 {k : Nat} (hk : zcid k = 1 := by rfl) : zlk k 11 = some (3, 2, 0, 125) := by unfold zlk; rw [hk]; rfl
theorem zl_1_12 {k : Nat} (hk : zcid k = 1 := by rfl) : zlk k 12 = some (0, 11, 0, 423) := by unfold zlk; rw [hk]; rfl
theorem zl_1_18 {k : Nat} (hk : zcid k = 1 := by rfl) : zlk k 18 = some (0, 11, 1, 424) := by unfold zlk; rw [hk]; rfl
theorem zl_1_21 {k : Nat} (hk : zcid k = 1 := by rfl) : zlk k 21 = some (0, 11, 2, 425) := by unfold zlk; rw [hk]; rfl
theorem zl_1_25 {k : Nat} (hk : zcid k = 1 := by rfl) : zlk k 25 = some (6, 10, 0, 251) := by unfold zlk; rw [hk]; rfl
theorem zl_1_27 {k : Nat} (hk : zcid k = 1 := by rfl) : zlk k 27 = some (2, 3, 0, 252) := by unfold zlk; rw [hk]; rfl
theorem zl_1_28 {k : Nat} (hk : zcid k = 1 := by rfl) : zlk k 28 = some (0, 11, 3, 426) := by unfold zlk; rw [hk]; rfl
theorem zl_1_32 {k : Nat} (hk : zcid k = 1 := by rfl) : zlk k 32 = some (0, 11, 4, 427) := by unfold zlk; rw [hk]; rfl
theorem zl_1_36 {k : Nat} (hk : zcid k = 1 := by rfl) : zlk k 36 = some (0, 11, 5, 428) := by unfold zlk; rw [hk]; rfl
theorem zl_1_40 {k : Nat} (hk : zcid k = 1 := by rfl) : zlk k 40 = some (6, 3, 24, 253) := by unfold zlk; rw [hk]; rfl
theorem zl_1_42 {k : Nat} (hk : zcid k = 1 := by rfl) : zlk k 42 = some (0, 11, 6, 429) := by unfold zlk; rw [hk]; rfl
theorem zl_1_46 {k : Nat} (hk : zcid k = 1 := by rfl) : zlk k 46 = some (0, 11, 7, 430) := by unfold zlk; rw [hk]; rfl
theorem zl_1_49 {k : Nat} (hk : zcid k = 1 := by rfl) : zlk k 49 = some (3, 6, 0, 256) := by unfold zlk; rw [hk]; rfl
theorem zl_1_50 {k : Nat} (hk : zcid k = 1 := by rfl) : zlk k 50 = some (0, 11, 8, 431) := by unfold zlk; rw [hk]; rfl
theorem zl_1_54 {k : Nat} (hk : zcid k = 1 := by rfl) : zlk k 54 = some (6, 4, 0, 281) := by unfold zlk; rw [hk]; rfl
theorem zl_1_56 {k : Nat} (hk : zcid k = 1 := by rfl) : zlk k 56 = some (3, 7, 0, 283) := by unfold zlk; rw [hk]; rfl
theorem zl_1_57 {k : Nat} (hk : zcid k = 1 := by rfl) : zlk k 57 = some (0, 11, 9, 432) := by unfold zlk; rw [hk]; rfl
theorem zl_1_61 {k : Nat} (hk : zcid k = 1 := by rfl) : zlk k 61 = some (6, 2, 0, 302) := by unfold zlk; rw [hk]; rfl
theorem zl_1_63 {k : Nat} (hk : zcid k = 1 := by rfl) : zlk k 63 = some (3, 8, 0, 304) := by unfold zlk; rw [hk]; rfl
theorem zl_1_64 {k : Nat} (hk : zcid k = 1 := by rfl) : zlk k 64 = some (0, 11, 10, 433) := by unfold zlk; rw [hk]; rfl
theorem zl_1_68 {k : Nat} (hk : zcid k = 1 := by rfl) : zlk k 68 = some (6, 9, 0, 322) := by unfold zlk; rw [hk]; rfl
theorem zl_1_70 {k : Nat} (hk : zcid k = 1 := by rfl) : zlk k 70 = some (3, 9, 0, 324) := by unfold zlk; rw [hk]; rfl
theorem zl_1_71 {k : Nat} (hk : zcid k = 1 := by rfl) : zlk k 71 = some (0, 11, 11, 434) := by unfold zlk; rw [hk]; rfl
theorem zl_1_75 {k : Nat} (hk : zcid k = 1 := by rfl) : zlk k 75 = some (6, 5, 0, 352) := by unfold zlk; rw [hk]; rfl
theorem zl_1_77 {k : Nat} (hk : zcid k = 1 := by rfl) : zlk k 77 = some (3, 10, 0, 354) := by unfold zlk; rw [hk]; rfl
theorem zl_1_78 {k : Nat} (hk : zcid k = 1 := by rfl) : zlk k 78 = some (0, 11, 12, 435) := by unfold zlk; rw [hk]; rfl
theorem zl_1_82 {k : Nat} (hk : zcid k = 1 := by rfl) : zlk k 82 = some (6, 0, 0, 378) := by unfold zlk; rw [hk]; rfl
theorem zl_1_84 {k : Nat} (hk : zcid k = 1 := by rfl) : zlk k 84 = some (3, 11, 0, 380) := by unfold zlk; rw [hk]; rfl
theorem zl_1_85 {k : Nat} (hk : zcid k = 1 := by rfl) : zlk k 85 = some (0, 11, 13, 436) := by unfold zlk; rw [hk]; rfl
theorem zl_1_89 {k : Nat} (hk : zcid k = 1 := by rfl) : zlk k 89 = some (6, 8, 25, 402) := by unfold zlk; rw [hk]; rfl
theorem zl_1_91 {k : Nat} (hk : zcid k = 1 := by rfl) : zlk k 91 = some (0, 11, 14, 437) := by unfold zlk; rw [hk]; rfl
theorem zl_1_95 {k : Nat} (hk : zcid k = 1 := by rfl) : zlk k 95 = some (3, 12, 0, 405) := by unfold zlk; rw [hk]; rfl
theorem zl_1_96 {k : Nat} (hk : zcid k = 1 := by rfl) : zlk k 96 = some (2, 14, 3, 473) := by unfold zlk; rw [hk]; rfl
theorem zl_1_100 {k : Nat} (hk : zcid k = 1 := by rfl) : zlk k 100 = some (0, 7, 0, 235) := by unfold zlk; rw [hk]; rfl
theorem zl_1_103 {k : Nat} (hk : zcid k = 1 := by rfl) : zlk k 103 = some (2, 15, 0, 476) := by unfold zlk; rw [hk]; rfl
theorem zl_1_107 {k : Nat} (hk : zcid k = 1 := by rfl) : zlk k 107 = some (2, 16, 3, 480) := by unfold zlk; rw [hk]; rfl
theorem zl_1_113 {k : Nat} (hk : zcid k = 1 := by rfl) : zlk k 113 = some (0, 1, 0, 144) := by unfold zlk; rw [hk]; rfl
theorem zl_1_116 {k : Nat} (hk : zcid k = 1 := by rfl) : zlk k 116 = some (2, 19, 1, 491) := by unfold zlk; rw [hk]; rfl
theorem zl_1_120 {k : Nat} (hk : zcid k = 1 := by rfl) : zlk k 120 = some (0, 1, 1, 149) := by unfold zlk; rw [hk]; rfl
theorem zl_1_123 {k : Nat} (hk : zcid k = 1 := by rfl) : zlk k 123 = some (0, 1, 2, 155) := by unfold zlk; rw [hk]; rfl
theorem zl_1_126 {k : Nat} (hk : zcid k = 1 := by rfl) : zlk k 126 = some (0, 1, 3, 158) := by unfold zlk; rw [hk]; rfl
theorem zl_1_129 {k : Nat} (hk : zcid k = 1 := by rfl) : zlk k 129 = some (0, 1, 4, 163) := by unfold zlk; rw [hk]; rfl
theorem zl_1_132 {k : Nat} (hk : zcid k = 1 := by rfl) : zlk k 132 = some (0, 1, 5, 167) := by unfold zlk; rw [hk]; rfl
theorem zl_1_135 {k : Nat} (hk : zcid k = 1 := by rfl) : zlk k 135 = some (2, 20, 0, 496) := by unfold zlk; rw [hk]; rfl
theorem zl_1_139 {k : Nat} (hk : zcid k = 1 := by rfl) : zlk k 139 = some (0, 10, 3, 194) := by unfold zlk; rw [hk]; rfl
theorem zl_1_142 {k : Nat} (hk : zcid k = 1 := by rfl) : zlk k 142 = some (2, 21, 2, 500) := by unfold zlk; rw [hk]; rfl
theorem zl_1_146 {k : Nat} (hk : zcid k = 1 := by rfl) : zlk k 146 = some (2, 25, 3, 513) := by unfold zlk; rw [hk]; rfl
theorem zl_1_150 {k : Nat} (hk : zcid k = 1 := by rfl) : zlk k 150 = some (0, 3, 4, 267) := by unfold zlk; rw [hk]; rfl
theorem zl_1_153 {k : Nat} (hk : zcid k = 1 := by rfl) : zlk k 153 = some (2, 26, 2, 517) := by unfold zlk; rw [hk]; rfl
theorem zl_1_156 {k : Nat} (hk : zcid k = 1 := by rfl) : zlk k 156 = some (2, 27, 2, 520) := by unfold zlk; rw [hk]; rfl
theorem zl_1_159 {k : Nat} (hk : zcid k = 1 := by rfl) : zlk k 159 = some (2, 28, 3, 524) := by unfold zlk; rw [hk]; rfl
theorem zl_1_163 {k : Nat} (hk : zcid k = 1 := by rfl) : zlk k 163 = some (2, 33, 1, 546) := by unfold zlk; rw [hk]; rfl
theorem zl_1_167 {k : Nat} (hk : zcid k = 1 := by rfl) : zlk k 167 = some (2, 34, 1, 550) := by unfold zlk; rw [hk]; rfl
theorem zl_1_170 {k : Nat} (hk : zcid k = 1 := by rfl) : zlk k 170 = some (2, 42, 1, 585) := by unfold zlk; rw [hk]; rfl
theorem zl_1_173 {k : Nat} (hk : zcid k = 1 := by rfl) : zlk k 173 = some (2, 45, 1, 597) := by unfold zlk; rw [hk]; rfl
theorem zl_1_176 {k : Nat} (hk : zcid k = 1 := by rfl) : zlk k 176 = some (2, 46, 1, 602) := by unfold zlk; rw [hk]; rfl
theorem zl_1_179 {k : Nat} (hk : zcid k = 1 := by rfl) : zlk k 179 = some (2, 47, 1, 606) := by unfold zlk; rw [hk]; rfl
theorem zl_1_182 {k : Nat} (hk : zcid k = 1 := by rfl) : zlk k 182 = some (0, 1, 6, 170) := by unfold zlk; rw [hk]; rfl
theorem zl_1_186 {k : Nat} (hk : zcid k = 1 := by rfl) : zlk k 186 = some (2, 51, 3, 622) := by unfold zlk; rw [hk]; rfl
theorem zl_1_190 {k : Nat} (hk : zcid k = 1 := by rfl) : zlk k 190 = some (2, 24, 2, 516) := by unfold zlk; rw [hk]; rfl
theorem zl_1_196 {k : Nat} (hk : zcid k = 1 := by rfl) : zlk k 196 = some (2, 53, 1, 632) := by unfold zlk; rw [hk]; rfl
theorem zl_1_200 {k : Nat} (hk : zcid k = 1 := by rfl) : zlk k 200 = some (2, 55, 2, 643) := by unfold zlk; rw [hk]; rfl
theorem zl_1_204 {k : Nat} (hk : zcid k = 1 := by rfl) : zlk k 204 = some (2, 57, 0, 650) := by unfold zlk; rw [hk]; rfl
theorem zl_1_208 {k : Nat} (hk : zcid k = 1 := by rfl) : zlk k 208 = some (2, 58, 2, 654) := by unfold zlk; rw [hk]; rfl
theorem zl_1_213 {k : Nat} (hk : zcid k = 1 := by rfl) : zlk k 213 = some (0, 10, 2, 192) := by unfold zlk; rw [hk]; rfl
theorem zl_1_216 {k : Nat} (hk : zcid k = 1 := by rfl) : zlk k 216 = some (2, 37, 2, 659) := by unfold zlk; rw [hk]; rfl
theorem zl_1_219 {k : Nat} (hk : zcid k = 1 := by rfl) : zlk k 219 = some (2, 61, 3, 668) := by unfold zlk; rw [hk]; rfl
theorem zl_1_223 {k : Nat} (hk : zcid k = 1 := by rfl) : zlk k 223 = some (0, 10, 4, 196) := by unfold zlk; rw [hk]; rfl
theorem zl_1_226 {k : Nat} (hk : zcid k = 1 := by rfl) : zlk k 226 = some (2, 31, 0, 844) := by unfold zlk; rw [hk]; rfl
theorem zl_1_230 {k : Nat} (hk : zcid k = 1 := by rfl) : zlk k 230 = some (2, 32, 0, 845) := by unfold zlk; rw [hk]; rfl
theorem zl_1_233 {k : Nat} (hk : zcid k = 1 := by rfl) : zlk k 233 = some (2, 89, 1, 846) := by unfold zlk; rw [hk]; rfl
theorem zl_1_237 {k : Nat} (hk : zcid k = 1 := by rfl) : zlk k 237 = some (2, 92, 2, 858) := by unfold zlk; rw [hk]; rfl
theorem zl_1_241 {k : Nat} (hk : zcid k = 1 := by rfl) : zlk k 241 = some (2, 94, 1, 869) := by unfold zlk; rw [hk]; rfl
theorem zl_1_245 {k : Nat} (hk : zcid k = 1 := by rfl) : zlk k 245 = some (2, 90, 2, 850) := by unfold zlk; rw [hk]; rfl
theorem zl_1_249 {k : Nat} (hk : zcid k = 1 := by rfl) : zlk k 249 = some (2, 98, 0, 887) := by unfold zlk; rw [hk]; rfl
theorem zl_1_252 {k : Nat} (hk : zcid k = 1 := by rfl) : zlk k 252 = some (0, 5, 3, 365) := by unfold zlk; rw [hk]; rfl
theorem zl_1_255 {k : Nat} (hk : zcid k = 1 := by rfl) : zlk k 255 = some (0, 5, 2, 363) := by unfold zlk; rw [hk]; rfl
theorem zl_1_258 {k : Nat} (hk : zcid k = 1 := by rfl) : zlk k 258 = some (0, 5, 1, 361) := by unfold zlk; rw [hk]; rfl
theorem zl_1_261 {k : Nat} (hk : zcid k = 1 := by rfl) : zlk k 261 = some (0, 10, 1, 190) := by unfold zlk; rw [hk]; rfl
theorem zl_1_264 {k : Nat} (hk : zcid k = 1 := by rfl) : zlk k 264 = some (0, 10, 0, 188) := by unfold zlk; rw [hk]; rfl
theorem zl_1_268 {k : Nat} (hk : zcid k = 1 := by rfl) : zlk k 268 = some (2, 99, 1, 891) := by unfold zlk; rw [hk]; rfl
theorem zl_1_273 {k : Nat} (hk : zcid k = 1 := by rfl) : zlk k 273 = some (0, 5, 0, 359) := by unfold zlk; rw [hk]; rfl
theorem zl_1_276 {k : Nat} (hk : zcid k = 1 := by rfl) : zlk k 276 = some (2, 100, 1, 897) := by unfold zlk; rw [hk]; rfl
theorem zl_1_279 {k : Nat} (hk : zcid k = 1 := by rfl) : zlk k 279 = some (2, 105, 1, 921) := by unfold zlk; rw [hk]; rfl
theorem zl_1_283 {k : Nat} (hk : zcid k = 1 := by rfl) : zlk k 283 = some (0, 7, 1, 237) := by unfold zlk; rw [hk]; rfl
theorem zl_1_287 {k : Nat} (hk : zcid k = 1 := by rfl) : zlk k 287 = some (0, 6, 4, 222) := by unfold zlk; rw [hk]; rfl
theorem zl_1_292 {k : Nat} (hk : zcid k = 1 := by rfl) : zlk k 292 = some (2, 108, 3, 933) := by unfold zlk; rw [hk]; rfl
theorem zl_1_295 {k : Nat} (hk : zcid k = 1 := by rfl) : zlk k 295 = some (2, 110, 4, 941) := by unfold zlk; rw [hk]; rfl
theorem zl_1_299 {k : Nat} (hk : zcid k = 1 := by rfl) : zlk k 299 = some (2, 29, 4, 945) := by unfold zlk; rw [hk]; rfl
theorem zl_1_303 {k : Nat} (hk : zcid k = 1 := by rfl) : zlk k 303 = some (2, 111, 0, 946) := by unfold zlk; rw [hk]; rfl
theorem zl_1_306 {k : Nat} (hk : zcid k = 1 := by rfl) : zlk k 306 = some (0, 6, 2, 218) := by unfold zlk; rw [hk]; rfl
theorem zl_1_309 {k : Nat} (hk : zcid k = 1 := by rfl) : zlk k 309 = some (0, 6, 1, 216) := by unfold zlk; rw [hk]; rfl
theorem zl_1_312 {k : Nat} (hk : zcid k = 1 := by rfl) : zlk k 312 = some (2, 41, 2, 631) := by unfold zlk; rw [hk]; rfl
theorem zl_1_315 {k : Nat} (hk : zcid k = 1 := by rfl) : zlk k 315 = some (0, 6, 3, 220) := by unfold zlk; rw [hk]; rfl
theorem zl_1_320 {k : Nat} (hk : zcid k = 1 := by rfl) : zlk k 320 = some (2, 52, 2, 626) := by unfold zlk; rw [hk]; rfl
theorem zl_1_323 {k : Nat} (hk : zcid k = 1 := by rfl) : zlk k 323 = some (2, 114, 3, 959) := by unfold zlk; rw [hk]; rfl
theorem zl_1_327 {k : Nat} (hk : zcid k = 1 := by rfl) : zlk k 327 = some (0, 7, 2, 239) := by unfold zlk; rw [hk]; rfl
theorem zl_1_330 {k : Nat} (hk : zcid k = 1 := by rfl) : zlk k 330 = some (2, 95, 1, 873) := by unfold zlk; rw [hk]; rfl
theorem zl_1_333 {k : Nat} (hk : zcid k = 1 := by rfl) : zlk k 333 = some (2, 118, 2, 974) := by unfold zlk; rw [hk]; rfl
theorem zl_1_337 {k : Nat} (hk : zcid k = 1 := by rfl) : zlk k 337 = some (2, 119, 0, 978) := by unfold zlk; rw [hk]; rfl
theorem zl_1_340 {k : Nat} (hk : zcid k = 1 := by rfl) : zlk k 340 = some (0, 7, 3, 241) := by unfold zlk; rw [hk]; rfl
theorem zl_1_343 {k : Nat} (hk : zcid k = 1 := by rfl) : zlk k 343 = some (2, 123, 0, 994) := by unfold zlk; rw [hk]; rfl
theorem zl_1_346 {k : Nat} (hk : zcid k = 1 := by rfl) : zlk k 346 = some (0, 8, 1, 412) := by unfold zlk; rw [hk]; rfl
theorem zl_1_349 {k : Nat} (hk : zcid k = 1 := by rfl) : zlk k 349 = some (0, 8, 2, 414) := by unfold zlk; rw [hk]; rfl
theorem zl_1_350 {k : Nat} (hk : zcid k = 1 := by rfl) : zlk k 350 = some (0, 8, 0, 410) := by unfold zlk; rw [hk]; rfl
theorem zl_1_354 {k : Nat} (hk : zcid k = 1 := by rfl) : zlk k 354 = some (2, 125, 1, 1002) := by unfold zlk; rw [hk]; rfl
theorem zl_1_357 {k : Nat} (hk : zcid k = 1 := by rfl) : zlk k 357 = some (0, 0, 1, 387) := by unfold zlk; rw [hk]; rfl
theorem zl_1_360 {k : Nat} (hk : zcid k = 1 := by rfl) : zlk k 360 = some (2, 129, 3, 1021) := by unfold zlk; rw [hk]; rfl
theorem zl_1_364 {k : Nat} (hk : zcid k = 1 := by rfl) : zlk k 364 = some (0, 0, 0, 385) := by unfold zlk; rw [hk]; rfl
theorem zl_1_367 {k : Nat} (hk : zcid k = 1 := by rfl) : zlk k 367 = some (1, 0, 0, 1049) := by unfold zlk; rw [hk]; rfl
theorem zl_1_370 {k : Nat} (hk : zcid k = 1 := by rfl) : zlk k 370 = some (2, 138, 0, 1059) := by unfold zlk; rw [hk]; rfl
theorem zl_1_373 {k : Nat} (hk : zcid k = 1 := by rfl) : zlk k 373 = some (2, 139, 2, 1063) := by unfold zlk; rw [hk]; rfl
theorem zl_1_375 {k : Nat} (hk : zcid k = 1 := by rfl) : zlk k 375 = some (2, 142, 1, 1074) := by unfold zlk; rw [hk]; rfl
theorem zl_1_379 {k : Nat} (hk : zcid k = 1 := by rfl) : zlk k 379 = some (5, 0, 0, 1086) := by unfold zlk; rw [hk]; rfl
theorem zl_2_3 {k : Nat} (hk : zcid k = 2 := by rfl) : zlk k 3 = some (4, 0, 0, 128) := by unfold zlk; rw [hk]; rfl
theorem zl_2_9 {k : Nat} (hk : zcid k = 2 := by rfl) : zlk k 9 = some (6, 10, 0, 129) := by unfold zlk; rw [hk]; rfl
theorem zl_2_11 {k : Nat} (hk : zcid k = 2 := by rfl) : zlk k 11 = some (2, 3, 0, 131) := by unfold zlk; rw [hk]; rfl
theorem zl_2_12 {k : Nat} (hk : zcid k = 2 := by rfl) : zlk k 12 = some (0, 7, 0, 234) := by unfold zlk; rw [hk]; rfl
theorem zl_2_18 {k : Nat} (hk : zcid k = 2 := by rfl) : zlk k 18 = some (6, 6, 0, 208) := by unfold zlk; rw [hk]; rfl
theorem zl_2_20 {k : Nat} (hk : zcid k = 2 := by rfl) : zlk k 20 = some (2, 5, 1, 210) := by unfold zlk; rw [hk]; rfl
theorem zl_2_23 {k : Nat} (hk : zcid k = 2 := by rfl) : zlk k 23 = some (0, 7, 1, 236) := by unfold zlk; rw [hk]; rfl
theorem zl_2_27 {k : Nat} (hk : zcid k = 2 := by rfl) : zlk k 27 = some (0, 7, 2, 238) := by unfold zlk; rw [hk]; rfl
theorem zl_2_30 {k : Nat} (hk : zcid k = 2 := by rfl) : zlk k 30 = some (0, 7, 3, 240) := by unfold zlk; rw [hk]; rfl
theorem zl_2_33 {k : Nat} (hk : zcid k = 2 := by rfl) : zlk k 33 = some (2, 95, 1, 1006) := by unfold zlk; rw [hk]; rfl
theorem zl_2_37 {k : Nat} (hk : zcid k = 2 := by rfl) : zlk k 37 = some (2, 126, 1, 1007) := by unfold zlk; rw [hk]; rfl
theorem zl_3_3 {k : Nat} (hk : zcid k = 3 := by rfl) : zlk k 3 = some (4, 0, 0, 134) := by unfold zlk; rw [hk]; rfl
theorem zl_3_9 {k : Nat} (hk : zcid k = 3 := by rfl) : zlk k 9 = some (6, 1, 26, 135) := by unfold zlk; rw [hk]; rfl
theorem zl_3_11 {k : Nat} (hk : zcid k = 3 := by rfl) : zlk k 11 = some (0, 10, 0, 187) := by unfold zlk; rw [hk]; rfl
theorem zl_3_17 {k : Nat} (hk : zcid k = 3 := by rfl) : zlk k 17 = some (0, 10, 1, 189) := by unfold zlk; rw [hk]; rfl
theorem zl_3_21 {k : Nat} (hk : zcid k = 3 := by rfl) : zlk k 21 = some (0, 10, 2, 191) := by unfold zlk; rw [hk]; rfl
theorem zl_3_24 {k : Nat} (hk : zcid k = 3 := by rfl) : zlk k 24 = some (0, 10, 3, 193) := by unfold zlk; rw [hk]; rfl
theorem zl_3_27 {k : Nat} (hk : zcid k = 3 := by rfl) : zlk k 27 = some (0, 10, 4, 195) := by unfold zlk; rw [hk]; rfl
theorem zl_3_30 {k : Nat} (hk : zcid k = 3 := by rfl) : zlk k 30 = some (2, 4, 1, 138) := by unfold zlk; rw [hk]; rfl
theorem zl_3_33 {k : Nat} (hk : zcid k = 3 := by rfl) : zlk k 33 = some (3, 14, 3, 495) := by unfold zlk; rw [hk]; rfl
theorem zl_3_37 {k : Nat} (hk : zcid k = 3 := by rfl) : zlk k 37 = some (2, 57, 0, 862) := by unfold zlk; rw [hk]; rfl
theorem zl_3_41 {k : Nat} (hk : zcid k = 3 := by rfl) : zlk k 41 = some (0, 1, 4, 164) := by unfold zlk; rw [hk]; rfl
theorem zl_3_44 {k : Nat} (hk : zcid k = 3 := by rfl) : zlk k 44 = some (3, 26, 2, 863) := by unfold zlk; rw [hk]; rfl
theorem zl_3_48 {k : Nat} (hk : zcid k = 3 := by rfl) : zlk k 48 = some (2, 37, 2, 864) := by unfold zlk; rw [hk]; rfl
theorem zl_3_54 {k : Nat} (hk : zcid k = 3 := by rfl) : zlk k 54 = some (2, 53, 1, 877) := by unfold zlk; rw [hk]; rfl
theorem zl_4_3 {k : Nat} (hk : zcid k = 4 := by rfl) : zlk k 3 = some (4, 0, 0, 141) := by unfold zlk; rw [hk]; rfl
theorem zl_4_9 {k : Nat} (hk : zcid k = 4 := by rfl) : zlk k 9 = some (0, 1, 6, 168) := by unfold zlk; rw [hk]; rfl
theorem zl_4_15 {k : Nat} (hk : zcid k = 4 := by rfl) : zlk k 15 = some (0, 1, 0, 142) := by unfold zlk; rw [hk]; rfl
theorem zl_4_19 {k : Nat} (hk : zcid k = 4 := by rfl) : zlk k 19 = some (0, 1, 3, 157) := by unfold zlk; rw [hk]; rfl
theorem zl_4_22 {k : Nat} (hk : zcid k = 4 := by rfl) : zlk k 22 = some (0, 1, 1, 147) := by unfold zlk; rw [hk]; rfl
theorem zl_4_25 {k : Nat} (hk : zcid k = 4 := by rfl) : zlk k 25 = some (0, 1, 2, 154) := by unfold zlk; rw [hk]; rfl
theorem zl_4_28 {k : Nat} (hk : zcid k = 4 := by rfl) : zlk k 28 = some (0, 1, 4, 162) := by unfold zlk; rw [hk]; rfl
theorem zl_4_31 {k : Nat} (hk : zcid k = 4 := by rfl) : zlk k 31 = some (0, 1, 5, 166) := by unfold zlk; rw [hk]; rfl
theorem zl_4_34 {k : Nat} (hk : zcid k = 4 := by rfl) : zlk k 34 = some (2, 17, 2, 484) := by unfold zlk; rw [hk]; rfl
theorem zl_4_40 {k : Nat} (hk : zcid k = 4 := by rfl) : zlk k 40 = some (5, 0, 0, 636) := by unfold zlk; rw [hk]; rfl
theorem zl_5_3 {k : Nat} (hk : zcid k = 5 := by rfl) : zlk k 3 = some (4, 0, 0, 213) := by unfold zlk; rw [hk]; rfl
theorem zl_5_9 {k : Nat} (hk : zcid k = 5 := by rfl) : zlk k 9 = some (0, 6, 4, 221) := by unfold zlk; rw [hk]; rfl
theorem zl_5_15 {k : Nat} (hk : zcid k = 5 := by rfl) : zlk k 15 = some (0, 6, 0, 214) := by unfold zlk; rw [hk]; rfl
theorem zl_5_18 {k : Nat} (hk : zcid k = 5 := by rfl) : zlk k 18 = some (0, 6, 1, 215) := by unfold zlk; rw [hk]; rfl
theorem zl_5_22 {k : Nat} (hk : zcid k = 5 := by rfl) : zlk k 22 = some (0, 6, 2, 217) := by unfold zlk; rw [hk]; rfl
theorem zl_5_25 {k : Nat} (hk : zcid k = 5 := by rfl) : zlk k 25 = some (0, 6, 3, 219) := by unfold zlk; rw [hk]; rfl
theorem zl_5_28 {k : Nat} (hk : zcid k = 5 := by rfl) : zlk k 28 = some (2, 37, 2, 1011) := by unfold zlk; rw [hk]; rfl
theorem zl_5_34 {k : Nat} (hk : zcid k = 5 := by rfl) : zlk k 34 = some (5, 0, 0, 1012) := by unfold zlk; rw [hk]; rfl
theorem zl_6_3 {k : Nat} (hk : zcid k = 6 := by rfl) : zlk k 3 = some (4, 0, 0, 259) := by unfold zlk; rw [hk]; rfl
theorem zl_6_9 {k : Nat} (hk : zcid k = 6 := by rfl) : zlk k 9 = some (0, 3, 0, 260) := by unfold zlk; rw [hk]; rfl
theorem zl_6_15 {k : Nat} (hk : zcid k = 6 := by rfl) : zlk k 15 = some (0, 3, 1, 261) := by unfold zlk; rw [hk]; rfl
theorem zl_6_19 {k : Nat} (hk : zcid k = 6 := by rfl) : zlk k 19 = some (0, 3, 2, 262) := by unfold zlk; rw [hk]; rfl
theorem zl_6_22 {k : Nat} (hk : zcid k = 6 := by rfl) : zlk k 22 = some (0, 3, 3, 264) := by unfold zlk; rw [hk]; rfl
theorem zl_6_25 {k : Nat} (hk : zcid k = 6 := by rfl) : zlk k 25 = some (0, 3, 4, 266) := by unfold zlk; rw [hk]; rfl
theorem zl_6_28 {k : Nat} (hk : zcid k = 6 := by rfl) : zlk k 28 = some (2, 24, 2, 510) := by unfold zlk; rw [hk]; rfl
theorem zl_6_34 {k : Nat} (hk : zcid k = 6 := by rfl) : zlk k 34 = some (2, 31, 0, 544) := by unfold zlk; rw [hk]; rfl
theorem zl_6_38 {k : Nat} (hk : zcid k = 6 := by rfl) : zlk k 38 = some (2, 22, 3, 504) := by unfold zlk; rw [hk]; rfl
theorem zl_6_42 {k : Nat} (hk : zcid k = 6 := by rfl) : zlk k 42 = some (2, 23, 3, 507) := by unfold zlk; rw [hk]; rfl
theorem zl_6_46 {k : Nat} (hk : zcid k = 6 := by rfl) : zlk k 46 = some (0, 1, 0, 145) := by unfold zlk; rw [hk]; rfl
theorem zl_6_51 {k : Nat} (hk : zcid k = 6 := by rfl) : zlk k 51 = some (0, 1, 1, 150) := by unfold zlk; rw [hk]; rfl
theorem zl_6_54 {k : Nat} (hk : zcid k = 6 := by rfl) : zlk k 54 = some (0, 1, 2, 156) := by unfold zlk; rw [hk]; rfl
theorem zl_6_57 {k : Nat} (hk : zcid k = 6 := by rfl) : zlk k 57 = some (0, 1, 3, 159) := by unfold zlk; rw [hk]; rfl
theorem zl_6_58 {k : Nat} (hk : zcid k = 6 := by rfl) : zlk k 58 = some (0, 1, 4, 165) := by unfold zlk; rw [hk]; rfl
theorem zl_7_1 {k : Nat} (hk : zcid k = 7 := by rfl) : zlk k 1 = some (4, 0, 0, 286) := by unfold zlk; rw [hk]; rfl
theorem zl_7_7 {k : Nat} (hk : zcid k = 7 := by rfl) : zlk k 7 = some (0, 4, 0, 289) := by unfold zlk; rw [hk]; rfl
theorem zl_7_13 {k : Nat} (hk : zcid k = 7 := by rfl) : zlk k 13 = some (0, 4, 1, 290) := by unfold zlk; rw [hk]; rfl
theorem zl_7_17 {k : Nat} (hk : zcid k = 7 := by rfl) : zlk k 17 = some (0, 4, 2, 291) := by unfold zlk; rw [hk]; rfl
theorem zl_7_20 {k : Nat} (hk : zcid k = 7 := by rfl) : zlk k 20 = some (6, 3, 24, 287) := by unfold zlk; rw [hk]; rfl
theorem zl_7_22 {k : Nat} (hk : zcid k = 7 := by rfl) : zlk k 22 = some (3, 6, 0, 288) := by unfold zlk; rw [hk]; rfl
theorem zl_7_23 {k : Nat} (hk : zcid k = 7 := by rfl) : zlk k 23 = some (0, 4, 3, 292) := by unfold zlk; rw [hk]; rfl
theorem zl_7_27 {k : Nat} (hk : zcid k = 7 := by rfl) : zlk k 27 = some (2, 37, 2, 672) := by unfold zlk; rw [hk]; rfl
theorem zl_7_33 {k : Nat} (hk : zcid k = 7 := by rfl) : zlk k 33 = some (2, 62, 0, 673) := by unfold zlk; rw [hk]; rfl
theorem zl_7_36 {k : Nat} (hk : zcid k = 7 := by rfl) : zlk k 36 = some (2, 63, 0, 677) := by unfold zlk; rw [hk]; rfl
theorem zl_7_40 {k : Nat} (hk : zcid k = 7 := by rfl) : zlk k 40 = some (2, 74, 1, 746) := by unfold zlk; rw [hk]; rfl
theorem zl_7_44 {k : Nat} (hk : zcid k = 7 := by rfl) : zlk k 44 = some (2, 75, 0, 750) := by unfold zlk; rw [hk]; rfl
theorem zl_7_48 {k : Nat} (hk : zcid k = 7 := by rfl) : zlk k 48 = some (2, 64, 0, 681) := by unfold zlk; rw [hk]; rfl
theorem zl_7_51 {k : Nat} (hk : zcid k = 7 := by rfl) : zlk k 51 = some (2, 76, 0, 754) := by unfold zlk; rw [hk]; rfl
theorem zl_7_54 {k : Nat} (hk : zcid k = 7 := by rfl) : zlk k 54 = some (2, 77, 1, 759) := by unfold zlk; rw [hk]; rfl
theorem zl_7_57 {k : Nat} (hk : zcid k = 7 := by rfl) : zlk k 57 = some (2, 87, 4, 836) := by unfold zlk; rw [hk]; rfl
theorem zl_7_61 {k : Nat} (hk : zcid k = 7 := by rfl) : zlk k 61 = some (0, 3, 2, 263) := by unfold zlk; rw [hk]; rfl
theorem zl_7_64 {k : Nat} (hk : zcid k = 7 := by rfl) : zlk k 64 = some (0, 3, 3, 265) := by unfold zlk; rw [hk]; rfl
theorem zl_7_67 {k : Nat} (hk : zcid k = 7 := by rfl) : zlk k 67 = some (0, 3, 4, 268) := by unfold zlk; rw [hk]; rfl
theorem zl_7_70 {k : Nat} (hk : zcid k = 7 := by rfl) : zlk k 70 = some (9, 0, 0, 688) := by unfold zlk; rw [hk]; rfl
theorem zl_7_72 {k : Nat} (hk : zcid k = 7 := by rfl) : zlk k 72 = some (9, 1, 0, 689) := by unfold zlk; rw [hk]; rfl
theorem zl_7_74 {k : Nat} (hk : zcid k = 7 := by rfl) : zlk k 74 = some (9, 2, 0, 690) := by unfold zlk; rw [hk]; rfl
theorem zl_7_75 {k : Nat} (hk : zcid k = 7 := by rfl) : zlk k 75 = some (9, 3, 0, 691) := by unfold zlk; rw [hk]; rfl
theorem zl_7_76 {k : Nat} (hk : zcid k = 7 := by rfl) : zlk k 76 = some (9, 4, 0, 692) := by unfold zlk; rw [hk]; rfl
theorem zl_7_77 {k : Nat} (hk : zcid k = 7 := by rfl) : zlk k 77 = some (2, 65, 1, 685) := by unfold zlk; rw [hk]; rfl
theorem zl_7_81 {k : Nat} (hk : zcid k = 7 := by rfl) : zlk k 81 = some (2, 66, 1, 693) := by unfold zlk; rw [hk]; rfl
theorem zl_7_85 {k : Nat} (hk : zcid k = 7 := by rfl) : zlk k 85 = some (2, 67, 0, 697) := by unfold zlk; rw [hk]; rfl
theorem zl_7_89 {k : Nat} (hk : zcid k = 7 := by rfl) : zlk k 89 = some (2, 24, 2, 745) := by unfold zlk; rw [hk]; rfl
theorem zl_7_92 {k : Nat} (hk : zcid k = 7 := by rfl) : zlk k 92 = some (2, 69, 1, 707) := by unfold zlk; rw [hk]; rfl
theorem zl_7_96 {k : Nat} (hk : zcid k = 7 := by rfl) : zlk k 96 = some (3, 14, 3, 758) := by unfold zlk; rw [hk]; rfl
theorem zl_7_102 {k : Nat} (hk : zcid k = 7 := by rfl) : zlk k 102 = some (2, 78, 1, 763) := by unfold zlk; rw [hk]; rfl
theorem zl_7_105 {k : Nat} (hk : zcid k = 7 := by rfl) : zlk k 105 = some (2, 79, 1, 767) := by unfold zlk; rw [hk]; rfl
theorem zl_7_108 {k : Nat} (hk : zcid k = 7 := by rfl) : zlk k 108 = some (2, 80, 0, 771) := by unfold zlk; rw [hk]; rfl
theorem zl_7_111 {k : Nat} (hk : zcid k = 7 := by rfl) : zlk k 111 = some (9, 5, 0, 775) := by unfold zlk; rw [hk]; rfl
theorem zl_7_113 {k : Nat} (hk : zcid k = 7 := by rfl) : zlk k 113 = some (2, 81, 1, 776) := by unfold zlk; rw [hk]; rfl
theorem zl_7_116 {k : Nat} (hk : zcid k = 7 := by rfl) : zlk k 116 = some (9, 6, 0, 835) := by unfold zlk; rw [hk]; rfl
theorem zl_7_118 {k : Nat} (hk : zcid k = 7 := by rfl) : zlk k 118 = some (2, 82, 1, 780) := by unfold zlk; rw [hk]; rfl
theorem zl_8_3 {k : Nat} (hk : zcid k = 8 := by rfl) : zlk k 3 = some (4, 0, 0, 307) := by unfold zlk; rw [hk]; rfl
theorem zl_8_9 {k : Nat} (hk : zcid k = 8 := by rfl) : zlk k 9 = some (0, 2, 3, 311) := by unfold zlk; rw [hk]; rfl
theorem zl_8_15 {k : Nat} (hk : zcid k = 8 := by rfl) : zlk k 15 = some (0, 1, 2, 151) := by unfold zlk; rw [hk]; rfl
theorem zl_8_20 {k : Nat} (hk : zcid k = 8 := by rfl) : zlk k 20 = some (0, 1, 4, 160) := by unfold zlk; rw [hk]; rfl
theorem zl_8_23 {k : Nat} (hk : zcid k = 8 := by rfl) : zlk k 23 = some (2, 29, 4, 630) := by unfold zlk; rw [hk]; rfl
theorem zl_8_27 {k : Nat} (hk : zcid k = 8 := by rfl) : zlk k 27 = some (0, 1, 1, 148) := by unfold zlk; rw [hk]; rfl
theorem zl_8_30 {k : Nat} (hk : zcid k = 8 := by rfl) : zlk k 30 = some (0, 2, 0, 308) := by unfold zlk; rw [hk]; rfl
theorem zl_8_31 {k : Nat} (hk : zcid k = 8 := by rfl) : zlk k 31 = some (3, 25, 3, 532) := by unfold zlk; rw [hk]; rfl
theorem zl_8_35 {k : Nat} (hk : zcid k = 8 := by rfl) : zlk k 35 = some (0, 2, 1, 309) := by unfold zlk; rw [hk]; rfl
theorem zl_8_38 {k : Nat} (hk : zcid k = 8 := by rfl) : zlk k 38 = some (0, 1, 6, 169) := by unfold zlk; rw [hk]; rfl
theorem zl_8_42 {k : Nat} (hk : zcid k = 8 := by rfl) : zlk k 42 = some (2, 30, 2, 533) := by unfold zlk; rw [hk]; rfl
theorem zl_8_48 {k : Nat} (hk : zcid k = 8 := by rfl) : zlk k 48 = some (0, 2, 2, 310) := by unfold zlk; rw [hk]; rfl
theorem zl_8_51 {k : Nat} (hk : zcid k = 8 := by rfl) : zlk k 51 = some (2, 24, 2, 575) := by unfold zlk; rw [hk]; rfl
theorem zl_8_54 {k : Nat} (hk : zcid k = 8 := by rfl) : zlk k 54 = some (2, 37, 2, 570) := by unfold zlk; rw [hk]; rfl
theorem zl_9_3 {k : Nat} (hk : zcid k = 9 := by rfl) : zlk k 3 = some (4, 0, 0, 327) := by unfold zlk; rw [hk]; rfl
theorem zl_9_9 {k : Nat} (hk : zcid k = 9 := by rfl) : zlk k 9 = some (6, 2, 0, 328) := by unfold zlk; rw [hk]; rfl
theorem zl_9_11 {k : Nat} (hk : zcid k = 9 := by rfl) : zlk k 11 = some (3, 8, 0, 329) := by unfold zlk; rw [hk]; rfl
theorem zl_9_12 {k : Nat} (hk : zcid k = 9 := by rfl) : zlk k 12 = some (0, 9, 0, 330) := by unfold zlk; rw [hk]; rfl
theorem zl_9_18 {k : Nat} (hk : zcid k = 9 := by rfl) : zlk k 18 = some (0, 9, 1, 331) := by unfold zlk; rw [hk]; rfl
theorem zl_9_22 {k : Nat} (hk : zcid k = 9 := by rfl) : zlk k 22 = some (0, 9, 2, 332) := by unfold zlk; rw [hk]; rfl
theorem zl_9_25 {k : Nat} (hk : zcid k = 9 := by rfl) : zlk k 25 = some (0, 1, 2, 152) := by unfold zlk; rw [hk]; rfl
theorem zl_9_31 {k : Nat} (hk : zcid k = 9 := by rfl) : zlk k 31 = some (0, 1, 4, 161) := by unfold zlk; rw [hk]; rfl
theorem zl_9_34 {k : Nat} (hk : zcid k = 9 := by rfl) : zlk k 34 = some (2, 29, 4, 528) := by unfold zlk; rw [hk]; rfl
theorem zl_9_38 {k : Nat} (hk : zcid k = 9 := by rfl) : zlk k 38 = some (2, 31, 0, 536) := by unfold zlk; rw [hk]; rfl
theorem zl_9_44 {k : Nat} (hk : zcid k = 9 := by rfl) : zlk k 44 = some (0, 9, 3, 333) := by unfold zlk; rw [hk]; rfl
theorem zl_9_47 {k : Nat} (hk : zcid k = 9 := by rfl) : zlk k 47 = some (2, 32, 0, 540) := by unfold zlk; rw [hk]; rfl
theorem zl_9_50 {k : Nat} (hk : zcid k = 9 := by rfl) : zlk k 50 = some (0, 9, 4, 334) := by unfold zlk; rw [hk]; rfl
theorem zl_9_53 {k : Nat} (hk : zcid k = 9 := by rfl) : zlk k 53 = some (2, 21, 2, 545) := by unfold zlk; rw [hk]; rfl
theorem zl_9_57 {k : Nat} (hk : zcid k = 9 := by rfl) : zlk k 57 = some (0, 9, 5, 335) := by unfold zlk; rw [hk]; rfl
theorem zl_9_60 {k : Nat} (hk : zcid k = 9 := by rfl) : zlk k 60 = some (0, 9, 6, 336) := by unfold zlk; rw [hk]; rfl
theorem zl_9_63 {k : Nat} (hk : zcid k = 9 := by rfl) : zlk k 63 = some (2, 35, 1, 554) := by unfold zlk; rw [hk]; rfl
theorem zl_9_67 {k : Nat} (hk : zcid k = 9 := by rfl) : zlk k 67 = some (2, 36, 1, 558) := by unfold zlk; rw [hk]; rfl
theorem zl_9_71 {k : Nat} (hk : zcid k = 9 := by rfl) : zlk k 71 = some (2, 34, 1, 601) := by unfold zlk; rw [hk]; rfl
theorem zl_9_74 {k : Nat} (hk : zcid k = 9 := by rfl) : zlk k 74 = some (2, 33, 1, 565) := by unfold zlk; rw [hk]; rfl
theorem zl_9_77 {k : Nat} (hk : zcid k = 9 := by rfl) : zlk k 77 = some (2, 43, 1, 589) := by unfold zlk; rw [hk]; rfl
theorem zl_9_80 {k : Nat} (hk : zcid k = 9 := by rfl) : zlk k 80 = some (2, 44, 3, 593) := by unfold zlk; rw [hk]; rfl
theorem zl_9_84 {k : Nat} (hk : zcid k = 9 := by rfl) : zlk k 84 = some (2, 37, 2, 561) := by unfold zlk; rw [hk]; rfl
theorem zl_9_90 {k : Nat} (hk : zcid k = 9 := by rfl) : zlk k 90 = some (2, 24, 2, 564) := by unfold zlk; rw [hk]; rfl
theorem zl_9_93 {k : Nat} (hk : zcid k = 9 := by rfl) : zlk k 93 = some (2, 38, 1, 566) := by unfold zlk; rw [hk]; rfl
theorem zl_9_96 {k : Nat} (hk : zcid k = 9 := by rfl) : zlk k 96 = some (2, 39, 1, 571) := by unfold zlk; rw [hk]; rfl
theorem zl_9_99 {k : Nat} (hk : zcid k = 9 := by rfl) : zlk k 99 = some (2, 40, 2, 576) := by unfold zlk; rw [hk]; rfl
theorem zl_9_102 {k : Nat} (hk : zcid k = 9 := by rfl) : zlk k 102 = some (0, 2, 3, 312) := by unfold zlk; rw [hk]; rfl
theorem zl_9_105 {k : Nat} (hk : zcid k = 9 := by rfl) : zlk k 105 = some (3, 14, 3, 580) := by unfold zlk; rw [hk]; rfl
theorem zl_9_109 {k : Nat} (hk : zcid k = 9 := by rfl) : zlk k 109 = some (2, 41, 2, 581) := by unfold zlk; rw [hk]; rfl
theorem zl_10_3 {k : Nat} (hk : zcid k = 10 := by rfl) : zlk k 3 = some (4, 0, 0, 357) := by unfold zlk; rw [hk]; rfl
theorem zl_10_9 {k : Nat} (hk : zcid k = 10 := by rfl) : zlk k 9 = some (0, 5, 0, 358) := by unfold zlk; rw [hk]; rfl
theorem zl_10_15 {k : Nat} (hk : zcid k = 10 := by rfl) : zlk k 15 = some (0, 5, 1, 360) := by unfold zlk; rw [hk]; rfl
theorem zl_10_18 {k : Nat} (hk : zcid k = 10 := by rfl) : zlk k 18 = some (0, 5, 2, 362) := by unfold zlk; rw [hk]; rfl
theorem zl_10_22 {k : Nat} (hk : zcid k = 10 := by rfl) : zlk k 22 = some (0, 5, 3, 364) := by unfold zlk; rw [hk]; rfl
theorem zl_10_25 {k : Nat} (hk : zcid k = 10 := by rfl) : zlk k 25 = some (0, 5, 4, 366) := by unfold zlk; rw [hk]; rfl
theorem zl_10_28 {k : Nat} (hk : zcid k = 10 := by rfl) : zlk k 28 = some (2, 99, 1, 901) := by unfold zlk; rw [hk]; rfl
theorem zl_10_34 {k : Nat} (hk : zcid k = 10 := by rfl) : zlk k 34 = some (2, 37, 2, 902) := by unfold zlk; rw [hk]; rfl
theorem zl_10_40 {k : Nat} (hk : zcid k = 10 := by rfl) : zlk k 40 = some (2, 101, 1, 903) := by unfold zlk; rw [hk]; rfl
theorem zl_10_43 {k : Nat} (hk : zcid k = 10 := by rfl) : zlk k 43 = some (2, 103, 1, 913) := by unfold zlk; rw [hk]; rfl
theorem zl_10_46 {k : Nat} (hk : zcid k = 10 := by rfl) : zlk k 46 = some (2, 102, 2, 907) := by unfold zlk; rw [hk]; rfl
theorem zl_10_49 {k : Nat} (hk : zcid k = 10 := by rfl) : zlk k 49 = some (2, 24, 2, 912) := by unfold zlk; rw [hk]; rfl
theorem zl_10_52 {k : Nat} (hk : zcid k = 10 := by rfl) : zlk k 52 = some (3, 14, 3, 911) := by unfold zlk; rw [hk]; rfl
theorem zl_11_3 {k : Nat} (hk : zcid k = 11 := by rfl) : zlk k 3 = some (4, 0, 0, 383) := by unfold zlk; rw [hk]; rfl
theorem zl_11_9 {k : Nat} (hk : zcid k = 11 := by rfl) : zlk k 9 = some (0, 0, 0, 384) := by unfold zlk; rw [hk]; rfl
theorem zl_11_15 {k : Nat} (hk : zcid k = 11 := by rfl) : zlk k 15 = some (0, 0, 1, 386) := by unfold zlk; rw [hk]; rfl
theorem zl_11_19 {k : Nat} (hk : zcid k = 11 := by rfl) : zlk k 19 = some (0, 1, 1, 146) := by unfold zlk; rw [hk]; rfl
theorem zl_11_24 {k : Nat} (hk : zcid k = 11 := by rfl) : zlk k 24 = some (0, 0, 2, 388) := by unfold zlk; rw [hk]; rfl
theorem zl_11_25 {k : Nat} (hk : zcid k = 11 := by rfl) : zlk k 25 = some (0, 1, 2, 153) := by unfold zlk; rw [hk]; rfl
theorem zl_11_28 {k : Nat} (hk : zcid k = 11 := by rfl) : zlk k 28 = some (0, 0, 3, 389) := by unfold zlk; rw [hk]; rfl
theorem zl_11_29 {k : Nat} (hk : zcid k = 11 := by rfl) : zlk k 29 = some (0, 1, 0, 143) := by unfold zlk; rw [hk]; rfl
theorem zl_11_32 {k : Nat} (hk : zcid k = 11 := by rfl) : zlk k 32 = some (0, 0, 4, 390) := by unfold zlk; rw [hk]; rfl
theorem zl_11_33 {k : Nat} (hk : zcid k = 11 := by rfl) : zlk k 33 = some (2, 130, 2, 1025) := by unfold zlk; rw [hk]; rfl
theorem zl_11_37 {k : Nat} (hk : zcid k = 11 := by rfl) : zlk k 37 = some (2, 132, 2, 1033) := by unfold zlk; rw [hk]; rfl
theorem zl_11_40 {k : Nat} (hk : zcid k = 11 := by rfl) : zlk k 40 = some (2, 133, 2, 1037) := by unfold zlk; rw [hk]; rfl
theorem zl_11_43 {k : Nat} (hk : zcid k = 11 := by rfl) : zlk k 43 = some (2, 131, 1, 1029) := by unfold zlk; rw [hk]; rfl
theorem zl_12_3 {k : Nat} (hk : zcid k = 12 := by rfl) : zlk k 3 = some (4, 0, 0, 408) := by unfold zlk; rw [hk]; rfl
theorem zl_12_9 {k : Nat} (hk : zcid k = 12 := by rfl) : zlk k 9 = some (0, 8, 0, 409) := by unfold zlk; rw [hk]; rfl
theorem zl_12_15 {k : Nat} (hk : zcid k = 12 := by rfl) : zlk k 15 = some (0, 8, 1, 411) := by unfold zlk; rw [hk]; rfl
theorem zl_12_19 {k : Nat} (hk : zcid k = 12 := by rfl) : zlk k 19 = some (0, 8, 2, 413) := by unfold zlk; rw [hk]; rfl
theorem zl_12_22 {k : Nat} (hk : zcid k = 12 := by rfl) : zlk k 22 = some (2, 140, 2, 1067) := by unfold zlk; rw [hk]; rfl
theorem zl_15_9 {k : Nat} (hk : zcid k = 15 := by rfl) : zlk k 9 = some (0, 13, 0, 1702) := by unfold zlk; rw [hk]; rfl
theorem zl_15_15 {k : Nat} (hk : zcid k = 15 := by rfl) : zlk k 15 = some (0, 13, 1, 1703) := by unfold zlk; rw [hk]; rfl
theorem zl_15_38 {k : Nat} (hk : zcid k = 15 := by rfl) : zlk k 38 = some (1, 1, 0, 705) := by unfold zlk; rw [hk]; rfl
theorem zl_15_335 {k : Nat} (hk : zcid k = 15 := by rfl) : zlk k 335 = some (2, 68, 0, 701) := by unfold zlk; rw [hk]; rfl
theorem zl_15_492 {k : Nat} (hk : zcid k = 15 := by rfl) : zlk k 492 = some (2, 70, 0, 711) := by unfold zlk; rw [hk]; rfl
theorem zl_15_495 {k : Nat} (hk : zcid k = 15 := by rfl) : zlk k 495 = some (2, 71, 2, 715) := by unfold zlk; rw [hk]; rfl
theorem zl_15_505 {k : Nat} (hk : zcid k = 15 := by rfl) : zlk k 505 = some (2, 67, 0, 788) := by unfold zlk; rw [hk]; rfl
theorem zl_15_633 {k : Nat} (hk : zcid k = 15 := by rfl) : zlk k 633 = some (2, 83, 2, 784) := by unfold zlk; rw [hk]; rfl
theorem zl_15_637 {k : Nat} (hk : zcid k = 15 := by rfl) : zlk k 637 = some (2, 84, 4, 789) := by unfold zlk; rw [hk]; rfl
theorem zl_15_1053 {k : Nat} (hk : zcid k = 15 := by rfl) : zlk k 1053 = some (1, 2, 0, 721) := by unfold zlk; rw [hk]; rfl
theorem zl_15_1059 {k : Nat} (hk : zcid k = 15 := by rfl) : zlk k 1059 = some (2, 73, 3, 723) := by unfold zlk; rw [hk]; rfl
theorem zl_16_9 {k : Nat} (hk : zcid k = 16 := by rfl) : zlk k 9 = some (2, 72, 2, 718) := by unfold zlk; rw [hk]; rfl
theorem zl_16_38 {k : Nat} (hk : zcid k = 16 := by rfl) : zlk k 38 = some (2, 37, 2, 796) := by unfold zlk; rw [hk]; rfl
theorem zl_16_88 {k : Nat} (hk : zcid k = 16 := by rfl) : zlk k 88 = some (2, 85, 1, 792) := by unfold zlk; rw [hk]; rfl
theorem zl_16_92 {k : Nat} (hk : zcid k = 16 := by rfl) : zlk k 92 = some (2, 24, 2, 795) := by unfold zlk; rw [hk]; rfl
theorem zl_16_95 {k : Nat} (hk : zcid k = 16 := by rfl) : zlk k 95 = some (2, 86, 4, 797) := by unfold zlk; rw [hk]; rfl
theorem zl_19_1 {k : Nat} (hk : zcid k = 19 := by rfl) : zlk k 1 = some (4, 0, 0, 1092) := by unfold zlk; rw [hk]; rfl
theorem zl_19_7 {k : Nat} (hk : zcid k = 19 := by rfl) : zlk k 7 = some (0, 12, 0, 1093) := by unfold zlk; rw [hk]; rfl
theorem zl_19_13 {k : Nat} (hk : zcid k = 19 := by rfl) : zlk k 13 = some (0, 12, 1, 1094) := by unfold zlk; rw [hk]; rfl
theorem zl_19_16 {k : Nat} (hk : zcid k = 19 := by rfl) : zlk k 16 = some (0, 12, 2, 1095) := by unfold zlk; rw [hk]; rfl
theorem zl_19_19 {k : Nat} (hk : zcid k = 19 := by rfl) : zlk k 19 = some (0, 12, 3, 1096) := by unfold zlk; rw [hk]; rfl
theorem zl_19_23 {k : Nat} (hk : zcid k = 19 := by rfl) : zlk k 23 = some (0, 12, 4, 1097) := by unfold zlk; rw [hk]; rfl
theorem zl_19_26 {k : Nat} (hk : zcid k = 19 := by rfl) : zlk k 26 = some (0, 12, 5, 1098) := by unfold zlk; rw [hk]; rfl
theorem zl_19_29 {k : Nat} (hk : zcid k = 19 := by rfl) : zlk k 29 = some (0, 12, 6, 1099) := by unfold zlk; rw [hk]; rfl
theorem zl_19_32 {k : Nat} (hk : zcid k = 19 := by rfl) : zlk k 32 = some (0, 12, 7, 1100) := by unfold zlk; rw [hk]; rfl
theorem zl_19_35 {k : Nat} (hk : zcid k = 19 := by rfl) : zlk k 35 = some (0, 12, 8, 1101) := by unfold zlk; rw [hk]; rfl
theorem zl_19_38 {k : Nat} (hk : zcid k = 19 := by rfl) : zlk k 38 = some (0, 12, 9, 1102) := by unfold zlk; rw [hk]; rfl
theorem zl_19_41 {k : Nat} (hk : zcid k = 19 := by rfl) : zlk k 41 = some (0, 12, 10, 1103) := by unfold zlk; rw [hk]; rfl
theorem zl_19_44 {k : Nat} (hk : zcid k = 19 := by rfl) : zlk k 44 = some (0, 12, 11, 1104) := by unfold zlk; rw [hk]; rfl
theorem zl_19_47 {k : Nat} (hk : zcid k = 19 := by rfl) : zlk k 47 = some (0, 12, 12, 1105) := by unfold zlk; rw [hk]; rfl
theorem zl_19_50 {k : Nat} (hk : zcid k = 19 := by rfl) : zlk k 50 = some (0, 12, 13, 1106) := by unfold zlk; rw [hk]; rfl
theorem zl_19_53 {k : Nat} (hk : zcid k = 19 := by rfl) : zlk k 53 = some (0, 12, 14, 1107) := by unfold zlk; rw [hk]; rfl
theorem zl_19_56 {k : Nat} (hk : zcid k = 19 := by rfl) : zlk k 56 = some (0, 12, 15, 1108) := by unfold zlk; rw [hk]; rfl
theorem zl_19_59 {k : Nat} (hk : zcid k = 19 := by rfl) : zlk k 59 = some (0, 12, 16, 1109) := by unfold zlk; rw [hk]; rfl
theorem zl_19_62 {k : Nat} (hk : zcid k = 19 := by rfl) : zlk k 62 = some (0, 12, 17, 1110) := by unfold zlk; rw [hk]; rfl
theorem zl_19_65 {k : Nat} (hk : zcid k = 19 := by rfl) : zlk k 65 = some (0, 12, 18, 1111) := by unfold zlk; rw [hk]; rfl
theorem zl_19_68 {k : Nat} (hk : zcid k = 19 := by rfl) : zlk k 68 = some (0, 12, 19, 1112) := by unfold zlk; rw [hk]; rfl
theorem zl_19_71 {k : Nat} (hk : zcid k = 19 := by rfl) : zlk k 71 = some (0, 12, 20, 1113) := by unfold zlk; rw [hk]; rfl
theorem zl_19_74 {k : Nat} (hk : zcid k = 19 := by rfl) : zlk k 74 = some (0, 12, 21, 1114) := by unfold zlk; rw [hk]; rfl
theorem zl_19_77 {k : Nat} (hk : zcid k = 19 := by rfl) : zlk k 77 = some (0, 12, 22, 1115) := by unfold zlk; rw [hk]; rfl
theorem zl_19_80 {k : Nat} (hk : zcid k = 19 := by rfl) : zlk k 80 = some (0, 12, 23, 1116) := by unfold zlk; rw [hk]; rfl
theorem zl_19_83 {k : Nat} (hk : zcid k = 19 := by rfl) : zlk k 83 = some (0, 12, 24, 1117) := by unfold zlk; rw [hk]; rfl
theorem zl_19_86 {k : Nat} (hk : zcid k = 19 := by rfl) : zlk k 86 = some (0, 12, 25, 1118) := by unfold zlk; rw [hk]; rfl
theorem zl_19_89 {k : Nat} (hk : zcid k = 19 := by rfl) : zlk k 89 = some (0, 12, 26, 1119) := by unfold zlk; rw [hk]; rfl
theorem zl_19_93 {k : Nat} (hk : zcid k = 19 := by rfl) : zlk k 93 = some (0, 12, 27, 1120) := by unfold zlk; rw [hk]; rfl
theorem zl_19_96 {k : Nat} (hk : zcid k = 19 := by rfl) : zlk k 96 = some (0, 12, 28, 1121) := by unfold zlk; rw [hk]; rfl
theorem zl_19_99 {k : Nat} (hk : zcid k = 19 := by rfl) : zlk k 99 = some (0, 12, 29, 1122) := by unfold zlk; rw [hk]; rfl
theorem zl_19_102 {k : Nat} (hk : zcid k = 19 := by rfl) : zlk k 102 = some (0, 12, 30, 1123) := by unfold zlk; rw [hk]; rfl
theorem zl_19_105 {k : Nat} (hk : zcid k = 19 := by rfl) : zlk k 105 = some (0, 12, 31, 1124) := by unfold zlk; rw [hk]; rfl
theorem zl_19_108 {k : Nat} (hk : zcid k = 19 := by rfl) : zlk k 108 = some (0, 12, 32, 1125) := by unfold zlk; rw [hk]; rfl
theorem zl_19_111 {k : Nat} (hk : zcid k = 19 := by rfl) : zlk k 111 = some (0, 12, 33, 1126) := by unfold zlk; rw [hk]; rfl
theorem zl_19_114 {k : Nat} (hk : zcid k = 19 := by rfl) : zlk k 114 = some (0, 12, 34, 1127) := by unfold zlk; rw [hk]; rfl
theorem zl_19_117 {k : Nat} (hk : zcid k = 19 := by rfl) : zlk k 117 = some (0, 12, 35, 1128) := by unfold zlk; rw [hk]; rfl
theorem zl_19_120 {k : Nat} (hk : zcid k = 19 := by rfl) : zlk k 120 = some (0, 12, 36, 1129) := by unfold zlk; rw [hk]; rfl
theorem zl_19_123 {k : Nat} (hk : zcid k = 19 := by rfl) : zlk k 123 = some (0, 12, 37, 1130) := by unfold zlk; rw [hk]; rfl
theorem zl_19_126 {k : Nat} (hk : zcid k = 19 := by rfl) : zlk k 126 = some (0, 12, 38, 1131) := by unfold zlk; rw [hk]; rfl
theorem zl_19_129 {k : Nat} (hk : zcid k = 19 := by rfl) : zlk k 129 = some (0, 12, 39, 1132) := by unfold zlk; rw [hk]; rfl
theorem zl_19_132 {k : Nat} (hk : zcid k = 19 := by rfl) : zlk k 132 = some (0, 12, 40, 1133) := by unfold zlk; rw [hk]; rfl
theorem zl_19_135 {k : Nat} (hk : zcid k = 19 := by rfl) : zlk k 135 = some (0, 12, 41, 1134) := by unfold zlk; rw [hk]; rfl
theorem zl_19_138 {k : Nat} (hk : zcid k = 19 := by rfl) : zlk k 138 = some (0, 12, 42, 1135) := by unfold zlk; rw [hk]; rfl
theorem zl_19_141 {k : Nat} (hk : zcid k = 19 := by rfl) : zlk k 141 = some (0, 12, 43, 1136) := by unfold zlk; rw [hk]; rfl
theorem zl_19_144 {k : Nat} (hk : zcid k = 19 := by rfl) : zlk k 144 = some (0, 12, 44, 1137) := by unfold zlk; rw [hk]; rfl
theorem zl_19_147 {k : Nat} (hk : zcid k = 19 := by rfl) : zlk k 147 = some (0, 12, 45, 1138) := by unfold zlk; rw [hk]; rfl
theorem zl_19_150 {k : Nat} (hk : zcid k = 19 := by rfl) : zlk k 150 = some (0, 12, 46, 1139) := by unfold zlk; rw [hk]; rfl
theorem zl_19_153 {k : Nat} (hk : zcid k = 19 := by rfl) : zlk k 153 = some (0, 12, 47, 1140) := by unfold zlk; rw [hk]; rfl
theorem zl_19_156 {k : Nat} (hk : zcid k = 19 := by rfl) : zlk k 156 = some (0, 12, 48, 1141) := by unfold zlk; rw [hk]; rfl
theorem zl_19_160 {k : Nat} (hk : zcid k = 19 := by rfl) : zlk k 160 = some (0, 12, 49, 1142) := by unfold zlk; rw [hk]; rfl
theorem zl_19_163 {k : Nat} (hk : zcid k = 19 := by rfl) : zlk k 163 = some (0, 12, 50, 1143) := by unfold zlk; rw [hk]; rfl
theorem zl_19_166 {k : Nat} (hk : zcid k = 19 := by rfl) : zlk k 166 = some (0, 12, 51, 1144) := by unfold zlk; rw [hk]; rfl
theorem zl_19_169 {k : Nat} (hk : zcid k = 19 := by rfl) : zlk k 169 = some (0, 12, 52, 1145) := by unfold zlk; rw [hk]; rfl
theorem zl_19_172 {k : Nat} (hk : zcid k = 19 := by rfl) : zlk k 172 = some (0, 12, 53, 1146) := by unfold zlk; rw [hk]; rfl
theorem zl_19_175 {k : Nat} (hk : zcid k = 19 := by rfl) : zlk k 175 = some (0, 12, 54, 1147) := by unfold zlk; rw [hk]; rfl
theorem zl_19_178 {k : Nat} (hk : zcid k = 19 := by rfl) : zlk k 178 = some (0, 12, 55, 1148) := by unfold zlk; rw [hk]; rfl
theorem zl_19_181 {k : Nat} (hk : zcid k = 19 := by rfl) : zlk k 181 = some (0, 12, 56, 1149) := by unfold zlk; rw [hk]; rfl
theorem zl_19_184 {k : Nat} (hk : zcid k = 19 := by rfl) : zlk k 184 = some (0, 12, 57, 1150) := by unfold zlk; rw [hk]; rfl
theorem zl_19_187 {k : Nat} (hk : zcid k = 19 := by rfl) : zlk k 187 = some (0, 12, 58, 1151) := by unfold zlk; rw [hk]; rfl
theorem zl_19_190 {k : Nat} (hk : zcid k = 19 := by rfl) : zlk k 190 = some (0, 12, 59, 1152) := by unfold zlk; rw [hk]; rfl
theorem zl_19_193 {k : Nat} (hk : zcid k = 19 := by rfl) : zlk k 193 = some (0, 12, 60, 1153) := by unfold zlk; rw [hk]; rfl
theorem zl_19_196 {k : Nat} (hk : zcid k = 19 := by rfl) : zlk k 196 = some (0, 12, 61, 1154) := by unfold zlk; rw [hk]; rfl
theorem zl_19_199 {k : Nat} (hk : zcid k = 19 := by rfl) : zlk k 199 = some (0, 12, 62, 1155) := by unfold zlk; rw [hk]; rfl
theorem zl_19_202 {k : Nat} (hk : zcid k = 19 := by rfl) : zlk k 202 = some (0, 12, 63, 1156) := by unfold zlk; rw [hk]; rfl
theorem zl_19_205 {k : Nat} (hk : zcid k = 19 := by rfl) : zlk k 205 = some (0, 12, 64, 1157) := by unfold zlk; rw [hk]; rfl
theorem zl_19_208 {k : Nat} (hk : zcid k = 19 := by rfl) : zlk k 208 = some (0, 12, 65, 1158) := by unfold zlk; rw [hk]; rfl
theorem zl_19_211 {k : Nat} (hk : zcid k = 19 := by rfl) : zlk k 211 = some (0, 12, 66, 1159) := by unfold zlk; rw [hk]; rfl
theorem zl_19_214 {k : Nat} (hk : zcid k = 19 := by rfl) : zlk k 214 = some (0, 12, 67, 1160) := by unfold zlk; rw [hk]; rfl
theorem zl_19_217 {k : Nat} (hk : zcid k = 19 := by rfl) : zlk k 217 = some (0, 12, 68, 1161) := by unfold zlk; rw [hk]; rfl
theorem zl_19_220 {k : Nat} (hk : zcid k = 19 := by rfl) : zlk k 220 = some (0, 12, 69, 1162) := by unfold zlk; rw [hk]; rfl
theorem zl_19_223 {k : Nat} (hk : zcid k = 19 := by rfl) : zlk k 223 = some (0, 12, 70, 1163) := by unfold zlk; rw [hk]; rfl
theorem zl_19_226 {k : Nat} (hk : zcid k = 19 := by rfl) : zlk k 226 = some (0, 12, 71, 1164) := by unfold zlk; rw [hk]; rfl
theorem zl_19_229 {k : Nat} (hk : zcid k = 19 := by rfl) : zlk k 229 = some (0, 12, 72, 1165) := by unfold zlk; rw [hk]; rfl
theorem zl_19_232 {k : Nat} (hk : zcid k = 19 := by rfl) : zlk k 232 = some (0, 12, 73, 1166) := by unfold zlk; rw [hk]; rfl
theorem zl_19_236 {k : Nat} (hk : zcid k = 19 := by rfl) : zlk k 236 = some (0, 12, 74, 1167) := by unfold zlk; rw [hk]; rfl
theorem zl_19_239 {k : Nat} (hk : zcid k = 19 := by rfl) : zlk k 239 = some (2, 147, 3, 1324) := by unfold zlk; rw [hk]; rfl
theorem zl_19_243 {k : Nat} (hk : zcid k = 19 := by rfl) : zlk k 243 = some (2, 149, 1, 1332) := by unfold zlk; rw [hk]; rfl
theorem zl_19_247 {k : Nat} (hk : zcid k = 19 := by rfl) : zlk k 247 = some (2, 156, 0, 1360) := by unfold zlk; rw [hk]; rfl
theorem zl_19_251 {k : Nat} (hk : zcid k = 19 := by rfl) : zlk k 251 = some (2, 158, 1, 1368) := by unfold zlk; rw [hk]; rfl
theorem zl_19_254 {k : Nat} (hk : zcid k = 19 := by rfl) : zlk k 254 = some (2, 160, 0, 1376) := by unfold zlk; rw [hk]; rfl
theorem zl_19_258 {k : Nat} (hk : zcid k = 19 := by rfl) : zlk k 258 = some (2, 164, 1, 1392) := by unfold zlk; rw [hk]; rfl
theorem zl_19_262 {k : Nat} (hk : zcid k = 19 := by rfl) : zlk k 262 = some (2, 163, 1, 1388) := by unfold zlk; rw [hk]; rfl
theorem zl_19_266 {k : Nat} (hk : zcid k = 19 := by rfl) : zlk k 266 = some (2, 159, 0, 1372) := by unfold zlk; rw [hk]; rfl
theorem zl_19_269 {k : Nat} (hk : zcid k = 19 := by rfl) : zlk k 269 = some (2, 165, 0, 1396) := by unfold zlk; rw [hk]; rfl
theorem zl_19_272 {k : Nat} (hk : zcid k = 19 := by rfl) : zlk k 272 = some (2, 162, 0, 1384) := by unfold zlk; rw [hk]; rfl
theorem zl_19_275 {k : Nat} (hk : zcid k = 19 := by rfl) : zlk k 275 = some (2, 166, 1, 1400) := by unfold zlk; rw [hk]; rfl
theorem zl_19_278 {k : Nat} (hk : zcid k = 19 := by rfl) : zlk k 278 = some (2, 157, 2, 1364) := by unfold zlk; rw [hk]; rfl
theorem zl_19_282 {k : Nat} (hk : zcid k = 19 := by rfl) : zlk k 282 = some (2, 155, 1, 1356) := by unfold zlk; rw [hk]; rfl
theorem zl_19_285 {k : Nat} (hk : zcid k = 19 := by rfl) : zlk k 285 = some (2, 161, 1, 1380) := by unfold zlk; rw [hk]; rfl
theorem zl_19_288 {k : Nat} (hk : zcid k = 19 := by rfl) : zlk k 288 = some (2, 154, 1, 1352) := by unfold zlk; rw [hk]; rfl
theorem zl_19_291 {k : Nat} (hk : zcid k = 19 := by rfl) : zlk k 291 = some (2, 153, 1, 1348) := by unfold zlk; rw [hk]; rfl
theorem zl_19_294 {k : Nat} (hk : zcid k = 19 := by rfl) : zlk k 294 = some (2, 169, 0, 1412) := by unfold zlk; rw [hk]; rfl
theorem zl_19_297 {k : Nat} (hk : zcid k = 19 := by rfl) : zlk k 297 = some (2, 170, 0, 1416) := by unfold zlk; rw [hk]; rfl
theorem zl_19_300 {k : Nat} (hk : zcid k = 19 := by rfl) : zlk k 300 = some (2, 176, 2, 1440) := by unfold zlk; rw [hk]; rfl
theorem zl_19_304 {k : Nat} (hk : zcid k = 19 := by rfl) : zlk k 304 = some (2, 179, 2, 1452) := by unfold zlk; rw [hk]; rfl
theorem zl_19_307 {k : Nat} (hk : zcid k = 19 := by rfl) : zlk k 307 = some (2, 178, 0, 1448) := by unfold zlk; rw [hk]; rfl
theorem zl_19_310 {k : Nat} (hk : zcid k = 19 := by rfl) : zlk k 310 = some (2, 172, 2, 1424) := by unfold zlk; rw [hk]; rfl
theorem zl_19_313 {k : Nat} (hk : zcid k = 19 := by rfl) : zlk k 313 = some (2, 171, 2, 1420) := by unfold zlk; rw [hk]; rfl
theorem zl_19_316 {k : Nat} (hk : zcid k = 19 := by rfl) : zlk k 316 = some (2, 173, 1, 1428) := by unfold zlk; rw [hk]; rfl
theorem zl_19_319 {k : Nat} (hk : zcid k = 19 := by rfl) : zlk k 319 = some (2, 174, 1, 1432) := by unfold zlk; rw [hk]; rfl
theorem zl_19_322 {k : Nat} (hk : zcid k = 19 := by rfl) : zlk k 322 = some (2, 184, 3, 1472) := by unfold zlk; rw [hk]; rfl
theorem zl_19_325 {k : Nat} (hk : zcid k = 19 := by rfl) : zlk k 325 = some (2, 180, 0, 1456) := by unfold zlk; rw [hk]; rfl
theorem zl_19_328 {k : Nat} (hk : zcid k = 19 := by rfl) : zlk k 328 = some (2, 168, 1, 1408) := by unfold zlk; rw [hk]; rfl
theorem zl_19_331 {k : Nat} (hk : zcid k = 19 := by rfl) : zlk k 331 = some (2, 183, 3, 1468) := by unfold zlk; rw [hk]; rfl
theorem zl_19_334 {k : Nat} (hk : zcid k = 19 := by rfl) : zlk k 334 = some (2, 185, 3, 1476) := by unfold zlk; rw [hk]; rfl
theorem zl_19_338 {k : Nat} (hk : zcid k = 19 := by rfl) : zlk k 338 = some (2, 182, 1, 1464) := by unfold zlk; rw [hk]; rfl
theorem zl_19_341 {k : Nat} (hk : zcid k = 19 := by rfl) : zlk k 341 = some (2, 175, 1, 1436) := by unfold zlk; rw [hk]; rfl
theorem zl_19_344 {k : Nat} (hk : zcid k = 19 := by rfl) : zlk k 344 = some (2, 177, 2, 1444) := by unfold zlk; rw [hk]; rfl
theorem zl_19_347 {k : Nat} (hk : zcid k = 19 := by rfl) : zlk k 347 = some (2, 181, 2, 1460) := by unfold zlk; rw [hk]; rfl
theorem zl_19_350 {k : Nat} (hk : zcid k = 19 := by rfl) : zlk k 350 = some (2, 186, 1, 1480) := by unfold zlk; rw [hk]; rfl
theorem zl_19_353 {k : Nat} (hk : zcid k = 19 := by rfl) : zlk k 353 = some (2, 189, 1, 1492) := by unfold zlk; rw [hk]; rfl
theorem zl_19_356 {k : Nat} (hk : zcid k = 19 := by rfl) : zlk k 356 = some (2, 188, 0, 1488) := by unfold zlk; rw [hk]; rfl
theorem zl_19_360 {k : Nat} (hk : zcid k = 19 := by rfl) : zlk k 360 = some (2, 196, 0, 1521) := by unfold zlk; rw [hk]; rfl
theorem zl_19_363 {k : Nat} (hk : zcid k = 19 := by rfl) : zlk k 363 = some (2, 194, 1, 1513) := by unfold zlk; rw [hk]; rfl
theorem zl_19_366 {k : Nat} (hk : zcid k = 19 := by rfl) : zlk k 366 = some (2, 195, 1, 1517) := by unfold zlk; rw [hk]; rfl
theorem zl_19_369 {k : Nat} (hk : zcid k = 19 := by rfl) : zlk k 369 = some (2, 198, 0, 1529) := by unfold zlk; rw [hk]; rfl
theorem zl_19_372 {k : Nat} (hk : zcid k = 19 := by rfl) : zlk k 372 = some (2, 199, 0, 1533) := by unfold zlk; rw [hk]; rfl
theorem zl_19_376 {k : Nat} (hk : zcid k = 19 := by rfl) : zlk k 376 = some (2, 204, 2, 1554) := by unfold zlk; rw [hk]; rfl
theorem zl_19_379 {k : Nat} (hk : zcid k = 19 := by rfl) : zlk k 379 = some (2, 202, 0, 1546) := by unfold zlk; rw [hk]; rfl
theorem zl_19_382 {k : Nat} (hk : zcid k = 19 := by rfl) : zlk k 382 = some (2, 203, 1, 1550) := by unfold zlk; rw [hk]; rfl
theorem zl_19_385 {k : Nat} (hk : zcid k = 19 := by rfl) : zlk k 385 = some (2, 197, 2, 1562) := by unfold zlk; rw [hk]; rfl
theorem zl_19_388 {k : Nat} (hk : zcid k = 19 := by rfl) : zlk k 388 = some (2, 205, 1, 1567) := by unfold zlk; rw [hk]; rfl
theorem zl_19_391 {k : Nat} (hk : zcid k = 19 := by rfl) : zlk k 391 = some (2, 209, 1, 1576) := by unfold zlk; rw [hk]; rfl
theorem zl_19_394 {k : Nat} (hk : zcid k = 19 := by rfl) : zlk k 394 = some (2, 213, 2, 1593) := by unfold zlk; rw [hk]; rfl
theorem zl_19_399 {k : Nat} (hk : zcid k = 19 := by rfl) : zlk k 399 = some (2, 212, 3, 1589) := by unfold zlk; rw [hk]; rfl
theorem zl_19_403 {k : Nat} (hk : zcid k = 19 := by rfl) : zlk k 403 = some (2, 220, 1, 1621) := by unfold zlk; rw [hk]; rfl
theorem zl_19_406 {k : Nat} (hk : zcid k = 19 := by rfl) : zlk k 406 = some (2, 225, 1, 1641) := by unfold zlk; rw [hk]; rfl
theorem zl_19_409 {k : Nat} (hk : zcid k = 19 := by rfl) : zlk k 409 = some (2, 226, 2, 1645) := by unfold zlk; rw [hk]; rfl
theorem zl_19_412 {k : Nat} (hk : zcid k = 19 := by rfl) : zlk k 412 = some (2, 224, 2, 1637) := by unfold zlk; rw [hk]; rfl
theorem zl_19_415 {k : Nat} (hk : zcid k = 19 := by rfl) : zlk k 415 = some (2, 229, 2, 1657) := by unfold zlk; rw [hk]; rfl
theorem zl_19_418 {k : Nat} (hk : zcid k = 19 := by rfl) : zlk k 418 = some (2, 228, 2, 1653) := by unfold zlk; rw [hk]; rfl
theorem zl_19_421 {k : Nat} (hk : zcid k = 19 := by rfl) : zlk k 421 = some (2, 227, 2, 1649) := by unfold zlk; rw [hk]; rfl
theorem zl_19_424 {k : Nat} (hk : zcid k = 19 := by rfl) : zlk k 424 = some (2, 231, 2, 1665) := by unfold zlk; rw [hk]; rfl
theorem zl_19_427 {k : Nat} (hk : zcid k = 19 := by rfl) : zlk k 427 = some (2, 230, 2, 1661) := by unfold zlk; rw [hk]; rfl
theorem zl_19_430 {k : Nat} (hk : zcid k = 19 := by rfl) : zlk k 430 = some (2, 237, 2, 1689) := by unfold zlk; rw [hk]; rfl
end
section
/-- SlateHalves.isWithin(III)Z -/
def f_14 (M : ZMem) (a0 : Int32) (a1 : Int32) (a2 : Int32) : Option (Int32) := if a0 < a1 then (some 0) else (if a2 < a0 then (some 0) else (some 1))
set_option maxRecDepth 4000 in
theorem k_14 (d : Nat) {M : ZMem} {a0 : Int32} {a1 : Int32} {a2 : Int32} {out : Int32} (h : f_14 M a0 a1 a2 = some out) : zrn (d) 14 [.int a0, .int a1, .int a2] M (some (.int out), M) := by
  unfold f_14 at h
  refine zrn_of (L := [(0, .int a0), (1, .int a1), (2, .int a2)]) rfl ?_
  refine zo_iload_n (p' := 1) (zi_14 rfl) rfl rfl ?_
  refine zo_iload_n (p' := 2) (zi_14 rfl) rfl rfl ?_
  by_cases hc1 : a0 < a1
  · rw [if_pos hc1] at h
    refine zo_icT (p' := 14) (zi_14 rfl) rfl hc1 ?_
    refine zo_iconst (p' := 15) (v := 0) (zi_14 rfl) rfl rfl ?_
    cases h
    exact zo_iret (zi_14 rfl) rfl ⟨rfl, rfl⟩
  · rw [if_neg hc1] at h
    refine zo_icF (p' := 5) (zi_14 rfl) rfl rfl hc1 ?_
    refine zo_iload_n (p' := 6) (zi_14 rfl) rfl rfl ?_
    refine zo_iload_n (p' := 7) (zi_14 rfl) rfl rfl ?_
    by_cases hc2 : a2 < a0
    · rw [if_pos hc2] at h
      refine zo_icT (p' := 14) (zi_14 rfl) rfl hc2 ?_
      refine zo_iconst (p' := 15) (v := 0) (zi_14 rfl) rfl rfl ?_
      cases h
      exact zo_iret (zi_14 rfl) rfl ⟨rfl, rfl⟩
    · rw [if_neg hc2] at h
      refine zo_icF (p' := 10) (zi_14 rfl) rfl rfl hc2 ?_
      refine zo_iconst (p' := 11) (v := 1) (zi_14 rfl) rfl rfl ?_
      refine zo_goto (p' := 15) (zi_14 rfl) rfl ?_
      cases h
      exact zo_iret (zi_14 rfl) rfl ⟨rfl, rfl⟩
/-- SlateHalves$Yard.addBlock()LSlateHalves$Block; -/
def f_15 (M : ZMem) (o : Nat) : Option (Option Nat × ZMem) := if zok M 10 o = true then (zb (zgi M 10 1 o) fun x1 => if x1 < 6 then (zb (zgi M 10 1 o) fun x4 => zb (zpf M 10 1 o (.int ((x4 + 1))) false) fun M6 => zb (zgr M6 10 0 o) fun r8 => zb (zgi M6 10 1 o) fun x10 => zb r8 fun q12 => zb (zlaR M6 q12 (x10 - 1)) fun r13 => if r13 = some 18 then none else some (r13, M6)) else (some (none, M))) else none
theorem f_15_ok {M : ZMem} {o : Nat} {out : Option Nat × ZMem} (h : f_15 M o = some out) : zok M 10 o = true := by
  unfold f_15 at h
  by_cases hok : zok M 10 o = true
  · exact hok
  · rw [if_neg hok] at h; cases h
set_option maxRecDepth 4000 in
theorem k_15 (d : Nat) {M : ZMem} {o : Nat} {out : Option Nat × ZMem} (h : f_15 M o = some out) : zrn (d) 15 [zrf (some o)] M (some (zrf out.1), out.2) := by
  unfold f_15 at h
  by_cases hok : zok M 10 o = true
  · rw [if_pos hok] at h
    refine zrn_of (L := [(0, zrf (some o))]) rfl ?_
    refine zo_aload_n (p' := 1) (zi_15 rfl) rfl rfl ?_
    obtain ⟨x1, hx2, g16⟩ := zb_of h
    refine zo_getI (p' := 4) (zi_15 rfl) rfl zl_3_17 hx2 ?_
    refine zo_bipush (p' := 6) (v := 6) (zi_15 rfl) rfl rfl ?_
    by_cases hc3 : x1 < 6
    · rw [if_pos hc3] at g16
      refine zo_icT (p' := 11) (zi_15 rfl) rfl hc3 ?_
      refine zo_aload_n (p' := 12) (zi_15 rfl) rfl rfl ?_
      refine zo_dup (p' := 13) (zi_15 rfl) rfl (zrf_cat _) ?_
      obtain ⟨x4, hx5, g17⟩ := zb_of g16
      refine zo_getI (p' := 16) (zi_15 rfl) rfl zl_3_17 hx5 ?_
      refine zo_iconst (p' := 17) (v := 1) (zi_15 rfl) rfl rfl ?_
      refine zo_iadd (p' := 18) (zi_15 rfl) rfl ?_
      obtain ⟨M6, hx7, g18⟩ := zb_of g17
      refine zo_putI (p' := 21) (zi_15 rfl) rfl zl_3_17 (zpb_15 _) hx7 ?_
      refine zo_aload_n (p' := 22) (zi_15 rfl) rfl rfl ?_
      obtain ⟨r8, hx9, g19⟩ := zb_of g18
      refine zo_getR (p' := 25) (zi_15 rfl) rfl zl_3_11 hx9 ?_
      refine zo_aload_n (p' := 26) (zi_15 rfl) rfl rfl ?_
      obtain ⟨x10, hx11, g20⟩ := zb_of g19
      refine zo_getI (p' := 29) (zi_15 rfl) rfl zl_3_17 hx11 ?_
      refine zo_iconst (p' := 30) (v := 1) (zi_15 rfl) rfl rfl ?_
      refine zo_isub (p' := 31) (zi_15 rfl) rfl ?_
      obtain ⟨q12, h0, g21⟩ := zb_of g20
      subst h0
      obtain ⟨r13, hx14, g22⟩ := zb_of g21
      refine zo_aald (p' := 32) (zi_15 rfl) rfl hx14 ?_
      by_cases hr15 : r13 = some 18
      · rw [if_pos hr15] at g22; cases g22
      · rw [if_neg hr15] at g22
        cases g22
        exact zo_aret (zi_15 rfl) rfl rfl hr15
    · rw [if_neg hc3] at g16
      refine zo_icF (p' := 9) (zi_15 rfl) rfl rfl hc3 ?_
      refine zo_null (p' := 10) (zi_15 rfl) rfl ?_
      cases g16
      exact zo_aret (r := none) (zi_15 rfl) rfl rfl (by decide)
  · rw [if_neg hok] at h; cases h
/-- java/util/Arrays.fill([II)V -/
def f_17_5 : Nat → ZMem → Option Nat → Int32 → Int32 → Int32 → Option (ZMem)
  | 0, _, _, _, _, _ => none
  | z + 1, M, b0, b1, b2, b3 => if b3 ≤ b2 then (some M) else (zb b0 fun q7 => zb (zsa M 20 q7 b2 b1) fun M8 => f_17_5 z M8 (some q7) b1 ((b2 + 1)) b3)
set_option maxRecDepth 4000 in
theorem k_17_5 (d : Nat) : ∀ (z : Nat) (M : ZMem) (b0 : Option Nat) (b1 : Int32) (b2 : Int32) (b3 : Int32) (out : ZMem), f_17_5 z M b0 b1 b2 b3 = some out → zgo none (d) 17 5 [(0, zrf b0), (1, .int b1), (2, .int b2), (3, .int b3)] [] M (none, out) := by
  intro z
  induction z with
  | zero => intro M b0 b1 b2 b3 out h; cases h
  | succ z ih =>
    intro M b0 b1 b2 b3 out h
    rw [f_17_5] at h
    refine zo_iload_n (p' := 6) (zi_17 rfl) rfl rfl ?_
    refine zo_iload_n (p' := 7) (zi_17 rfl) rfl rfl ?_
    by_cases hc6 : b3 ≤ b2
    · rw [if_pos hc6] at h
      refine zo_icT (p' := 20) (zi_17 rfl) rfl hc6 ?_
      cases h
      exact zo_vret (zi_17 rfl) rfl
    · rw [if_neg hc6] at h
      refine zo_icF (p' := 10) (zi_17 rfl) rfl rfl hc6 ?_
      refine zo_aload_n (p' := 11) (zi_17 rfl) rfl rfl ?_
      refine zo_iload_n (p' := 12) (zi_17 rfl) rfl rfl ?_
      refine zo_iload_n (p' := 13) (zi_17 rfl) rfl rfl ?_
      obtain ⟨q7, h0, g10⟩ := zb_of h
      subst h0
      obtain ⟨M8, hx9, g11⟩ := zb_of g10
      refine zo_iast (p' := 14) (zi_17 rfl) rfl hx9 ?_
      refine zo_iinc (p' := 17) (v := (b2 + 1)) (L' := [(0, zrf (some q7)), (1, .int b1), (2, .int ((b2 + 1))), (3, .int b3)]) (zi_17 rfl) rfl zm_17_2 rfl rfl ⟨Or.inr ⟨by decide, rfl, fun q => absurd q (by decide)⟩, ⟨Or.inr ⟨by decide, rfl, fun _ => rfl⟩, ⟨Or.inl ⟨rfl, rfl⟩, ⟨Or.inr ⟨by decide, rfl, fun q => absurd q (by decide)⟩, trivial⟩⟩⟩⟩ ?_
      refine zo_goto (p' := 5) (zi_17 rfl) rfl ?_
      refine zgo_sub (L' := [(0, zrf ((some q7))), (1, .int b1), (2, .int (((b2 + 1)))), (3, .int b3)]) (⟨rfl, rfl, rfl, rfl, trivial⟩) ?_
      exact ih M8 (some q7) b1 ((b2 + 1)) b3 _ g11
def f_17 (M : ZMem) (a0 : Option Nat) (a1 : Int32) : Option (ZMem) := zb a0 fun q1 => zb (zlen none M q1) fun x2 => f_17_5 zF M (some q1) a1 0 x2
set_option maxRecDepth 4000 in
theorem k_17 (d : Nat) {M : ZMem} {a0 : Option Nat} {a1 : Int32} {out : ZMem} (h : f_17 M a0 a1 = some out) : zrn (d) 17 [zrf a0, .int a1] M (none, out) := by
  unfold f_17 at h
  refine zrn_of (L := [(0, zrf a0), (1, .int a1)]) (by simp [lv_args, zrf_cat, zcat_i, zcat_l, zcat_r]) ?_
  refine zo_iconst (p' := 1) (v := 0) (zi_17 rfl) rfl rfl ?_
  refine zo_istore_n (p' := 2) (L' := [(0, zrf a0), (1, .int a1), (2, .int 0)]) (zi_17 rfl) rfl zm_17_2 ⟨Or.inr ⟨by decide, rfl, fun q => absurd q (by decide)⟩, ⟨Or.inr ⟨by decide, rfl, fun _ => rfl⟩, ⟨Or.inl ⟨rfl, rfl⟩, trivial⟩⟩⟩ ?_
  refine zo_aload_n (p' := 3) (zi_17 rfl) rfl rfl ?_
  obtain ⟨q1, h0, g4⟩ := zb_of h
  subst h0
  obtain ⟨x2, hx3, g5⟩ := zb_of g4
  refine zo_alen (p' := 4) (zi_17 rfl) rfl hx3 ?_
  refine zo_istore_n (p' := 5) (L' := [(0, zrf (some q1)), (1, .int a1), (2, .int 0), (3, .int x2)]) (zi_17 rfl) rfl zm_17_3 ⟨Or.inr ⟨by decide, rfl, fun q => absurd q (by decide)⟩, ⟨Or.inr ⟨by decide, rfl, fun q => absurd q (by decide)⟩, ⟨Or.inr ⟨by decide, rfl, fun _ => rfl⟩, ⟨Or.inl ⟨rfl, rfl⟩, trivial⟩⟩⟩⟩ ?_
  refine zgo_sub (L' := [(0, zrf ((some q1))), (1, .int a1), (2, .int 0), (3, .int x2)]) (⟨rfl, rfl, rfl, rfl, trivial⟩) ?_
  exact k_17_5 _ zF M (some q1) a1 0 x2 _ g5
/-- SlateHalves$Block.become(III)V -/
def f_16 (M : ZMem) (o : Nat) (a0 : Int32) (a1 : Int32) (a2 : Int32) : Option (ZMem) := if zok M 1 o = true then (zb (zpf M 1 1 o (.int a0) false) fun M1 => zb (zpf M1 1 2 o (.int a1) false) fun M3 => zb (zpf M3 1 3 o (.int a2) false) fun M5 => zb (zpf M5 1 4 o (.int 0) false) fun M7 => zb (zpf M7 1 5 o (.int 0) false) fun M9 => zb (zgr M9 1 6 o) fun r11 => zb (f_17 M9 r11 0) fun M15 => some M15) else none
theorem f_16_ok {M : ZMem} {o : Nat} {a0 : Int32} {a1 : Int32} {a2 : Int32} {out : ZMem} (h : f_16 M o a0 a1 a2 = some out) : zok M 1 o = true := by
  unfold f_16 at h
  by_cases hok : zok M 1 o = true
  · exact hok
  · rw [if_neg hok] at h; cases h
set_option maxRecDepth 4000 in
theorem k_16 (d : Nat) {M : ZMem} {o : Nat} {a0 : Int32} {a1 : Int32} {a2 : Int32} {out : ZMem} (h : f_16 M o a0 a1 a2 = some out) : zrn (d + 1) 16 [zrf (some o), .int a0, .int a1, .int a2] M (none, out) := by
  unfold f_16 at h
  by_cases hok : zok M 1 o = true
  · rw [if_pos hok] at h
    refine zrn_of (L := [(0, zrf (some o)), (1, .int a0), (2, .int a1), (3, .int a2)]) rfl ?_
    refine zo_aload_n (p' := 1) (zi_16 rfl) rfl rfl ?_
    refine zo_iload_n (p' := 2) (zi_16 rfl) rfl rfl ?_
    obtain ⟨M1, hx2, g16⟩ := zb_of h
    refine zo_putI (p' := 5) (zi_16 rfl) rfl zl_4_22 (zpb_16 _) hx2 ?_
    refine zo_aload_n (p' := 6) (zi_16 rfl) rfl rfl ?_
    refine zo_iload_n (p' := 7) (zi_16 rfl) rfl rfl ?_
    obtain ⟨M3, hx4, g17⟩ := zb_of g16
    refine zo_putI (p' := 10) (zi_16 rfl) rfl zl_4_25 (zpb_16 _) hx4 ?_
    refine zo_aload_n (p' := 11) (zi_16 rfl) rfl rfl ?_
    refine zo_iload_n (p' := 12) (zi_16 rfl) rfl rfl ?_
    obtain ⟨M5, hx6, g18⟩ := zb_of g17
    refine zo_putI (p' := 15) (zi_16 rfl) rfl zl_4_19 (zpb_16 _) hx6 ?_
    refine zo_aload_n (p' := 16) (zi_16 rfl) rfl rfl ?_
    refine zo_iconst (p' := 17) (v := 0) (zi_16 rfl) rfl rfl ?_
    obtain ⟨M7, hx8, g19⟩ := zb_of g18
    refine zo_putI (p' := 20) (zi_16 rfl) rfl zl_4_28 (zpb_16 _) hx8 ?_
    refine zo_aload_n (p' := 21) (zi_16 rfl) rfl rfl ?_
    refine zo_iconst (p' := 22) (v := 0) (zi_16 rfl) rfl rfl ?_
    obtain ⟨M9, hx10, g20⟩ := zb_of g19
    refine zo_putI (p' := 25) (zi_16 rfl) rfl zl_4_31 (zpb_16 _) hx10 ?_
    refine zo_aload_n (p' := 26) (zi_16 rfl) rfl rfl ?_
    obtain ⟨r11, hx12, g21⟩ := zb_of g20
    refine zo_getR (p' := 29) (zi_16 rfl) rfl zl_4_9 hx12 ?_
    refine zo_iconst (p' := 30) (v := 0) (zi_16 rfl) rfl rfl ?_
    obtain ⟨M15, hx14, g22⟩ := zb_of g21
    refine zo_callSv (p' := 33) (as := [zrf r11, .int 0]) (r := []) (zi_16 rfl) rfl (Or.inl zl_4_34) rfl rfl (Nat.le_of_ble_eq_true rfl) (by rw [zml_17]; simp [lg_sl, zrf_cat, zcat_i, zcat_l, zcat_r]; done) (k_17 _ hx14) ?_
    cases g22
    exact zo_vret (zi_16 rfl) rfl
  · rw [if_neg hok] at h; cases h
/-- SlateHalves.block(III)I -/
def f_13 (M : ZMem) (o : Nat) (a0 : Int32) (a1 : Int32) (a2 : Int32) : Option (Int32 × ZMem) := if zok M 11 o = true then (zb (f_14 M a0 0 6) fun x1 => if ¬ x1 = 0 then (zb (f_14 M a1 0 9) fun x4 => if x4 = 0 then (some ((-2), M)) else (zb (f_14 M a2 1 60) fun x7 => if ¬ x7 = 0 then (zb (zgr M 11 0 o) fun r10 => zb r10 fun q12 => zb (zgr M 7 0 q12) fun r13 => zb r13 fun q15 => zbd (f_15 M q15) fun r16 M18 => zcs r16 (some ((-4), M18)) (fun q19 => zb (f_16 M18 q19 a0 a1 a2) fun M23 => zb (zgi M23 1 0 q19) fun x24 => some (x24, M23))) else (some ((-2), M)))) else (some ((-1), M))) else none
theorem f_13_ok {M : ZMem} {o : Nat} {a0 : Int32} {a1 : Int32} {a2 : Int32} {out : Int32 × ZMem} (h : f_13 M o a0 a1 a2 = some out) : zok M 11 o = true := by
  unfold f_13 at h
  by_cases hok : zok M 11 o = true
  · exact hok
  · rw [if_neg hok] at h; cases h
set_option maxRecDepth 4000 in
theorem k_13 (d : Nat) {M : ZMem} {o : Nat} {a0 : Int32} {a1 : Int32} {a2 : Int32} {out : Int32 × ZMem} (h : f_13 M o a0 a1 a2 = some out) : zrn (d + 2) 13 [zrf (some o), .int a0, .int a1, .int a2] M (some (.int out.1), out.2) := by
  unfold f_13 at h
  by_cases hok : zok M 11 o = true
  · rw [if_pos hok] at h
    refine zrn_of (L := [(0, zrf (some o)), (1, .int a0), (2, .int a1), (3, .int a2)]) rfl ?_
    refine zo_iload_n (p' := 1) (zi_13 rfl) rfl rfl ?_
    refine zo_iconst (p' := 2) (v := 0) (zi_13 rfl) rfl rfl ?_
    refine zo_bipush (p' := 4) (v := 6) (zi_13 rfl) rfl rfl ?_
    obtain ⟨x1, hx2, g26⟩ := zb_of h
    refine zo_callSi (p' := 7) (as := [.int a0, .int 0, .int 6]) (r := []) (zi_13 rfl) rfl (Or.inl zl_1_96) rfl rfl (Nat.le_of_ble_eq_true rfl) (Nat.le_of_ble_eq_true rfl) (k_14 _ hx2) ?_
    by_cases hc3 : ¬ x1 = 0
    · rw [if_pos hc3] at g26
      refine zo_ifT (p' := 12) (zi_13 rfl) rfl hc3 ?_
      refine zo_iload_n (p' := 13) (zi_13 rfl) rfl rfl ?_
      refine zo_iconst (p' := 14) (v := 0) (zi_13 rfl) rfl rfl ?_
      refine zo_bipush (p' := 16) (v := 9) (zi_13 rfl) rfl rfl ?_
      obtain ⟨x4, hx5, g27⟩ := zb_of g26
      refine zo_callSi (p' := 19) (as := [.int a1, .int 0, .int 9]) (r := []) (zi_13 rfl) rfl (Or.inl zl_1_96) rfl rfl (Nat.le_of_ble_eq_true rfl) (Nat.le_of_ble_eq_true rfl) (k_14 _ hx5) ?_
      by_cases hc6 : x4 = 0
      · rw [if_pos hc6] at g27
        refine zo_ifT (p' := 32) (zi_13 rfl) rfl hc6 ?_
        refine zo_bipush (p' := 34) (v := (-2)) (zi_13 rfl) rfl rfl ?_
        cases g27
        exact zo_iret (zi_13 rfl) rfl ⟨rfl, rfl⟩
      · rw [if_neg hc6] at g27
        refine zo_ifF (p' := 22) (zi_13 rfl) rfl rfl hc6 ?_
        refine zo_iload_n (p' := 23) (zi_13 rfl) rfl rfl ?_
        refine zo_iconst (p' := 24) (v := 1) (zi_13 rfl) rfl rfl ?_
        refine zo_bipush (p' := 26) (v := 60) (zi_13 rfl) rfl rfl ?_
        obtain ⟨x7, hx8, g28⟩ := zb_of g27
        refine zo_callSi (p' := 29) (as := [.int a2, .int 1, .int 60]) (r := []) (zi_13 rfl) rfl (Or.inl zl_1_96) rfl rfl (Nat.le_of_ble_eq_true rfl) (Nat.le_of_ble_eq_true rfl) (k_14 _ hx8) ?_
        by_cases hc9 : ¬ x7 = 0
        · rw [if_pos hc9] at g28
          refine zo_ifT (p' := 35) (zi_13 rfl) rfl hc9 ?_
          refine zo_aload_n (p' := 36) (zi_13 rfl) rfl rfl ?_
          obtain ⟨r10, hx11, g29⟩ := zb_of g28
          refine zo_getR (p' := 39) (zi_13 rfl) rfl zl_1_12 hx11 ?_
          obtain ⟨q12, h0, g30⟩ := zb_of g29
          subst h0
          obtain ⟨r13, hx14, g31⟩ := zb_of g30
          refine zo_getR (p' := 42) (zi_13 rfl) rfl zl_1_100 hx14 ?_
          obtain ⟨q15, h0, g32⟩ := zb_of g31
          subst h0
          obtain ⟨r16, M18, hx17, g33⟩ := zbd_of g32
          refine zo_callVa (p' := 45) (t := 10) (as := []) (r := []) (zi_13 rfl) rfl zl_1_103 rfl rfl (Or.inl ⟨by decide, rfl⟩) (Nat.le_of_ble_eq_true rfl) (Nat.le_of_ble_eq_true rfl) (f_15_ok hx17) (k_15 _ hx17) ?_
          refine zo_astore (p' := 47) (L' := [(0, zrf (some o)), (1, .int a0), (2, .int a1), (3, .int a2), (4, zrf r16)]) (zi_13 rfl) rfl zm_13_4 ⟨Or.inr ⟨by decide, rfl, fun q => absurd q (by decide)⟩, ⟨Or.inr ⟨by decide, rfl, fun q => absurd q (by decide)⟩, ⟨Or.inr ⟨by decide, rfl, fun q => absurd q (by decide)⟩, ⟨Or.inr ⟨by decide, rfl, fun _ => rfl⟩, ⟨Or.inl ⟨rfl, rfl⟩, trivial⟩⟩⟩⟩⟩ ?_
          refine zo_aload (p' := 49) (zi_13 rfl) rfl rfl ?_
          rcases r16 with _ | q19
          · have g34 := zcs_none g33
            refine zo_nonnullF (p' := 52) (zi_13 rfl) rfl ?_
            refine zo_bipush (p' := 54) (v := (-4)) (zi_13 rfl) rfl rfl ?_
            cases g34
            exact zo_iret (zi_13 rfl) rfl ⟨rfl, rfl⟩
          · obtain ⟨hq20, g35⟩ := zcs_some g33
            refine zo_nonnullT (p' := 55) (zi_13 rfl) rfl hq20 ?_
            refine zo_aload (p' := 57) (zi_13 rfl) rfl rfl ?_
            refine zo_iload_n (p' := 58) (zi_13 rfl) rfl rfl ?_
            refine zo_iload_n (p' := 59) (zi_13 rfl) rfl rfl ?_
            refine zo_iload_n (p' := 60) (zi_13 rfl) rfl rfl ?_
            obtain ⟨M23, hx22, g36⟩ := zb_of g35
            refine zo_callVv (p' := 63) (t := 1) (as := [.int a0, .int a1, .int a2]) (r := []) (zi_13 rfl) rfl zl_1_107 rfl rfl (Or.inl ⟨by decide, rfl⟩) (Nat.le_of_ble_eq_true rfl) (Nat.le_of_ble_eq_true rfl) (f_16_ok hx22) (k_16 _ hx22) ?_
            refine zo_aload (p' := 65) (zi_13 rfl) rfl rfl ?_
            obtain ⟨x24, hx25, g37⟩ := zb_of g36
            refine zo_getI (p' := 68) (zi_13 rfl) rfl zl_1_113 hx25 ?_
            cases g37
            exact zo_iret (zi_13 rfl) rfl ⟨rfl, rfl⟩
        · rw [if_neg hc9] at g28
          refine zo_ifF (p' := 32) (zi_13 rfl) rfl rfl hc9 ?_
          refine zo_bipush (p' := 34) (v := (-2)) (zi_13 rfl) rfl rfl ?_
          cases g28
          exact zo_iret (zi_13 rfl) rfl ⟨rfl, rfl⟩
    · rw [if_neg hc3] at g26
      refine zo_ifF (p' := 10) (zi_13 rfl) rfl rfl hc3 ?_
      refine zo_iconst (p' := 11) (v := (-1)) (zi_13 rfl) rfl rfl ?_
      cases g26
      exact zo_iret (zi_13 rfl) rfl ⟨rfl, rfl⟩
  · rw [if_neg hok] at h; cases h
/-- SlateHalves$Yard.find(I)LSlateHalves$Block; -/
def f_19 (M : ZMem) (o : Nat) (a0 : Int32) : Option (Option Nat) := if zok M 10 o = true then (zb (zgi M 10 1 o) fun x1 => zb (f_14 M a0 0 ((x1 - 1))) fun x3 => if x3 = 0 then (some none) else (zb (zgr M 10 0 o) fun r6 => zb r6 fun q8 => zb (zlaR M q8 a0) fun r9 => if r9 = some 18 then none else some r9)) else none
theorem f_19_ok {M : ZMem} {o : Nat} {a0 : Int32} {out : Option Nat} (h : f_19 M o a0 = some out) : zok M 10 o = true := by
  unfold f_19 at h
  by_cases hok : zok M 10 o = true
  · exact hok
  · rw [if_neg hok] at h; cases h
set_option maxRecDepth 4000 in
theorem k_19 (d : Nat) {M : ZMem} {o : Nat} {a0 : Int32} {out : Option Nat} (h : f_19 M o a0 = some out) : zrn (d + 1) 19 [zrf (some o), .int a0] M (some (zrf out), M) := by
  unfold f_19 at h
  by_cases hok : zok M 10 o = true
  · rw [if_pos hok] at h
    refine zrn_of (L := [(0, zrf (some o)), (1, .int a0)]) rfl ?_
    refine zo_iload_n (p' := 1) (zi_19 rfl) rfl rfl ?_
    refine zo_iconst (p' := 2) (v := 0) (zi_19 rfl) rfl rfl ?_
    refine zo_aload_n (p' := 3) (zi_19 rfl) rfl rfl ?_
    obtain ⟨x1, hx2, g12⟩ := zb_of h
    refine zo_getI (p' := 6) (zi_19 rfl) rfl zl_3_17 hx2 ?_
    refine zo_iconst (p' := 7) (v := 1) (zi_19 rfl) rfl rfl ?_
    refine zo_isub (p' := 8) (zi_19 rfl) rfl ?_
    obtain ⟨x3, hx4, g13⟩ := zb_of g12
    refine zo_callSi (p' := 11) (as := [.int a0, .int 0, .int ((x1 - 1))]) (r := []) (zi_19 rfl) rfl (Or.inr zl_3_33) rfl rfl (Nat.le_of_ble_eq_true rfl) (Nat.le_of_ble_eq_true rfl) (k_14 _ hx4) ?_
    by_cases hc5 : x3 = 0
    · rw [if_pos hc5] at g13
      refine zo_ifT (p' := 23) (zi_19 rfl) rfl hc5 ?_
      refine zo_null (p' := 24) (zi_19 rfl) rfl ?_
      cases g13
      exact zo_aret (r := none) (zi_19 rfl) rfl rfl (by decide)
    · rw [if_neg hc5] at g13
      refine zo_ifF (p' := 14) (zi_19 rfl) rfl rfl hc5 ?_
      refine zo_aload_n (p' := 15) (zi_19 rfl) rfl rfl ?_
      obtain ⟨r6, hx7, g14⟩ := zb_of g13
      refine zo_getR (p' := 18) (zi_19 rfl) rfl zl_3_11 hx7 ?_
      refine zo_iload_n (p' := 19) (zi_19 rfl) rfl rfl ?_
      obtain ⟨q8, h0, g15⟩ := zb_of g14
      subst h0
      obtain ⟨r9, hx10, g16⟩ := zb_of g15
      refine zo_aald (p' := 20) (zi_19 rfl) rfl hx10 ?_
      refine zo_goto (p' := 24) (zi_19 rfl) rfl ?_
      by_cases hr11 : r9 = some 18
      · rw [if_pos hr11] at g16; cases g16
      · rw [if_neg hr11] at g16
        cases g16
        exact zo_aret (zi_19 rfl) rfl rfl hr11
  · rw [if_neg hok] at h; cases h
/-- SlateHalves.holding()LSlateHalves$Hill; -/
def f_20 (M : ZMem) (o : Nat) : Option (Option Nat) := if zok M 11 o = true then (zb (zgr M 11 0 o) fun r1 => zb r1 fun q3 => zb (zgr M 7 0 q3) fun r4 => zb r4 fun q6 => zb (zgi M 10 4 q6) fun x7 => zb (zgi M 11 7 o) fun x9 => zb (f_14 M x7 0 ((x9 - 1))) fun x11 => if x11 = 0 then (zb (zgr M 11 8 o) fun r14 => if r14 = some 18 then none else some r14) else (zb (zgr M 11 6 o) fun r17 => zb r17 fun q19 => zb (zlaR M q19 x7) fun r20 => if r20 = some 18 then none else some r20)) else none
theorem f_20_ok {M : ZMem} {o : Nat} {out : Option Nat} (h : f_20 M o = some out) : zok M 11 o = true := by
  unfold f_20 at h
  by_cases hok : zok M 11 o = true
  · exact hok
  · rw [if_neg hok] at h; cases h
set_option maxRecDepth 4000 in
theorem k_20 (d : Nat) {M : ZMem} {o : Nat} {out : Option Nat} (h : f_20 M o = some out) : zrn (d + 1) 20 [zrf (some o)] M (some (zrf out), M) := by
  unfold f_20 at h
  by_cases hok : zok M 11 o = true
  · rw [if_pos hok] at h
    refine zrn_of (L := [(0, zrf (some o))]) rfl ?_
    refine zo_aload_n (p' := 1) (zi_20 rfl) rfl rfl ?_
    obtain ⟨r1, hx2, g23⟩ := zb_of h
    refine zo_getR (p' := 4) (zi_20 rfl) rfl zl_1_12 hx2 ?_
    obtain ⟨q3, h0, g24⟩ := zb_of g23
    subst h0
    obtain ⟨r4, hx5, g25⟩ := zb_of g24
    refine zo_getR (p' := 7) (zi_20 rfl) rfl zl_1_100 hx5 ?_
    obtain ⟨q6, h0, g26⟩ := zb_of g25
    subst h0
    obtain ⟨x7, hx8, g27⟩ := zb_of g26
    refine zo_getI (p' := 10) (zi_20 rfl) rfl zl_1_223 hx8 ?_
    refine zo_istore_n (p' := 11) (L' := [(0, zrf (some o)), (1, .int x7)]) (zi_20 rfl) rfl zm_20_1 ⟨Or.inr ⟨by decide, rfl, fun _ => zrf_cat _⟩, ⟨Or.inl ⟨rfl, rfl⟩, trivial⟩⟩ ?_
    refine zo_iload_n (p' := 12) (zi_20 rfl) rfl rfl ?_
    refine zo_iconst (p' := 13) (v := 0) (zi_20 rfl) rfl rfl ?_
    refine zo_aload_n (p' := 14) (zi_20 rfl) rfl rfl ?_
    obtain ⟨x9, hx10, g28⟩ := zb_of g27
    refine zo_getI (p' := 17) (zi_20 rfl) rfl zl_1_46 hx10 ?_
    refine zo_iconst (p' := 18) (v := 1) (zi_20 rfl) rfl rfl ?_
    refine zo_isub (p' := 19) (zi_20 rfl) rfl ?_
    obtain ⟨x11, hx12, g29⟩ := zb_of g28
    refine zo_callSi (p' := 22) (as := [.int x7, .int 0, .int ((x9 - 1))]) (r := []) (zi_20 rfl) rfl (Or.inl zl_1_96) rfl rfl (Nat.le_of_ble_eq_true rfl) (Nat.le_of_ble_eq_true rfl) (k_14 _ hx12) ?_
    by_cases hc13 : x11 = 0
    · rw [if_pos hc13] at g29
      refine zo_ifT (p' := 34) (zi_20 rfl) rfl hc13 ?_
      refine zo_aload_n (p' := 35) (zi_20 rfl) rfl rfl ?_
      obtain ⟨r14, hx15, g30⟩ := zb_of g29
      refine zo_getR (p' := 38) (zi_20 rfl) rfl zl_1_50 hx15 ?_
      by_cases hr16 : r14 = some 18
      · rw [if_pos hr16] at g30; cases g30
      · rw [if_neg hr16] at g30
        cases g30
        exact zo_aret (zi_20 rfl) rfl rfl hr16
    · rw [if_neg hc13] at g29
      refine zo_ifF (p' := 25) (zi_20 rfl) rfl rfl hc13 ?_
      refine zo_aload_n (p' := 26) (zi_20 rfl) rfl rfl ?_
      obtain ⟨r17, hx18, g31⟩ := zb_of g29
      refine zo_getR (p' := 29) (zi_20 rfl) rfl zl_1_42 hx18 ?_
      refine zo_iload_n (p' := 30) (zi_20 rfl) rfl rfl ?_
      obtain ⟨q19, h0, g32⟩ := zb_of g31
      subst h0
      obtain ⟨r20, hx21, g33⟩ := zb_of g32
      refine zo_aald (p' := 31) (zi_20 rfl) rfl hx21 ?_
      refine zo_goto (p' := 38) (zi_20 rfl) rfl ?_
      by_cases hr22 : r20 = some 18
      · rw [if_pos hr22] at g33; cases g33
      · rw [if_neg hr22] at g33
        cases g33
        exact zo_aret (zi_20 rfl) rfl rfl hr22
  · rw [if_neg hok] at h; cases h
/-- SlateHalves$Hill.looksAt(ILSlateHalves$Block;I)I -/
def f_23 (M : ZMem) (a0 : Int32) (a1 : Option Nat) (a2 : Int32) : Option (Int32) := if a0 = 98 then (zb a1 fun q6 => zb (zgi M 1 0 q6) fun x7 => some x7) else (if a0 = 100 then (zb a1 fun q9 => zb (zgi M 1 4 q9) fun x10 => some (x10 / 10)) else (if a0 = 107 then (zb a1 fun q12 => zb (zgi M 1 1 q12) fun x13 => some x13) else (if a0 = 116 then (zb a1 fun q15 => zb (zgi M 1 3 q15) fun x16 => some (x16 / 10)) else (if a0 = 118 then (zb a1 fun q18 => zb (zgi M 1 2 q18) fun x19 => some x19) else (some (a2 - a2 / 10 * 10))))))
set_option maxRecDepth 4000 in
theorem k_23 (d : Nat) {M : ZMem} {a0 : Int32} {a1 : Option Nat} {a2 : Int32} {out : Int32} (h : f_23 M a0 a1 a2 = some out) : zrn (d) 23 [.int a0, zrf a1, .int a2] M (some (.int out), M) := by
  unfold f_23 at h
  refine zrn_of (L := [(0, .int a0), (1, zrf a1), (2, .int a2)]) (by simp [lv_args, zrf_cat, zcat_i, zcat_l, zcat_r]) ?_
  refine zo_iload_n (p' := 1) (zi_23 rfl) rfl rfl ?_
  by_cases hc1 : a0 = 98
  · rw [if_pos hc1] at h
    refine zo_look (p' := 52) (n := 51) (zi_23 rfl) (by decide) (zsel_hit hc1 (by decide)) rfl ?_
    refine zo_aload_n (p' := 53) (zi_23 rfl) rfl rfl ?_
    obtain ⟨q6, h0, g21⟩ := zb_of h
    subst h0
    obtain ⟨x7, hx8, g22⟩ := zb_of g21
    refine zo_getI (p' := 56) (zi_23 rfl) rfl zl_6_46 hx8 ?_
    cases g22
    exact zo_iret (zi_23 rfl) rfl ⟨rfl, rfl⟩
  · rw [if_neg hc1] at h
    by_cases hc2 : a0 = 100
    · rw [if_pos hc2] at h
      refine zo_look (p' := 75) (n := 74) (zi_23 rfl) (by decide) (zsel_skip hc1 (by decide) (zsel_hit hc2 (by decide))) rfl ?_
      refine zo_aload_n (p' := 76) (zi_23 rfl) rfl rfl ?_
      obtain ⟨q9, h0, g23⟩ := zb_of h
      subst h0
      obtain ⟨x10, hx11, g24⟩ := zb_of g23
      refine zo_getI (p' := 79) (zi_23 rfl) rfl zl_6_58 hx11 ?_
      refine zo_bipush (p' := 81) (v := 10) (zi_23 rfl) rfl rfl ?_
      refine zo_idiv (p' := 82) (zi_23 rfl) rfl (by decide) ?_
      cases g24
      exact zo_iret (zi_23 rfl) rfl ⟨rfl, rfl⟩
    · rw [if_neg hc2] at h
      by_cases hc3 : a0 = 107
      · rw [if_pos hc3] at h
        refine zo_look (p' := 57) (n := 56) (zi_23 rfl) (by decide) (zsel_skip hc1 (by decide) (zsel_skip hc2 (by decide) (zsel_hit hc3 (by decide)))) rfl ?_
        refine zo_aload_n (p' := 58) (zi_23 rfl) rfl rfl ?_
        obtain ⟨q12, h0, g25⟩ := zb_of h
        subst h0
        obtain ⟨x13, hx14, g26⟩ := zb_of g25
        refine zo_getI (p' := 61) (zi_23 rfl) rfl zl_6_51 hx14 ?_
        cases g26
        exact zo_iret (zi_23 rfl) rfl ⟨rfl, rfl⟩
      · rw [if_neg hc3] at h
        by_cases hc4 : a0 = 116
        · rw [if_pos hc4] at h
          refine zo_look (p' := 67) (n := 66) (zi_23 rfl) (by decide) (zsel_skip hc1 (by decide) (zsel_skip hc2 (by decide) (zsel_skip hc3 (by decide) (zsel_hit hc4 (by decide))))) rfl ?_
          refine zo_aload_n (p' := 68) (zi_23 rfl) rfl rfl ?_
          obtain ⟨q15, h0, g27⟩ := zb_of h
          subst h0
          obtain ⟨x16, hx17, g28⟩ := zb_of g27
          refine zo_getI (p' := 71) (zi_23 rfl) rfl zl_6_57 hx17 ?_
          refine zo_bipush (p' := 73) (v := 10) (zi_23 rfl) rfl rfl ?_
          refine zo_idiv (p' := 74) (zi_23 rfl) rfl (by decide) ?_
          cases g28
          exact zo_iret (zi_23 rfl) rfl ⟨rfl, rfl⟩
        · rw [if_neg hc4] at h
          by_cases hc5 : a0 = 118
          · rw [if_pos hc5] at h
            refine zo_look (p' := 62) (n := 61) (zi_23 rfl) (by decide) (zsel_skip hc1 (by decide) (zsel_skip hc2 (by decide) (zsel_skip hc3 (by decide) (zsel_skip hc4 (by decide) (zsel_hit hc5 (by decide)))))) rfl ?_
            refine zo_aload_n (p' := 63) (zi_23 rfl) rfl rfl ?_
            obtain ⟨q18, h0, g29⟩ := zb_of h
            subst h0
            obtain ⟨x19, hx20, g30⟩ := zb_of g29
            refine zo_getI (p' := 66) (zi_23 rfl) rfl zl_6_54 hx20 ?_
            cases g30
            exact zo_iret (zi_23 rfl) rfl ⟨rfl, rfl⟩
          · rw [if_neg hc5] at h
            refine zo_look (p' := 83) (n := 82) (zi_23 rfl) (by decide) (zsel_skip hc1 (by decide) (zsel_skip hc2 (by decide) (zsel_skip hc3 (by decide) (zsel_skip hc4 (by decide) (zsel_skip hc5 (by decide) (rfl)))))) rfl ?_
            refine zo_iload_n (p' := 84) (zi_23 rfl) rfl rfl ?_
            refine zo_bipush (p' := 86) (v := 10) (zi_23 rfl) rfl rfl ?_
            refine zo_irem (p' := 87) (zi_23 rfl) rfl (by decide) ?_
            cases h
            exact zo_iret (zi_23 rfl) rfl ⟨rfl, rfl⟩
/-- SlateHalves$Hill.holdsTest(ILSlateHalves$Block;I)Z -/
def f_22 (M : ZMem) (a0 : Int32) (a1 : Option Nat) (a2 : Int32) : Option (Int32) := zb (f_23 M (((a0 >>> (16 &&& 31)) &&& 255)) a1 a2) fun x1 => if ((a0 >>> (8 &&& 31)) &&& 255) = 60 then (if (a0 &&& 255) ≤ x1 then (some 0) else (some 1)) else (if ((a0 >>> (8 &&& 31)) &&& 255) = 61 then (if ¬ x1 = (a0 &&& 255) then (some 0) else (some 1)) else (if x1 ≤ (a0 &&& 255) then (some 0) else (some 1)))
set_option maxRecDepth 4000 in
theorem k_22 (d : Nat) {M : ZMem} {a0 : Int32} {a1 : Option Nat} {a2 : Int32} {out : Int32} (h : f_22 M a0 a1 a2 = some out) : zrn (d + 1) 22 [.int a0, zrf a1, .int a2] M (some (.int out), M) := by
  unfold f_22 at h
  refine zrn_of (L := [(0, .int a0), (1, zrf a1), (2, .int a2)]) (by simp [lv_args, zrf_cat, zcat_i, zcat_l, zcat_r]) ?_
  refine zo_iload_n (p' := 1) (zi_22 rfl) rfl rfl ?_
  refine zo_bipush (p' := 3) (v := 16) (zi_22 rfl) rfl rfl ?_
  refine zo_ishr (p' := 4) (zi_22 rfl) rfl ?_
  refine zo_sipush (p' := 7) (v := 255) (zi_22 rfl) rfl rfl ?_
  refine zo_iand (p' := 8) (zi_22 rfl) rfl ?_
  refine zo_aload_n (p' := 9) (zi_22 rfl) rfl rfl ?_
  refine zo_iload_n (p' := 10) (zi_22 rfl) rfl rfl ?_
  obtain ⟨x1, hx2, g8⟩ := zb_of h
  refine zo_callSi (p' := 13) (as := [.int (((a0 >>> (16 &&& 31)) &&& 255)), zrf a1, .int a2]) (r := []) (zi_22 rfl) rfl (Or.inl zl_6_42) rfl rfl (Nat.le_of_ble_eq_true rfl) (by rw [zml_23]; simp [lg_sl, zrf_cat, zcat_i, zcat_l, zcat_r]; done) (k_23 _ hx2) ?_
  refine zo_istore_n (p' := 14) (L' := [(0, .int a0), (1, zrf a1), (2, .int a2), (3, .int x1)]) (zi_22 rfl) rfl zm_22_3 ⟨Or.inr ⟨by decide, rfl, fun q => absurd q (by decide)⟩, ⟨Or.inr ⟨by decide, rfl, fun q => absurd q (by decide)⟩, ⟨Or.inr ⟨by decide, rfl, fun _ => rfl⟩, ⟨Or.inl ⟨rfl, rfl⟩, trivial⟩⟩⟩⟩ ?_
  refine zo_iload_n (p' := 15) (zi_22 rfl) rfl rfl ?_
  refine zo_sipush (p' := 18) (v := 255) (zi_22 rfl) rfl rfl ?_
  refine zo_iand (p' := 19) (zi_22 rfl) rfl ?_
  refine zo_istore (p' := 21) (L' := [(0, .int a0), (1, zrf a1), (2, .int a2), (3, .int x1), (4, .int ((a0 &&& 255)))]) (zi_22 rfl) rfl zm_22_4 ⟨Or.inr ⟨by decide, rfl, fun q => absurd q (by decide)⟩, ⟨Or.inr ⟨by decide, rfl, fun q => absurd q (by decide)⟩, ⟨Or.inr ⟨by decide, rfl, fun q => absurd q (by decide)⟩, ⟨Or.inr ⟨by decide, rfl, fun _ => rfl⟩, ⟨Or.inl ⟨rfl, rfl⟩, trivial⟩⟩⟩⟩⟩ ?_
  refine zo_iload_n (p' := 22) (zi_22 rfl) rfl rfl ?_
  refine zo_bipush (p' := 24) (v := 8) (zi_22 rfl) rfl rfl ?_
  refine zo_ishr (p' := 25) (zi_22 rfl) rfl ?_
  refine zo_sipush (p' := 28) (v := 255) (zi_22 rfl) rfl rfl ?_
  refine zo_iand (p' := 29) (zi_22 rfl) rfl ?_
  by_cases hc3 : ((a0 >>> (8 &&& 31)) &&& 255) = 60
  · rw [if_pos hc3] at g8
    refine zo_look (p' := 56) (n := 27) (zi_22 rfl) (by decide) (zsel_hit hc3 (by decide)) rfl ?_
    refine zo_iload_n (p' := 57) (zi_22 rfl) rfl rfl ?_
    refine zo_iload (p' := 59) (zi_22 rfl) rfl rfl ?_
    by_cases hc5 : (a0 &&& 255) ≤ x1
    · rw [if_pos hc5] at g8
      refine zo_icT (p' := 66) (zi_22 rfl) rfl hc5 ?_
      refine zo_iconst (p' := 67) (v := 0) (zi_22 rfl) rfl rfl ?_
      cases g8
      exact zo_iret (zi_22 rfl) rfl ⟨rfl, rfl⟩
    · rw [if_neg hc5] at g8
      refine zo_icF (p' := 62) (zi_22 rfl) rfl rfl hc5 ?_
      refine zo_iconst (p' := 63) (v := 1) (zi_22 rfl) rfl rfl ?_
      refine zo_goto (p' := 67) (zi_22 rfl) rfl ?_
      cases g8
      exact zo_iret (zi_22 rfl) rfl ⟨rfl, rfl⟩
  · rw [if_neg hc3] at g8
    by_cases hc4 : ((a0 >>> (8 &&& 31)) &&& 255) = 61
    · rw [if_pos hc4] at g8
      refine zo_look (p' := 68) (n := 39) (zi_22 rfl) (by decide) (zsel_skip hc3 (by decide) (zsel_hit hc4 (by decide))) rfl ?_
      refine zo_iload_n (p' := 69) (zi_22 rfl) rfl rfl ?_
      refine zo_iload (p' := 71) (zi_22 rfl) rfl rfl ?_
      by_cases hc6 : ¬ x1 = (a0 &&& 255)
      · rw [if_pos hc6] at g8
        refine zo_icT (p' := 78) (zi_22 rfl) rfl hc6 ?_
        refine zo_iconst (p' := 79) (v := 0) (zi_22 rfl) rfl rfl ?_
        cases g8
        exact zo_iret (zi_22 rfl) rfl ⟨rfl, rfl⟩
      · rw [if_neg hc6] at g8
        refine zo_icF (p' := 74) (zi_22 rfl) rfl rfl hc6 ?_
        refine zo_iconst (p' := 75) (v := 1) (zi_22 rfl) rfl rfl ?_
        refine zo_goto (p' := 79) (zi_22 rfl) rfl ?_
        cases g8
        exact zo_iret (zi_22 rfl) rfl ⟨rfl, rfl⟩
    · rw [if_neg hc4] at g8
      refine zo_look (p' := 80) (n := 51) (zi_22 rfl) (by decide) (zsel_skip hc3 (by decide) (zsel_skip hc4 (by decide) (rfl))) rfl ?_
      refine zo_iload_n (p' := 81) (zi_22 rfl) rfl rfl ?_
      refine zo_iload (p' := 83) (zi_22 rfl) rfl rfl ?_
      by_cases hc7 : x1 ≤ (a0 &&& 255)
      · rw [if_pos hc7] at g8
        refine zo_icT (p' := 90) (zi_22 rfl) rfl hc7 ?_
        refine zo_iconst (p' := 91) (v := 0) (zi_22 rfl) rfl rfl ?_
        cases g8
        exact zo_iret (zi_22 rfl) rfl ⟨rfl, rfl⟩
      · rw [if_neg hc7] at g8
        refine zo_icF (p' := 86) (zi_22 rfl) rfl rfl hc7 ?_
        refine zo_iconst (p' := 87) (v := 1) (zi_22 rfl) rfl rfl ?_
        refine zo_goto (p' := 91) (zi_22 rfl) rfl ?_
        cases g8
        exact zo_iret (zi_22 rfl) rfl ⟨rfl, rfl⟩
/-- java/lang/Math.max(II)I -/
def f_24 (M : ZMem) (a0 : Int32) (a1 : Int32) : Option (Int32) := if a0 < a1 then (some a1) else (some a0)
set_option maxRecDepth 4000 in
theorem k_24 (d : Nat) {M : ZMem} {a0 : Int32} {a1 : Int32} {out : Int32} (h : f_24 M a0 a1 = some out) : zrn (d) 24 [.int a0, .int a1] M (some (.int out), M) := by
  unfold f_24 at h
  refine zrn_of (L := [(0, .int a0), (1, .int a1)]) rfl ?_
  refine zo_iload_n (p' := 1) (zi_24 rfl) rfl rfl ?_
  refine zo_iload_n (p' := 2) (zi_24 rfl) rfl rfl ?_
  by_cases hc1 : a0 < a1
  · rw [if_pos hc1] at h
    refine zo_icT (p' := 9) (zi_24 rfl) rfl hc1 ?_
    refine zo_iload_n (p' := 10) (zi_24 rfl) rfl rfl ?_
    cases h
    exact zo_iret (zi_24 rfl) rfl ⟨rfl, rfl⟩
  · rw [if_neg hc1] at h
    refine zo_icF (p' := 5) (zi_24 rfl) rfl rfl hc1 ?_
    refine zo_iload_n (p' := 6) (zi_24 rfl) rfl rfl ?_
    refine zo_goto (p' := 10) (zi_24 rfl) rfl ?_
    cases h
    exact zo_iret (zi_24 rfl) rfl ⟨rfl, rfl⟩
/-- SlateHalves$Hill.priceOf(LSlateHalves$Block;I)I -/
def f_21_168 (r9 : ZMem → Nat → Option Nat → Int32 → Int32 → Int32 → Int32 → Option (Int32)) (M : ZMem) (o : Nat) (b1 : Option Nat) (b2 : Int32) (b3 : Int32) (b4 : Int32) (b5 : Int32) : Option (Int32) := r9 M o b1 b2 b3 b4 ((b5 + 1))
def f_21_87 (r9 : ZMem → Nat → Option Nat → Int32 → Int32 → Int32 → Int32 → Option (Int32)) (M : ZMem) (o : Nat) (b1 : Option Nat) (b2 : Int32) (b3 : Int32) (b4 : Int32) (b5 : Int32) (b6 : Int32) : Option (Int32) := f_21_168 (fun M a0 a1 a2 a3 a4 a5 => r9 M a0 a1 a2 a3 a4 a5) M o b1 b2 b3 ((b6 ||| b5)) b4
def f_21_9 : Nat → ZMem → Nat → Option Nat → Int32 → Int32 → Int32 → Int32 → Option (Int32)
  | 0, _, _, _, _, _, _, _ => none
  | z + 1, M, o, b1, b2, b3, b4, b5 => zb (zgi M 3 1 o) fun x1 => if x1 ≤ b5 then (zb (f_24 M 0 b3) fun x4 => some x4) else (zb (zgr M 3 0 o) fun r6 => zb r6 fun q8 => zb (zai M q8 b5) fun x9 => if (x9 >>> (24 &&& 31)) = 0 then (zb (f_22 M x9 b1 b2) fun x16 => if x16 = 0 then (f_21_87 (fun M a0 a1 a2 a3 a4 a5 => f_21_9 z M a0 a1 a2 a3 a4 a5) M o b1 b2 b3 b5 0 ((b4 <<< (1 &&& 31)))) else (f_21_87 (fun M a0 a1 a2 a3 a4 a5 => f_21_9 z M a0 a1 a2 a3 a4 a5) M o b1 b2 b3 b5 1 ((b4 <<< (1 &&& 31))))) else (if (x9 >>> (24 &&& 31)) = 1 then (f_21_168 (fun M a0 a1 a2 a3 a4 a5 => f_21_9 z M a0 a1 a2 a3 a4 a5) M o b1 b2 b3 ((b4 ^^^ 1)) b5) else (if (x9 >>> (24 &&& 31)) = 2 then (f_21_168 (fun M a0 a1 a2 a3 a4 a5 => f_21_9 z M a0 a1 a2 a3 a4 a5) M o b1 b2 b3 (((b4 >>> (1 &&& 31)) &&& (b4 ||| (-2)))) b5) else (if (x9 >>> (24 &&& 31)) = 3 then (f_21_168 (fun M a0 a1 a2 a3 a4 a5 => f_21_9 z M a0 a1 a2 a3 a4 a5) M o b1 b2 b3 (((b4 >>> (1 &&& 31)) ||| (b4 &&& 1))) b5) else (if (x9 >>> (24 &&& 31)) = 4 then (f_21_168 (fun M a0 a1 a2 a3 a4 a5 => f_21_9 z M a0 a1 a2 a3 a4 a5) M o b1 b2 ((b3 + ((b4 &&& 1) * (x9 &&& 255)))) 0 b5) else (f_21_168 (fun M a0 a1 a2 a3 a4 a5 => f_21_9 z M a0 a1 a2 a3 a4 a5) M o b1 b2 ((b3 - ((b4 &&& 1) * (x9 &&& 255)))) 0 b5))))))
set_option maxRecDepth 4000 in
theorem k_21_168 (d : Nat) (r9 : ZMem → Nat → Option Nat → Int32 → Int32 → Int32 → Int32 → Option (Int32)) (h9 : ∀ (M : ZMem) (a0 : Nat) (a1 : Option Nat) (a2 : Int32) (a3 : Int32) (a4 : Int32) (a5 : Int32) (out : Int32), r9 M a0 a1 a2 a3 a4 a5 = some out → zgo none (d + 2) 21 9 [(0, zrf (some a0)), (1, zrf a1), (2, .int a2), (3, .int a3), (4, .int a4), (5, .int a5)] [] M (some (.int out), M)) : ∀ (M : ZMem) (o : Nat) (b1 : Option Nat) (b2 : Int32) (b3 : Int32) (b4 : Int32) (b5 : Int32) (out : Int32), f_21_168 r9 M o b1 b2 b3 b4 b5 = some out → zgo none (d + 2) 21 168 [(0, zrf (some o)), (1, zrf b1), (2, .int b2), (3, .int b3), (4, .int b4), (5, .int b5)] [] M (some (.int out), M) := by
  intro M o b1 b2 b3 b4 b5 out h
  unfold f_21_168 at h
  refine zo_iinc (p' := 171) (v := (b5 + 1)) (L' := [(0, zrf (some o)), (1, zrf b1), (2, .int b2), (3, .int b3), (4, .int b4), (5, .int ((b5 + 1)))]) (zi_21 rfl) rfl zm_21_5 rfl rfl ⟨Or.inr ⟨by decide, rfl, fun q => absurd q (by decide)⟩, ⟨Or.inr ⟨by decide, rfl, fun q => absurd q (by decide)⟩, ⟨Or.inr ⟨by decide, rfl, fun q => absurd q (by decide)⟩, ⟨Or.inr ⟨by decide, rfl, fun q => absurd q (by decide)⟩, ⟨Or.inr ⟨by decide, rfl, fun _ => rfl⟩, ⟨Or.inl ⟨rfl, rfl⟩, trivial⟩⟩⟩⟩⟩⟩ ?_
  refine zo_goto (p' := 9) (zi_21 rfl) rfl ?_
  refine zgo_sub (L' := [(0, zrf (some o)), (1, zrf b1), (2, .int b2), (3, .int b3), (4, .int b4), (5, .int (((b5 + 1))))]) (⟨rfl, rfl, rfl, rfl, rfl, rfl, trivial⟩) ?_
  exact h9 M o b1 b2 b3 b4 ((b5 + 1)) _ h
set_option maxRecDepth 4000 in
theorem k_21_87 (d : Nat) (r9 : ZMem → Nat → Option Nat → Int32 → Int32 → Int32 → Int32 → Option (Int32)) (h9 : ∀ (M : ZMem) (a0 : Nat) (a1 : Option Nat) (a2 : Int32) (a3 : Int32) (a4 : Int32) (a5 : Int32) (out : Int32), r9 M a0 a1 a2 a3 a4 a5 = some out → zgo none (d + 2) 21 9 [(0, zrf (some a0)), (1, zrf a1), (2, .int a2), (3, .int a3), (4, .int a4), (5, .int a5)] [] M (some (.int out), M)) : ∀ (M : ZMem) (o : Nat) (b1 : Option Nat) (b2 : Int32) (b3 : Int32) (b4 : Int32) (b5 : Int32) (b6 : Int32) (out : Int32), f_21_87 r9 M o b1 b2 b3 b4 b5 b6 = some out → zgo none (d + 2) 21 87 [(0, zrf (some o)), (1, zrf b1), (2, .int b2), (3, .int b3), (5, .int b4)] [.int b5, .int b6] M (some (.int out), M) := by
  intro M o b1 b2 b3 b4 b5 b6 out h
  unfold f_21_87 at h
  refine zo_ior (p' := 88) (zi_21 rfl) rfl ?_
  refine zo_istore (p' := 90) (L' := [(0, zrf (some o)), (1, zrf b1), (2, .int b2), (3, .int b3), (4, .int ((b6 ||| b5))), (5, .int b4)]) (zi_21 rfl) rfl zm_21_4 ⟨Or.inr ⟨by decide, rfl, fun q => absurd q (by decide)⟩, ⟨Or.inr ⟨by decide, rfl, fun q => absurd q (by decide)⟩, ⟨Or.inr ⟨by decide, rfl, fun q => absurd q (by decide)⟩, ⟨Or.inr ⟨by decide, rfl, fun _ => rfl⟩, ⟨Or.inl ⟨rfl, rfl⟩, ⟨Or.inr ⟨by decide, rfl, fun q => absurd q (by decide)⟩, trivial⟩⟩⟩⟩⟩⟩ ?_
  refine zo_goto (p' := 168) (zi_21 rfl) rfl ?_
  refine zgo_sub (L' := [(0, zrf (some o)), (1, zrf b1), (2, .int b2), (3, .int b3), (4, .int (((b6 ||| b5)))), (5, .int b4)]) (⟨rfl, rfl, rfl, rfl, rfl, rfl, trivial⟩) ?_
  exact k_21_168 _ _ (fun M a0 a1 a2 a3 a4 a5 out h => h9 M a0 a1 a2 a3 a4 a5 out h) M o b1 b2 b3 ((b6 ||| b5)) b4 _ h
set_option maxRecDepth 4000 in
theorem k_21_9 (d : Nat) : ∀ (z : Nat) (M : ZMem) (o : Nat) (b1 : Option Nat) (b2 : Int32) (b3 : Int32) (b4 : Int32) (b5 : Int32) (out : Int32), f_21_9 z M o b1 b2 b3 b4 b5 = some out → zgo none (d + 2) 21 9 [(0, zrf (some o)), (1, zrf b1), (2, .int b2), (3, .int b3), (4, .int b4), (5, .int b5)] [] M (some (.int out), M) := by
  intro z
  induction z with
  | zero => intro M o b1 b2 b3 b4 b5 out h; cases h
  | succ z ih =>
    intro M o b1 b2 b3 b4 b5 out h
    rw [f_21_9] at h
    refine zo_iload (p' := 11) (zi_21 rfl) rfl rfl ?_
    refine zo_aload_n (p' := 12) (zi_21 rfl) rfl rfl ?_
    obtain ⟨x1, hx2, g19⟩ := zb_of h
    refine zo_getI (p' := 15) (zi_21 rfl) rfl zl_6_15 hx2 ?_
    by_cases hc3 : x1 ≤ b5
    · rw [if_pos hc3] at g19
      refine zo_icT (p' := 174) (zi_21 rfl) rfl hc3 ?_
      refine zo_iconst (p' := 175) (v := 0) (zi_21 rfl) rfl rfl ?_
      refine zo_iload_n (p' := 176) (zi_21 rfl) rfl rfl ?_
      obtain ⟨x4, hx5, g20⟩ := zb_of g19
      refine zo_callSi (p' := 179) (as := [.int 0, .int b3]) (r := []) (zi_21 rfl) rfl (Or.inl zl_6_28) rfl rfl (Nat.le_of_ble_eq_true rfl) (Nat.le_of_ble_eq_true rfl) (k_24 _ hx5) ?_
      cases g20
      exact zo_iret (zi_21 rfl) rfl ⟨rfl, rfl⟩
    · rw [if_neg hc3] at g19
      refine zo_icF (p' := 18) (zi_21 rfl) rfl rfl hc3 ?_
      refine zo_aload_n (p' := 19) (zi_21 rfl) rfl rfl ?_
      obtain ⟨r6, hx7, g21⟩ := zb_of g19
      refine zo_getR (p' := 22) (zi_21 rfl) rfl zl_6_9 hx7 ?_
      refine zo_iload (p' := 24) (zi_21 rfl) rfl rfl ?_
      obtain ⟨q8, h0, g22⟩ := zb_of g21
      subst h0
      obtain ⟨x9, hx10, g23⟩ := zb_of g22
      refine zo_iald (p' := 25) (zi_21 rfl) rfl hx10 ?_
      refine zo_istore (p' := 27) (L' := [(0, zrf (some o)), (1, zrf b1), (2, .int b2), (3, .int b3), (4, .int b4), (5, .int b5), (6, .int x9)]) (zi_21 rfl) rfl zm_21_6 ⟨Or.inr ⟨by decide, rfl, fun q => absurd q (by decide)⟩, ⟨Or.inr ⟨by decide, rfl, fun q => absurd q (by decide)⟩, ⟨Or.inr ⟨by decide, rfl, fun q => absurd q (by decide)⟩, ⟨Or.inr ⟨by decide, rfl, fun q => absurd q (by decide)⟩, ⟨Or.inr ⟨by decide, rfl, fun q => absurd q (by decide)⟩, ⟨Or.inr ⟨by decide, rfl, fun _ => rfl⟩, ⟨Or.inl ⟨rfl, rfl⟩, trivial⟩⟩⟩⟩⟩⟩⟩ ?_
      refine zo_iload (p' := 29) (zi_21 rfl) rfl rfl ?_
      refine zo_bipush (p' := 31) (v := 24) (zi_21 rfl) rfl rfl ?_
      refine zo_ishr (p' := 32) (zi_21 rfl) rfl ?_
      by_cases hc11 : (x9 >>> (24 &&& 31)) = 0
      · rw [if_pos hc11] at g23
        refine zo_table (p' := 68) (n := 36) (zi_21 rfl) (by decide) (zsel_hit hc11 (by decide)) rfl ?_
        refine zo_iload (p' := 70) (zi_21 rfl) rfl rfl ?_
        refine zo_iconst (p' := 71) (v := 1) (zi_21 rfl) rfl rfl ?_
        refine zo_ishl (p' := 72) (zi_21 rfl) rfl ?_
        refine zo_iload (p' := 74) (zi_21 rfl) rfl rfl ?_
        refine zo_aload_n (p' := 75) (zi_21 rfl) rfl rfl ?_
        refine zo_iload_n (p' := 76) (zi_21 rfl) rfl rfl ?_
        obtain ⟨x16, hx17, g24⟩ := zb_of g23
        refine zo_callSi (p' := 79) (as := [.int x9, zrf b1, .int b2]) (r := [.int ((b4 <<< (1 &&& 31)))]) (zi_21 rfl) rfl (Or.inl zl_6_38) rfl rfl (Nat.le_of_ble_eq_true rfl) (by rw [zml_22]; simp [lg_sl, zrf_cat, zcat_i, zcat_l, zcat_r]; done) (k_22 _ hx17) ?_
        by_cases hc18 : x16 = 0
        · rw [if_pos hc18] at g24
          refine zo_ifT (p' := 86) (zi_21 rfl) rfl hc18 ?_
          refine zo_iconst (p' := 87) (v := 0) (zi_21 rfl) rfl rfl ?_
          refine zgo_sub (L' := [(0, zrf (some o)), (1, zrf b1), (2, .int b2), (3, .int b3), (5, .int b5)]) (⟨rfl, rfl, rfl, rfl, rfl, trivial⟩) ?_
          exact k_21_87 _ _ (fun M a0 a1 a2 a3 a4 a5 out h => ih M a0 a1 a2 a3 a4 a5 out h) M o b1 b2 b3 b5 0 ((b4 <<< (1 &&& 31))) _ g24
        · rw [if_neg hc18] at g24
          refine zo_ifF (p' := 82) (zi_21 rfl) rfl rfl hc18 ?_
          refine zo_iconst (p' := 83) (v := 1) (zi_21 rfl) rfl rfl ?_
          refine zo_goto (p' := 87) (zi_21 rfl) rfl ?_
          refine zgo_sub (L' := [(0, zrf (some o)), (1, zrf b1), (2, .int b2), (3, .int b3), (5, .int b5)]) (⟨rfl, rfl, rfl, rfl, rfl, trivial⟩) ?_
          exact k_21_87 _ _ (fun M a0 a1 a2 a3 a4 a5 out h => ih M a0 a1 a2 a3 a4 a5 out h) M o b1 b2 b3 b5 1 ((b4 <<< (1 &&& 31))) _ g24
      · rw [if_neg hc11] at g23
        by_cases hc12 : (x9 >>> (24 &&& 31)) = 1
        · rw [if_pos hc12] at g23
          refine zo_table (p' := 93) (n := 61) (zi_21 rfl) (by decide) (zsel_skip hc11 (by decide) (zsel_hit hc12 (by decide))) rfl ?_
          refine zo_iload (p' := 95) (zi_21 rfl) rfl rfl ?_
          refine zo_iconst (p' := 96) (v := 1) (zi_21 rfl) rfl rfl ?_
          refine zo_ixor (p' := 97) (zi_21 rfl) rfl ?_
          refine zo_istore (p' := 99) (L' := [(0, zrf (some o)), (1, zrf b1), (2, .int b2), (3, .int b3), (4, .int ((b4 ^^^ 1))), (5, .int b5), (6, .int x9)]) (zi_21 rfl) rfl zm_21_4 ⟨Or.inr ⟨by decide, rfl, fun q => absurd q (by decide)⟩, ⟨Or.inr ⟨by decide, rfl, fun q => absurd q (by decide)⟩, ⟨Or.inr ⟨by decide, rfl, fun q => absurd q (by decide)⟩, ⟨Or.inr ⟨by decide, rfl, fun _ => rfl⟩, ⟨Or.inl ⟨rfl, rfl⟩, ⟨Or.inr ⟨by decide, rfl, fun q => absurd q (by decide)⟩, ⟨Or.inr ⟨by decide, rfl, fun q => absurd q (by decide)⟩, trivial⟩⟩⟩⟩⟩⟩⟩ ?_
          refine zo_goto (p' := 168) (zi_21 rfl) rfl ?_
          refine zgo_sub (L' := [(0, zrf (some o)), (1, zrf b1), (2, .int b2), (3, .int b3), (4, .int (((b4 ^^^ 1)))), (5, .int b5)]) (⟨rfl, rfl, rfl, rfl, rfl, rfl, trivial⟩) ?_
          exact k_21_168 _ _ (fun M a0 a1 a2 a3 a4 a5 out h => ih M a0 a1 a2 a3 a4 a5 out h) M o b1 b2 b3 ((b4 ^^^ 1)) b5 _ g23
        · rw [if_neg hc12] at g23
          by_cases hc13 : (x9 >>> (24 &&& 31)) = 2
          · rw [if_pos hc13] at g23
            refine zo_table (p' := 102) (n := 70) (zi_21 rfl) (by decide) (zsel_skip hc11 (by decide) (zsel_skip hc12 (by decide) (zsel_hit hc13 (by decide)))) rfl ?_
            refine zo_iload (p' := 104) (zi_21 rfl) rfl rfl ?_
            refine zo_iconst (p' := 105) (v := 1) (zi_21 rfl) rfl rfl ?_
            refine zo_ishr (p' := 106) (zi_21 rfl) rfl ?_
            refine zo_iload (p' := 108) (zi_21 rfl) rfl rfl ?_
            refine zo_bipush (p' := 110) (v := (-2)) (zi_21 rfl) rfl rfl ?_
            refine zo_ior (p' := 111) (zi_21 rfl) rfl ?_
            refine zo_iand (p' := 112) (zi_21 rfl) rfl ?_
            refine zo_istore (p' := 114) (L' := [(0, zrf (some o)), (1, zrf b1), (2, .int b2), (3, .int b3), (4, .int (((b4 >>> (1 &&& 31)) &&& (b4 ||| (-2))))), (5, .int b5), (6, .int x9)]) (zi_21 rfl) rfl zm_21_4 ⟨Or.inr ⟨by decide, rfl, fun q => absurd q (by decide)⟩, ⟨Or.inr ⟨by decide, rfl, fun q => absurd q (by decide)⟩, ⟨Or.inr ⟨by decide, rfl, fun q => absurd q (by decide)⟩, ⟨Or.inr ⟨by decide, rfl, fun _ => rfl⟩, ⟨Or.inl ⟨rfl, rfl⟩, ⟨Or.inr ⟨by decide, rfl, fun q => absurd q (by decide)⟩, ⟨Or.inr ⟨by decide, rfl, fun q => absurd q (by decide)⟩, trivial⟩⟩⟩⟩⟩⟩⟩ ?_
            refine zo_goto (p' := 168) (zi_21 rfl) rfl ?_
            refine zgo_sub (L' := [(0, zrf (some o)), (1, zrf b1), (2, .int b2), (3, .int b3), (4, .int ((((b4 >>> (1 &&& 31)) &&& (b4 ||| (-2)))))), (5, .int b5)]) (⟨rfl, rfl, rfl, rfl, rfl, rfl, trivial⟩) ?_
            exact k_21_168 _ _ (fun M a0 a1 a2 a3 a4 a5 out h => ih M a0 a1 a2 a3 a4 a5 out h) M o b1 b2 b3 (((b4 >>> (1 &&& 31)) &&& (b4 ||| (-2)))) b5 _ g23
          · rw [if_neg hc13] at g23
            by_cases hc14 : (x9 >>> (24 &&& 31)) = 3
            · rw [if_pos hc14] at g23
              refine zo_table (p' := 117) (n := 85) (zi_21 rfl) (by decide) (zsel_skip hc11 (by decide) (zsel_skip hc12 (by decide) (zsel_skip hc13 (by decide) (zsel_hit hc14 (by decide))))) rfl ?_
              refine zo_iload (p' := 119) (zi_21 rfl) rfl rfl ?_
              refine zo_iconst (p' := 120) (v := 1) (zi_21 rfl) rfl rfl ?_
              refine zo_ishr (p' := 121) (zi_21 rfl) rfl ?_
              refine zo_iload (p' := 123) (zi_21 rfl) rfl rfl ?_
              refine zo_iconst (p' := 124) (v := 1) (zi_21 rfl) rfl rfl ?_
              refine zo_iand (p' := 125) (zi_21 rfl) rfl ?_
              refine zo_ior (p' := 126) (zi_21 rfl) rfl ?_
              refine zo_istore (p' := 128) (L' := [(0, zrf (some o)), (1, zrf b1), (2, .int b2), (3, .int b3), (4, .int (((b4 >>> (1 &&& 31)) ||| (b4 &&& 1)))), (5, .int b5), (6, .int x9)]) (zi_21 rfl) rfl zm_21_4 ⟨Or.inr ⟨by decide, rfl, fun q => absurd q (by decide)⟩, ⟨Or.inr ⟨by decide, rfl, fun q => absurd q (by decide)⟩, ⟨Or.inr ⟨by decide, rfl, fun q => absurd q (by decide)⟩, ⟨Or.inr ⟨by decide, rfl, fun _ => rfl⟩, ⟨Or.inl ⟨rfl, rfl⟩, ⟨Or.inr ⟨by decide, rfl, fun q => absurd q (by decide)⟩, ⟨Or.inr ⟨by decide, rfl, fun q => absurd q (by decide)⟩, trivial⟩⟩⟩⟩⟩⟩⟩ ?_
              refine zo_goto (p' := 168) (zi_21 rfl) rfl ?_
              refine zgo_sub (L' := [(0, zrf (some o)), (1, zrf b1), (2, .int b2), (3, .int b3), (4, .int ((((b4 >>> (1 &&& 31)) ||| (b4 &&& 1))))), (5, .int b5)]) (⟨rfl, rfl, rfl, rfl, rfl, rfl, trivial⟩) ?_
              exact k_21_168 _ _ (fun M a0 a1 a2 a3 a4 a5 out h => ih M a0 a1 a2 a3 a4 a5 out h) M o b1 b2 b3 (((b4 >>> (1 &&& 31)) ||| (b4 &&& 1))) b5 _ g23
            · rw [if_neg hc14] at g23
              by_cases hc15 : (x9 >>> (24 &&& 31)) = 4
              · rw [if_pos hc15] at g23
                refine zo_table (p' := 131) (n := 99) (zi_21 rfl) (by decide) (zsel_skip hc11 (by decide) (zsel_skip hc12 (by decide) (zsel_skip hc13 (by decide) (zsel_skip hc14 (by decide) (zsel_hit hc15 (by decide)))))) rfl ?_
                refine zo_iload_n (p' := 132) (zi_21 rfl) rfl rfl ?_
                refine zo_iload (p' := 134) (zi_21 rfl) rfl rfl ?_
                refine zo_iconst (p' := 135) (v := 1) (zi_21 rfl) rfl rfl ?_
                refine zo_iand (p' := 136) (zi_21 rfl) rfl ?_
                refine zo_iload (p' := 138) (zi_21 rfl) rfl rfl ?_
                refine zo_sipush (p' := 141) (v := 255) (zi_21 rfl) rfl rfl ?_
                refine zo_iand (p' := 142) (zi_21 rfl) rfl ?_
                refine zo_imul (p' := 143) (zi_21 rfl) rfl ?_
                refine zo_iadd (p' := 144) (zi_21 rfl) rfl ?_
                refine zo_istore_n (p' := 145) (L' := [(0, zrf (some o)), (1, zrf b1), (2, .int b2), (3, .int ((b3 + ((b4 &&& 1) * (x9 &&& 255))))), (4, .int b4), (5, .int b5), (6, .int x9)]) (zi_21 rfl) rfl zm_21_3 ⟨Or.inr ⟨by decide, rfl, fun q => absurd q (by decide)⟩, ⟨Or.inr ⟨by decide, rfl, fun q => absurd q (by decide)⟩, ⟨Or.inr ⟨by decide, rfl, fun _ => rfl⟩, ⟨Or.inl ⟨rfl, rfl⟩, ⟨Or.inr ⟨by decide, rfl, fun q => absurd q (by decide)⟩, ⟨Or.inr ⟨by decide, rfl, fun q => absurd q (by decide)⟩, ⟨Or.inr ⟨by decide, rfl, fun q => absurd q (by decide)⟩, trivial⟩⟩⟩⟩⟩⟩⟩ ?_
                refine zo_iconst (p' := 146) (v := 0) (zi_21 rfl) rfl rfl ?_
                refine zo_istore (p' := 148) (L' := [(0, zrf (some o)), (1, zrf b1), (2, .int b2), (3, .int ((b3 + ((b4 &&& 1) * (x9 &&& 255))))), (4, .int 0), (5, .int b5), (6, .int x9)]) (zi_21 rfl) rfl zm_21_4 ⟨Or.inr ⟨by decide, rfl, fun q => absurd q (by decide)⟩, ⟨Or.inr ⟨by decide, rfl, fun q => absurd q (by decide)⟩, ⟨Or.inr ⟨by decide, rfl, fun q => absurd q (by decide)⟩, ⟨Or.inr ⟨by decide, rfl, fun _ => rfl⟩, ⟨Or.inl ⟨rfl, rfl⟩, ⟨Or.inr ⟨by decide, rfl, fun q => absurd q (by decide)⟩, ⟨Or.inr ⟨by decide, rfl, fun q => absurd q (by decide)⟩, trivial⟩⟩⟩⟩⟩⟩⟩ ?_
                refine zo_goto (p' := 168) (zi_21 rfl) rfl ?_
                refine zgo_sub (L' := [(0, zrf (some o)), (1, zrf b1), (2, .int b2), (3, .int (((b3 + ((b4 &&& 1) * (x9 &&& 255)))))), (4, .int 0), (5, .int b5)]) (⟨rfl, rfl, rfl, rfl, rfl, rfl, trivial⟩) ?_
                exact k_21_168 _ _ (fun M a0 a1 a2 a3 a4 a5 out h => ih M a0 a1 a2 a3 a4 a5 out h) M o b1 b2 ((b3 + ((b4 &&& 1) * (x9 &&& 255)))) 0 b5 _ g23
              · rw [if_neg hc15] at g23
                refine zo_table (p' := 151) (n := 119) (zi_21 rfl) (by decide) (zsel_skip hc11 (by decide) (zsel_skip hc12 (by decide) (zsel_skip hc13 (by decide) (zsel_skip hc14 (by decide) (zsel_skip hc15 (by decide) (rfl)))))) rfl ?_
                refine zo_iload_n (p' := 152) (zi_21 rfl) rfl rfl ?_
                refine zo_iload (p' := 154) (zi_21 rfl) rfl rfl ?_
                refine zo_iconst (p' := 155) (v := 1) (zi_21 rfl) rfl rfl ?_
                refine zo_iand (p' := 156) (zi_21 rfl) rfl ?_
                refine zo_iload (p' := 158) (zi_21 rfl) rfl rfl ?_
                refine zo_sipush (p' := 161) (v := 255) (zi_21 rfl) rfl rfl ?_
                refine zo_iand (p' := 162) (zi_21 rfl) rfl ?_
                refine zo_imul (p' := 163) (zi_21 rfl) rfl ?_
                refine zo_isub (p' := 164) (zi_21 rfl) rfl ?_
                refine zo_istore_n (p' := 165) (L' := [(0, zrf (some o)), (1, zrf b1), (2, .int b2), (3, .int ((b3 - ((b4 &&& 1) * (x9 &&& 255))))), (4, .int b4), (5, .int b5), (6, .int x9)]) (zi_21 rfl) rfl zm_21_3 ⟨Or.inr ⟨by decide, rfl, fun q => absurd q (by decide)⟩, ⟨Or.inr ⟨by decide, rfl, fun q => absurd q (by decide)⟩, ⟨Or.inr ⟨by decide, rfl, fun _ => rfl⟩, ⟨Or.inl ⟨rfl, rfl⟩, ⟨Or.inr ⟨by decide, rfl, fun q => absurd q (by decide)⟩, ⟨Or.inr ⟨by decide, rfl, fun q => absurd q (by decide)⟩, ⟨Or.inr ⟨by decide, rfl, fun q => absurd q (by decide)⟩, trivial⟩⟩⟩⟩⟩⟩⟩ ?_
                refine zo_iconst (p' := 166) (v := 0) (zi_21 rfl) rfl rfl ?_
                refine zo_istore (p' := 168) (L' := [(0, zrf (some o)), (1, zrf b1), (2, .int b2), (3, .int ((b3 - ((b4 &&& 1) * (x9 &&& 255))))), (4, .int 0), (5, .int b5), (6, .int x9)]) (zi_21 rfl) rfl zm_21_4 ⟨Or.inr ⟨by decide, rfl, fun q => absurd q (by decide)⟩, ⟨Or.inr ⟨by decide, rfl, fun q => absurd q (by decide)⟩, ⟨Or.inr ⟨by decide, rfl, fun q => absurd q (by decide)⟩, ⟨Or.inr ⟨by decide, rfl, fun _ => rfl⟩, ⟨Or.inl ⟨rfl, rfl⟩, ⟨Or.inr ⟨by decide, rfl, fun q => absurd q (by decide)⟩, ⟨Or.inr ⟨by decide, rfl, fun q => absurd q (by decide)⟩, trivial⟩⟩⟩⟩⟩⟩⟩ ?_
                refine zgo_sub (L' := [(0, zrf (some o)), (1, zrf b1), (2, .int b2), (3, .int (((b3 - ((b4 &&& 1) * (x9 &&& 255)))))), (4, .int 0), (5, .int b5)]) (⟨rfl, rfl, rfl, rfl, rfl, rfl, trivial⟩) ?_
                exact k_21_168 _ _ (fun M a0 a1 a2 a3 a4 a5 out h => ih M a0 a1 a2 a3 a4 a5 out h) M o b1 b2 ((b3 - ((b4 &&& 1) * (x9 &&& 255)))) 0 b5 _ g23
def f_21 (M : ZMem) (o : Nat) (a0 : Option Nat) (a1 : Int32) : Option (Int32) := if zok M 3 o = true then (f_21_9 zF M o a0 a1 10 0 0) else none
theorem f_21_ok {M : ZMem} {o : Nat} {a0 : Option Nat} {a1 : Int32} {out : Int32} (h : f_21 M o a0 a1 = some out) : zok M 3 o = true := by
  unfold f_21 at h
  by_cases hok : zok M 3 o = true
  · exact hok
  · rw [if_neg hok] at h; cases h
set_option maxRecDepth 4000 in
theorem k_21 (d : Nat) {M : ZMem} {o : Nat} {a0 : Option Nat} {a1 : Int32} {out : Int32} (h : f_21 M o a0 a1 = some out) : zrn (d + 2) 21 [zrf (some o), zrf a0, .int a1] M (some (.int out), M) := by
  unfold f_21 at h
  by_cases hok : zok M 3 o = true
  · rw [if_pos hok] at h
    refine zrn_of (L := [(0, zrf (some o)), (1, zrf a0), (2, .int a1)]) (by simp [lv_args, zrf_cat, zcat_i, zcat_l, zcat_r]) ?_
    refine zo_bipush (p' := 2) (v := 10) (zi_21 rfl) rfl rfl ?_
    refine zo_istore_n (p' := 3) (L' := [(0, zrf (some o)), (1, zrf a0), (2, .int a1), (3, .int 10)]) (zi_21 rfl) rfl zm_21_3 ⟨Or.inr ⟨by decide, rfl, fun q => absurd q (by decide)⟩, ⟨Or.inr ⟨by decide, rfl, fun q => absurd q (by decide)⟩, ⟨Or.inr ⟨by decide, rfl, fun _ => rfl⟩, ⟨Or.inl ⟨rfl, rfl⟩, trivial⟩⟩⟩⟩ ?_
    refine zo_iconst (p' := 4) (v := 0) (zi_21 rfl) rfl rfl ?_
    refine zo_istore (p' := 6) (L' := [(0, zrf (some o)), (1, zrf a0), (2, .int a1), (3, .int 10), (4, .int 0)]) (zi_21 rfl) rfl zm_21_4 ⟨Or.inr ⟨by decide, rfl, fun q => absurd q (by decide)⟩, ⟨Or.inr ⟨by decide, rfl, fun q => absurd q (by decide)⟩, ⟨Or.inr ⟨by decide, rfl, fun q => absurd q (by decide)⟩, ⟨Or.inr ⟨by decide, rfl, fun _ => rfl⟩, ⟨Or.inl ⟨rfl, rfl⟩, trivial⟩⟩⟩⟩⟩ ?_
    refine zo_iconst (p' := 7) (v := 0) (zi_21 rfl) rfl rfl ?_
    refine zo_istore (p' := 9) (L' := [(0, zrf (some o)), (1, zrf a0), (2, .int a1), (3, .int 10), (4, .int 0), (5, .int 0)]) (zi_21 rfl) rfl zm_21_5 ⟨Or.inr ⟨by decide, rfl, fun q => absurd q (by decide)⟩, ⟨Or.inr ⟨by decide, rfl, fun q => absurd q (by decide)⟩, ⟨Or.inr ⟨by decide, rfl, fun q => absurd q (by decide)⟩, ⟨Or.inr ⟨by decide, rfl, fun q => absurd q (by decide)⟩, ⟨Or.inr ⟨by decide, rfl, fun _ => rfl⟩, ⟨Or.inl ⟨rfl, rfl⟩, trivial⟩⟩⟩⟩⟩⟩ ?_
    refine zgo_sub (L' := [(0, zrf (some o)), (1, zrf a0), (2, .int a1), (3, .int 10), (4, .int 0), (5, .int 0)]) (⟨rfl, rfl, rfl, rfl, rfl, rfl, trivial⟩) ?_
    exact k_21_9 _ zF M o a0 a1 10 0 0 _ h
  · rw [if_neg hok] at h; cases h
/-- SlateHalves.gripOf(III)I -/
def f_25_19 (M : ZMem) (b0 : Int32) (b1 : Int32) : Option (Int32) := zb (f_24 M 0 ((b1 - (b0 / 10)))) fun x3 => some x3
def f_25_10 (M : ZMem) (b0 : Int32) (b1 : Int32) : Option (Int32) := f_25_19 M b1 ((3 + (b0 / 3)))
set_option maxRecDepth 4000 in
theorem k_25_19 (d : Nat) : ∀ (M : ZMem) (b0 : Int32) (b1 : Int32) (out : Int32), f_25_19 M b0 b1 = some out → zgo none (d + 1) 25 19 [(2, .int b0)] [.int b1] M (some (.int out), M) := by
  intro M b0 b1 out h
  unfold f_25_19 at h
  refine zo_istore_n (p' := 20) (L' := [(2, .int b0), (3, .int b1)]) (zi_25 rfl) rfl zm_25_3 ⟨Or.inr ⟨by decide, rfl, fun _ => rfl⟩, ⟨Or.inl ⟨rfl, rfl⟩, trivial⟩⟩ ?_
  refine zo_iconst (p' := 21) (v := 0) (zi_25 rfl) rfl rfl ?_
  refine zo_iload_n (p' := 22) (zi_25 rfl) rfl rfl ?_
  refine zo_iload_n (p' := 23) (zi_25 rfl) rfl rfl ?_
  refine zo_bipush (p' := 25) (v := 10) (zi_25 rfl) rfl rfl ?_
  refine zo_idiv (p' := 26) (zi_25 rfl) rfl (by decide) ?_
  refine zo_isub (p' := 27) (zi_25 rfl) rfl ?_
  obtain ⟨x3, hx4, g5⟩ := zb_of h
  refine zo_callSi (p' := 30) (as := [.int 0, .int ((b1 - (b0 / 10)))]) (r := []) (zi_25 rfl) rfl (Or.inl zl_1_190) rfl rfl (Nat.le_of_ble_eq_true rfl) (Nat.le_of_ble_eq_true rfl) (k_24 _ hx4) ?_
  cases g5
  exact zo_iret (zi_25 rfl) rfl ⟨rfl, rfl⟩
set_option maxRecDepth 4000 in
theorem k_25_10 (d : Nat) : ∀ (M : ZMem) (b0 : Int32) (b1 : Int32) (out : Int32), f_25_10 M b0 b1 = some out → zgo none (d + 1) 25 10 [(1, .int b0), (2, .int b1)] [] M (some (.int out), M) := by
  intro M b0 b1 out h
  unfold f_25_10 at h
  refine zo_iconst (p' := 11) (v := 3) (zi_25 rfl) rfl rfl ?_
  refine zo_iload_n (p' := 12) (zi_25 rfl) rfl rfl ?_
  refine zo_iconst (p' := 13) (v := 3) (zi_25 rfl) rfl rfl ?_
  refine zo_idiv (p' := 14) (zi_25 rfl) rfl (by decide) ?_
  refine zo_iadd (p' := 15) (zi_25 rfl) rfl ?_
  refine zo_goto (p' := 19) (zi_25 rfl) rfl ?_
  refine zgo_sub (L' := [(2, .int b1)]) (⟨rfl, trivial⟩) ?_
  exact k_25_19 _ M b1 ((3 + (b0 / 3))) _ h
def f_25 (M : ZMem) (a0 : Int32) (a1 : Int32) (a2 : Int32) : Option (Int32) := if a0 = 1 then (f_25_10 M a1 a2) else (if ¬ a0 = 4 then (f_25_19 M a2 3) else (f_25_10 M a1 a2))
set_option maxRecDepth 4000 in
theorem k_25 (d : Nat) {M : ZMem} {a0 : Int32} {a1 : Int32} {a2 : Int32} {out : Int32} (h : f_25 M a0 a1 a2 = some out) : zrn (d + 1) 25 [.int a0, .int a1, .int a2] M (some (.int out), M) := by
  unfold f_25 at h
  refine zrn_of (L := [(0, .int a0), (1, .int a1), (2, .int a2)]) rfl ?_
  refine zo_iload_n (p' := 1) (zi_25 rfl) rfl rfl ?_
  refine zo_iconst (p' := 2) (v := 1) (zi_25 rfl) rfl rfl ?_
  by_cases hc1 : a0 = 1
  · rw [if_pos hc1] at h
    refine zo_icT (p' := 10) (zi_25 rfl) rfl hc1 ?_
    refine zgo_sub (L' := [(1, .int a1), (2, .int a2)]) (⟨rfl, rfl, trivial⟩) ?_
    exact k_25_10 _ M a1 a2 _ h
  · rw [if_neg hc1] at h
    refine zo_icF (p' := 5) (zi_25 rfl) rfl rfl hc1 ?_
    refine zo_iload_n (p' := 6) (zi_25 rfl) rfl rfl ?_
    refine zo_iconst (p' := 7) (v := 4) (zi_25 rfl) rfl rfl ?_
    by_cases hc2 : ¬ a0 = 4
    · rw [if_pos hc2] at h
      refine zo_icT (p' := 18) (zi_25 rfl) rfl hc2 ?_
      refine zo_iconst (p' := 19) (v := 3) (zi_25 rfl) rfl rfl ?_
      refine zgo_sub (L' := [(2, .int a2)]) (⟨rfl, trivial⟩) ?_
      exact k_25_19 _ M a2 3 _ h
    · rw [if_neg hc2] at h
      refine zo_icF (p' := 10) (zi_25 rfl) rfl rfl hc2 ?_
      refine zgo_sub (L' := [(1, .int a1), (2, .int a2)]) (⟨rfl, rfl, trivial⟩) ?_
      exact k_25_10 _ M a1 a2 _ h
/-- SlateHalves.driesOf(LSlateHalves$Block;I)I -/
def f_26 (M : ZMem) (a0 : Option Nat) (a1 : Int32) : Option (Int32) := zb a0 fun q1 => zb (zgi M 1 1 q1) fun x2 => if ¬ x2 = 5 then (some a1) else (some (a1 / 2))
set_option maxRecDepth 4000 in
theorem k_26 (d : Nat) {M : ZMem} {a0 : Option Nat} {a1 : Int32} {out : Int32} (h : f_26 M a0 a1 = some out) : zrn (d) 26 [zrf a0, .int a1] M (some (.int out), M) := by
  unfold f_26 at h
  refine zrn_of (L := [(0, zrf a0), (1, .int a1)]) (by simp [lv_args, zrf_cat, zcat_i, zcat_l, zcat_r]) ?_
  refine zo_aload_n (p' := 1) (zi_26 rfl) rfl rfl ?_
  obtain ⟨q1, h0, g5⟩ := zb_of h
  subst h0
  obtain ⟨x2, hx3, g6⟩ := zb_of g5
  refine zo_getI (p' := 4) (zi_26 rfl) rfl zl_1_120 hx3 ?_
  refine zo_iconst (p' := 5) (v := 5) (zi_26 rfl) rfl rfl ?_
  by_cases hc4 : ¬ x2 = 5
  · rw [if_pos hc4] at g6
    refine zo_icT (p' := 14) (zi_26 rfl) rfl hc4 ?_
    refine zo_iload_n (p' := 15) (zi_26 rfl) rfl rfl ?_
    cases g6
    exact zo_iret (zi_26 rfl) rfl ⟨rfl, rfl⟩
  · rw [if_neg hc4] at g6
    refine zo_icF (p' := 8) (zi_26 rfl) rfl rfl hc4 ?_
    refine zo_iload_n (p' := 9) (zi_26 rfl) rfl rfl ?_
    refine zo_iconst (p' := 10) (v := 2) (zi_26 rfl) rfl rfl ?_
    refine zo_idiv (p' := 11) (zi_26 rfl) rfl (by decide) ?_
    refine zo_goto (p' := 15) (zi_26 rfl) rfl ?_
    cases g6
    exact zo_iret (zi_26 rfl) rfl ⟨rfl, rfl⟩
/-- java/lang/Math.floorMod(II)I -/
def f_30 (M : ZMem) (a0 : Int32) (a1 : Int32) : Option (Int32) := if a1 = 0 then none else if 0 ≤ (a0 ^^^ a1) then (some (a0 - a0 / a1 * a1)) else (if (a0 - a0 / a1 * a1) = 0 then (some (a0 - a0 / a1 * a1)) else (some ((a0 - a0 / a1 * a1) + a1)))
set_option maxRecDepth 4000 in
theorem k_30 (d : Nat) {M : ZMem} {a0 : Int32} {a1 : Int32} {out : Int32} (h : f_30 M a0 a1 = some out) : zrn (d) 30 [.int a0, .int a1] M (some (.int out), M) := by
  unfold f_30 at h
  refine zrn_of (L := [(0, .int a0), (1, .int a1)]) rfl ?_
  refine zo_iload_n (p' := 1) (zi_30 rfl) rfl rfl ?_
  refine zo_iload_n (p' := 2) (zi_30 rfl) rfl rfl ?_
  by_cases hc1 : a1 = 0
  · rw [if_pos hc1] at h; cases h
  · rw [if_neg hc1] at h
    refine zo_irem (p' := 3) (zi_30 rfl) rfl hc1 ?_
    refine zo_istore_n (p' := 4) (L' := [(0, .int a0), (1, .int a1), (2, .int ((a0 - a0 / a1 * a1)))]) (zi_30 rfl) rfl zm_30_2 ⟨Or.inr ⟨by decide, rfl, fun q => absurd q (by decide)⟩, ⟨Or.inr ⟨by decide, rfl, fun _ => rfl⟩, ⟨Or.inl ⟨rfl, rfl⟩, trivial⟩⟩⟩ ?_
    refine zo_iload_n (p' := 5) (zi_30 rfl) rfl rfl ?_
    refine zo_iload_n (p' := 6) (zi_30 rfl) rfl rfl ?_
    refine zo_ixor (p' := 7) (zi_30 rfl) rfl ?_
    by_cases hc2 : 0 ≤ (a0 ^^^ a1)
    · rw [if_pos hc2] at h
      refine zo_ifT (p' := 18) (zi_30 rfl) rfl hc2 ?_
      refine zo_iload_n (p' := 19) (zi_30 rfl) rfl rfl ?_
      cases h
      exact zo_iret (zi_30 rfl) rfl ⟨rfl, rfl⟩
    · rw [if_neg hc2] at h
      refine zo_ifF (p' := 10) (zi_30 rfl) rfl rfl hc2 ?_
      refine zo_iload_n (p' := 11) (zi_30 rfl) rfl rfl ?_
      by_cases hc3 : (a0 - a0 / a1 * a1) = 0
      · rw [if_pos hc3] at h
        refine zo_ifT (p' := 18) (zi_30 rfl) rfl hc3 ?_
        refine zo_iload_n (p' := 19) (zi_30 rfl) rfl rfl ?_
        cases h
        exact zo_iret (zi_30 rfl) rfl ⟨rfl, rfl⟩
      · rw [if_neg hc3] at h
        refine zo_ifF (p' := 14) (zi_30 rfl) rfl rfl hc3 ?_
        refine zo_iload_n (p' := 15) (zi_30 rfl) rfl rfl ?_
        refine zo_iload_n (p' := 16) (zi_30 rfl) rfl rfl ?_
        refine zo_iadd (p' := 17) (zi_30 rfl) rfl ?_
        cases h
        exact zo_iret (zi_30 rfl) rfl ⟨rfl, rfl⟩
/-- SlateHalves$Blows.setAs(LSlateHalves$Block;III)V -/
def f_29_46 (M : ZMem) (o : Nat) (b1 : Int32) (b2 : Int32) (b3 : Option Nat) : Option (ZMem) := zb b3 fun q33 => zb (zpf M 2 2 q33 (.int b2) false) fun M34 => zb (zpf M34 2 3 o (.int ((b1 + 1))) false) fun M36 => some M36
set_option maxRecDepth 4000 in
theorem k_29_46 (d : Nat) : ∀ (M : ZMem) (o : Nat) (b1 : Int32) (b2 : Int32) (b3 : Option Nat) (out : ZMem), f_29_46 M o b1 b2 b3 = some out → zgo none (d + 2) 29 46 [(0, zrf (some o)), (2, .int b1)] [.int b2, zrf b3] M (none, out) := by
  intro M o b1 b2 b3 out h
  unfold f_29_46 at h
  obtain ⟨q33, h0, g38⟩ := zb_of h
  subst h0
  obtain ⟨M34, hx35, g39⟩ := zb_of g38
  refine zo_putI (p' := 49) (zi_29 rfl) rfl zl_8_48 (zpb_29 _) hx35 ?_
  refine zo_aload_n (p' := 50) (zi_29 rfl) rfl rfl ?_
  refine zo_iload_n (p' := 51) (zi_29 rfl) rfl rfl ?_
  refine zo_iconst (p' := 52) (v := 1) (zi_29 rfl) rfl rfl ?_
  refine zo_iadd (p' := 53) (zi_29 rfl) rfl ?_
  obtain ⟨M36, hx37, g40⟩ := zb_of g39
  refine zo_putI (p' := 56) (zi_29 rfl) rfl zl_8_9 (zpb_29 _) hx37 ?_
  cases g40
  exact zo_vret (zi_29 rfl) rfl
def f_29 (M : ZMem) (o : Nat) (a0 : Option Nat) (a1 : Int32) (a2 : Int32) (a3 : Int32) : Option (ZMem) := if zok M 2 o = true then (zb a0 fun q1 => zb (zgi M 1 1 q1) fun x2 => zb (zpf M 2 0 o (.int x2) false) fun M4 => zb (zgi M4 2 0 o) fun x6 => zb (f_25 M4 x6 a1 a2) fun x8 => zb (zpf M4 2 1 o (.int x8) false) fun M10 => zb (zgi M10 2 0 o) fun x12 => if ¬ x12 = 6 then (f_29_46 M10 o a1 0 (some o)) else (zb (zgr M10 1 6 q1) fun r15 => zb (f_30 M10 a3 4) fun x17 => zb r15 fun q19 => zb (zai M10 q19 x17) fun x20 => f_29_46 M10 o a1 x20 (some o))) else none
theorem f_29_ok {M : ZMem} {o : Nat} {a0 : Option Nat} {a1 : Int32} {a2 : Int32} {a3 : Int32} {out : ZMem} (h : f_29 M o a0 a1 a2 a3 = some out) : zok M 2 o = true := by
  unfold f_29 at h
  by_cases hok : zok M 2 o = true
  · exact hok
  · rw [if_neg hok] at h; cases h
set_option maxRecDepth 4000 in
theorem k_29 (d : Nat) {M : ZMem} {o : Nat} {a0 : Option Nat} {a1 : Int32} {a2 : Int32} {a3 : Int32} {out : ZMem} (h : f_29 M o a0 a1 a2 a3 = some out) : zrn (d + 2) 29 [zrf (some o), zrf a0, .int a1, .int a2, .int a3] M (none, out) := by
  unfold f_29 at h
  by_cases hok : zok M 2 o = true
  · rw [if_pos hok] at h
    refine zrn_of (L := [(0, zrf (some o)), (1, zrf a0), (2, .int a1), (3, .int a2), (4, .int a3)]) (by simp [lv_args, zrf_cat, zcat_i, zcat_l, zcat_r]) ?_
    refine zo_aload_n (p' := 1) (zi_29 rfl) rfl rfl ?_
    refine zo_aload_n (p' := 2) (zi_29 rfl) rfl rfl ?_
    obtain ⟨q1, h0, g22⟩ := zb_of h
    subst h0
    obtain ⟨x2, hx3, g23⟩ := zb_of g22
    refine zo_getI (p' := 5) (zi_29 rfl) rfl zl_8_27 hx3 ?_
    obtain ⟨M4, hx5, g24⟩ := zb_of g23
    refine zo_putI (p' := 8) (zi_29 rfl) rfl zl_8_30 (zpb_29 _) hx5 ?_
    refine zo_aload_n (p' := 9) (zi_29 rfl) rfl rfl ?_
    refine zo_aload_n (p' := 10) (zi_29 rfl) rfl rfl ?_
    obtain ⟨x6, hx7, g25⟩ := zb_of g24
    refine zo_getI (p' := 13) (zi_29 rfl) rfl zl_8_30 hx7 ?_
    refine zo_iload_n (p' := 14) (zi_29 rfl) rfl rfl ?_
    refine zo_iload_n (p' := 15) (zi_29 rfl) rfl rfl ?_
    obtain ⟨x8, hx9, g26⟩ := zb_of g25
    refine zo_callSi (p' := 18) (as := [.int x6, .int a1, .int a2]) (r := [zrf (some o)]) (zi_29 rfl) rfl (Or.inr zl_8_31) rfl rfl (Nat.le_of_ble_eq_true rfl) (Nat.le_of_ble_eq_true rfl) (k_25 _ hx9) ?_
    obtain ⟨M10, hx11, g27⟩ := zb_of g26
    refine zo_putI (p' := 21) (zi_29 rfl) rfl zl_8_35 (zpb_29 _) hx11 ?_
    refine zo_aload_n (p' := 22) (zi_29 rfl) rfl rfl ?_
    refine zo_aload_n (p' := 23) (zi_29 rfl) rfl rfl ?_
    obtain ⟨x12, hx13, g28⟩ := zb_of g27
    refine zo_getI (p' := 26) (zi_29 rfl) rfl zl_8_30 hx13 ?_
    refine zo_bipush (p' := 28) (v := 6) (zi_29 rfl) rfl rfl ?_
    by_cases hc14 : ¬ x12 = 6
    · rw [if_pos hc14] at g28
      refine zo_icT (p' := 45) (zi_29 rfl) rfl hc14 ?_
      refine zo_iconst (p' := 46) (v := 0) (zi_29 rfl) rfl rfl ?_
      refine zgo_sub (L' := [(0, zrf (some o)), (2, .int a1)]) (⟨rfl, rfl, trivial⟩) ?_
      exact k_29_46 _ M10 o a1 0 (some o) _ g28
    · rw [if_neg hc14] at g28
      refine zo_icF (p' := 31) (zi_29 rfl) rfl rfl hc14 ?_
      refine zo_aload_n (p' := 32) (zi_29 rfl) rfl rfl ?_
      obtain ⟨r15, hx16, g29⟩ := zb_of g28
      refine zo_getR (p' := 35) (zi_29 rfl) rfl zl_8_38 hx16 ?_
      refine zo_iload (p' := 37) (zi_29 rfl) rfl rfl ?_
      refine zo_iconst (p' := 38) (v := 4) (zi_29 rfl) rfl rfl ?_
      obtain ⟨x17, hx18, g30⟩ := zb_of g29
      refine zo_callSi (p' := 41) (as := [.int a3, .int 4]) (r := [zrf r15, zrf (some o)]) (zi_29 rfl) rfl (Or.inl zl_8_42) rfl rfl (by simp [zrf_cat, zcat_i, zcat_l, zcat_r]) (Nat.le_of_ble_eq_true rfl) (k_30 _ hx18) ?_
      obtain ⟨q19, h0, g31⟩ := zb_of g30
      subst h0
      obtain ⟨x20, hx21, g32⟩ := zb_of g31
      refine zo_iald (p' := 42) (zi_29 rfl) rfl hx21 ?_
      refine zo_goto (p' := 46) (zi_29 rfl) rfl ?_
      refine zgo_sub (L' := [(0, zrf (some o)), (2, .int a1)]) (⟨rfl, rfl, trivial⟩) ?_
      exact k_29_46 _ M10 o a1 x20 (some o) _ g32
  · rw [if_neg hok] at h; cases h
/-- SlateHalves$Hill.thinnest()I -/
def f_31 (M : ZMem) (o : Nat) : Option (Int32) := if zok M 3 o = true then (zb (zgi M 3 2 o) fun x1 => zb (f_24 M 1 x1) fun x3 => some x3) else none
theorem f_31_ok {M : ZMem} {o : Nat} {out : Int32} (h : f_31 M o = some out) : zok M 3 o = true := by
  unfold f_31 at h
  by_cases hok : zok M 3 o = true
  · exact hok
  · rw [if_neg hok] at h; cases h
set_option maxRecDepth 4000 in
theorem k_31 (d : Nat) {M : ZMem} {o : Nat} {out : Int32} (h : f_31 M o = some out) : zrn (d + 1) 31 [zrf (some o)] M (some (.int out), M) := by
  unfold f_31 at h
  by_cases hok : zok M 3 o = true
  · rw [if_pos hok] at h
    refine zrn_of (L := [(0, zrf (some o))]) rfl ?_
    refine zo_iconst (p' := 1) (v := 1) (zi_31 rfl) rfl rfl ?_
    refine zo_aload_n (p' := 2) (zi_31 rfl) rfl rfl ?_
    obtain ⟨x1, hx2, g5⟩ := zb_of h
    refine zo_getI (p' := 5) (zi_31 rfl) rfl zl_6_19 hx2 ?_
    obtain ⟨x3, hx4, g6⟩ := zb_of g5
    refine zo_callSi (p' := 8) (as := [.int 1, .int x1]) (r := []) (zi_31 rfl) rfl (Or.inl zl_6_28) rfl rfl (Nat.le_of_ble_eq_true rfl) (Nat.le_of_ble_eq_true rfl) (k_24 _ hx4) ?_
    cases g6
    exact zo_iret (zi_31 rfl) rfl ⟨rfl, rfl⟩
  · rw [if_neg hok] at h; cases h
/-- SlateHalves$Hill.thickest()I -/
def f_32 (M : ZMem) (o : Nat) : Option (Int32) := if zok M 3 o = true then (zb (f_31 M o) fun x1 => zb (zgi M 3 3 o) fun x3 => zb (f_24 M x1 x3) fun x5 => some x5) else none
theorem f_32_ok {M : ZMem} {o : Nat} {out : Int32} (h : f_32 M o = some out) : zok M 3 o = true := by
  unfold f_32 at h
  by_cases hok : zok M 3 o = true
  · exact hok
  · rw [if_neg hok] at h; cases h
set_option maxRecDepth 4000 in
theorem k_32 (d : Nat) {M : ZMem} {o : Nat} {out : Int32} (h : f_32 M o = some out) : zrn (d + 2) 32 [zrf (some o)] M (some (.int out), M) := by
  unfold f_32 at h
  by_cases hok : zok M 3 o = true
  · rw [if_pos hok] at h
    refine zrn_of (L := [(0, zrf (some o))]) rfl ?_
    refine zo_aload_n (p' := 1) (zi_32 rfl) rfl rfl ?_
    obtain ⟨x1, hx2, g7⟩ := zb_of h
    refine zo_callVi (p' := 4) (t := 3) (as := []) (r := []) (zi_32 rfl) rfl zl_6_34 rfl rfl (Or.inl ⟨by decide, rfl⟩) (Nat.le_of_ble_eq_true rfl) (Nat.le_of_ble_eq_true rfl) (f_31_ok hx2) (k_31 _ hx2) ?_
    refine zo_aload_n (p' := 5) (zi_32 rfl) rfl rfl ?_
    obtain ⟨x3, hx4, g8⟩ := zb_of g7
    refine zo_getI (p' := 8) (zi_32 rfl) rfl zl_6_22 hx4 ?_
    obtain ⟨x5, hx6, g9⟩ := zb_of g8
    refine zo_callSi (p' := 11) (as := [.int x1, .int x3]) (r := []) (zi_32 rfl) rfl (Or.inl zl_6_28) rfl rfl (Nat.le_of_ble_eq_true rfl) (Nat.le_of_ble_eq_true rfl) (k_24 _ hx6) ?_
    cases g9
    exact zo_iret (zi_32 rfl) rfl ⟨rfl, rfl⟩
  · rw [if_neg hok] at h; cases h
/-- SlateHalves$Valuer.setBy(LSlateHalves$Block;ILSlateHalves$Hill;)V -/
def f_28 (M : ZMem) (o : Nat) (a0 : Option Nat) (a1 : Int32) (a2 : Option Nat) : Option (ZMem) := if zok M 9 o = true then (zb (zgr M 9 0 o) fun r1 => zb a0 fun q3 => zb (zgi M 1 2 q3) fun x4 => zb (zgi M 1 4 q3) fun x6 => zb r1 fun q8 => zb (f_29 M q8 (some q3) x4 x6 a1) fun M11 => zb a2 fun q12 => zb (f_31 M11 q12) fun x13 => zb (zpf M11 9 3 o (.int x13) false) fun M15 => zb (f_32 M15 q12) fun x17 => zb (zpf M15 9 4 o (.int x17) false) fun M19 => zb (f_21 M19 q12 (some q3) a1) fun x21 => zb (zpf M19 9 5 o (.int x21) false) fun M23 => zb (zgi M23 9 5 o) fun x25 => zb (zpf M23 9 6 o (.int ((x25 / 2))) false) fun M27 => some M27) else none
theorem f_28_ok {M : ZMem} {o : Nat} {a0 : Option Nat} {a1 : Int32} {a2 : Option Nat} {out : ZMem} (h : f_28 M o a0 a1 a2 = some out) : zok M 9 o = true := by
  unfold f_28 at h
  by_cases hok : zok M 9 o = true
  · exact hok
  · rw [if_neg hok] at h; cases h
set_option maxRecDepth 4000 in
theorem k_28 (d : Nat) {M : ZMem} {o : Nat} {a0 : Option Nat} {a1 : Int32} {a2 : Option Nat} {out : ZMem} (h : f_28 M o a0 a1 a2 = some out) : zrn (d + 3) 28 [zrf (some o), zrf a0, .int a1, zrf a2] M (none, out) := by
  unfold f_28 at h
  by_cases hok : zok M 9 o = true
  · rw [if_pos hok] at h
    refine zrn_of (L := [(0, zrf (some o)), (1, zrf a0), (2, .int a1), (3, zrf a2)]) (by simp [lv_args, zrf_cat, zcat_i, zcat_l, zcat_r]) ?_
    refine zo_aload_n (p' := 1) (zi_28 rfl) rfl rfl ?_
    obtain ⟨r1, hx2, g29⟩ := zb_of h
    refine zo_getR (p' := 4) (zi_28 rfl) rfl zl_9_12 hx2 ?_
    refine zo_aload_n (p' := 5) (zi_28 rfl) rfl rfl ?_
    refine zo_aload_n (p' := 6) (zi_28 rfl) rfl rfl ?_
    obtain ⟨q3, h0, g30⟩ := zb_of g29
    subst h0
    obtain ⟨x4, hx5, g31⟩ := zb_of g30
    refine zo_getI (p' := 9) (zi_28 rfl) rfl zl_9_25 hx5 ?_
    refine zo_aload_n (p' := 10) (zi_28 rfl) rfl rfl ?_
    obtain ⟨x6, hx7, g32⟩ := zb_of g31
    refine zo_getI (p' := 13) (zi_28 rfl) rfl zl_9_31 hx7 ?_
    refine zo_iload_n (p' := 14) (zi_28 rfl) rfl rfl ?_
    obtain ⟨q8, h0, g33⟩ := zb_of g32
    subst h0
    obtain ⟨M11, hx10, g34⟩ := zb_of g33
    refine zo_callVv (p' := 17) (t := 2) (as := [zrf (some q3), .int x4, .int x6, .int a1]) (r := []) (zi_28 rfl) rfl zl_9_34 rfl rfl (Or.inl ⟨by decide, rfl⟩) (Nat.le_of_ble_eq_true rfl) (Nat.le_of_ble_eq_true rfl) (f_29_ok hx10) (k_29 _ hx10) ?_
    refine zo_aload_n (p' := 18) (zi_28 rfl) rfl rfl ?_
    refine zo_aload_n (p' := 19) (zi_28 rfl) rfl rfl ?_
    obtain ⟨q12, h0, g35⟩ := zb_of g34
    subst h0
    obtain ⟨x13, hx14, g36⟩ := zb_of g35
    refine zo_callVi (p' := 22) (t := 3) (as := []) (r := [zrf (some o)]) (zi_28 rfl) rfl zl_9_38 rfl rfl (Or.inl ⟨by decide, rfl⟩) (Nat.le_of_ble_eq_true rfl) (Nat.le_of_ble_eq_true rfl) (f_31_ok hx14) (k_31 _ hx14) ?_
    obtain ⟨M15, hx16, g37⟩ := zb_of g36
    refine zo_putI (p' := 25) (zi_28 rfl) rfl zl_9_44 (zpb_28 _) hx16 ?_
    refine zo_aload_n (p' := 26) (zi_28 rfl) rfl rfl ?_
    refine zo_aload_n (p' := 27) (zi_28 rfl) rfl rfl ?_
    obtain ⟨x17, hx18, g38⟩ := zb_of g37
    refine zo_callVi (p' := 30) (t := 3) (as := []) (r := [zrf (some o)]) (zi_28 rfl) rfl zl_9_47 rfl rfl (Or.inl ⟨by decide, rfl⟩) (Nat.le_of_ble_eq_true rfl) (Nat.le_of_ble_eq_true rfl) (f_32_ok hx18) (k_32 _ hx18) ?_
    obtain ⟨M19, hx20, g39⟩ := zb_of g38
    refine zo_putI (p' := 33) (zi_28 rfl) rfl zl_9_50 (zpb_28 _) hx20 ?_
    refine zo_aload_n (p' := 34) (zi_28 rfl) rfl rfl ?_
    refine zo_aload_n (p' := 35) (zi_28 rfl) rfl rfl ?_
    refine zo_aload_n (p' := 36) (zi_28 rfl) rfl rfl ?_
    refine zo_iload_n (p' := 37) (zi_28 rfl) rfl rfl ?_
    obtain ⟨x21, hx22, g40⟩ := zb_of g39
    refine zo_callVi (p' := 40) (t := 3) (as := [zrf (some q3), .int a1]) (r := [zrf (some o)]) (zi_28 rfl) rfl zl_9_53 rfl rfl (Or.inl ⟨by decide, rfl⟩) (Nat.le_of_ble_eq_true rfl) (Nat.le_of_ble_eq_true rfl) (f_21_ok hx22) (k_21 _ hx22) ?_
    obtain ⟨M23, hx24, g41⟩ := zb_of g40
    refine zo_putI (p' := 43) (zi_28 rfl) rfl zl_9_57 (zpb_28 _) hx24 ?_
    refine zo_aload_n (p' := 44) (zi_28 rfl) rfl rfl ?_
    refine zo_aload_n (p' := 45) (zi_28 rfl) rfl rfl ?_
    obtain ⟨x25, hx26, g42⟩ := zb_of g41
    refine zo_getI (p' := 48) (zi_28 rfl) rfl zl_9_57 hx26 ?_
    refine zo_iconst (p' := 49) (v := 2) (zi_28 rfl) rfl rfl ?_
    refine zo_idiv (p' := 50) (zi_28 rfl) rfl (by decide) ?_
    obtain ⟨M27, hx28, g43⟩ := zb_of g42
    refine zo_putI (p' := 53) (zi_28 rfl) rfl zl_9_60 (zpb_28 _) hx28 ?_
    cases g43
    exact zo_vret (zi_28 rfl) rfl
  · rw [if_neg hok] at h; cases h
/-- SlateHalves$Valuer.worthOf(I)I -/
def f_33 (M : ZMem) (o : Nat) (a0 : Int32) : Option (Int32) := if zok M 9 o = true then (zb (zgi M 9 3 o) fun x1 => if a0 < x1 then (some 0) else (zb (zgi M 9 4 o) fun x4 => if a0 ≤ (2 * x4) then (zb (zgi M 9 4 o) fun x7 => if x7 < a0 then (zb (zgi M 9 6 o) fun x10 => some x10) else (zb (zgi M 9 5 o) fun x12 => some x12)) else (some 0))) else none
theorem f_33_ok {M : ZMem} {o : Nat} {a0 : Int32} {out : Int32} (h : f_33 M o a0 = some out) : zok M 9 o = true := by
  unfold f_33 at h
  by_cases hok : zok M 9 o = true
  · exact hok
  · rw [if_neg hok] at h; cases h
set_option maxRecDepth 4000 in
theorem k_33 (d : Nat) {M : ZMem} {o : Nat} {a0 : Int32} {out : Int32} (h : f_33 M o a0 = some out) : zrn (d) 33 [zrf (some o), .int a0] M (some (.int out), M) := by
  unfold f_33 at h
  by_cases hok : zok M 9 o = true
  · rw [if_pos hok] at h
    refine zrn_of (L := [(0, zrf (some o)), (1, .int a0)]) rfl ?_
    refine zo_iload_n (p' := 1) (zi_33 rfl) rfl rfl ?_
    refine zo_aload_n (p' := 2) (zi_33 rfl) rfl rfl ?_
    obtain ⟨x1, hx2, g14⟩ := zb_of h
    refine zo_getI (p' := 5) (zi_33 rfl) rfl zl_9_44 hx2 ?_
    by_cases hc3 : a0 < x1
    · rw [if_pos hc3] at g14
      refine zo_icT (p' := 18) (zi_33 rfl) rfl hc3 ?_
      refine zo_iconst (p' := 19) (v := 0) (zi_33 rfl) rfl rfl ?_
      cases g14
      exact zo_iret (zi_33 rfl) rfl ⟨rfl, rfl⟩
    · rw [if_neg hc3] at g14
      refine zo_icF (p' := 8) (zi_33 rfl) rfl rfl hc3 ?_
      refine zo_iload_n (p' := 9) (zi_33 rfl) rfl rfl ?_
      refine zo_iconst (p' := 10) (v := 2) (zi_33 rfl) rfl rfl ?_
      refine zo_aload_n (p' := 11) (zi_33 rfl) rfl rfl ?_
      obtain ⟨x4, hx5, g15⟩ := zb_of g14
      refine zo_getI (p' := 14) (zi_33 rfl) rfl zl_9_50 hx5 ?_
      refine zo_imul (p' := 15) (zi_33 rfl) rfl ?_
      by_cases hc6 : a0 ≤ (2 * x4)
      · rw [if_pos hc6] at g15
        refine zo_icT (p' := 20) (zi_33 rfl) rfl hc6 ?_
        refine zo_iload_n (p' := 21) (zi_33 rfl) rfl rfl ?_
        refine zo_aload_n (p' := 22) (zi_33 rfl) rfl rfl ?_
        obtain ⟨x7, hx8, g16⟩ := zb_of g15
        refine zo_getI (p' := 25) (zi_33 rfl) rfl zl_9_50 hx8 ?_
        by_cases hc9 : x7 < a0
        · rw [if_pos hc9] at g16
          refine zo_icT (p' := 35) (zi_33 rfl) rfl hc9 ?_
          refine zo_aload_n (p' := 36) (zi_33 rfl) rfl rfl ?_
          obtain ⟨x10, hx11, g17⟩ := zb_of g16
          refine zo_getI (p' := 39) (zi_33 rfl) rfl zl_9_60 hx11 ?_
          cases g17
          exact zo_iret (zi_33 rfl) rfl ⟨rfl, rfl⟩
        · rw [if_neg hc9] at g16
          refine zo_icF (p' := 28) (zi_33 rfl) rfl rfl hc9 ?_
          refine zo_aload_n (p' := 29) (zi_33 rfl) rfl rfl ?_
          obtain ⟨x12, hx13, g18⟩ := zb_of g16
          refine zo_getI (p' := 32) (zi_33 rfl) rfl zl_9_57 hx13 ?_
          refine zo_goto (p' := 39) (zi_33 rfl) rfl ?_
          cases g18
          exact zo_iret (zi_33 rfl) rfl ⟨rfl, rfl⟩
      · rw [if_neg hc6] at g15
        refine zo_icF (p' := 18) (zi_33 rfl) rfl rfl hc6 ?_
        refine zo_iconst (p' := 19) (v := 0) (zi_33 rfl) rfl rfl ?_
        cases g15
        exact zo_iret (zi_33 rfl) rfl ⟨rfl, rfl⟩
  · rw [if_neg hok] at h; cases h
/-- java/lang/Math.min(II)I -/
def f_37 (M : ZMem) (a0 : Int32) (a1 : Int32) : Option (Int32) := if a1 < a0 then (some a1) else (some a0)
set_option maxRecDepth 4000 in
theorem k_37 (d : Nat) {M : ZMem} {a0 : Int32} {a1 : Int32} {out : Int32} (h : f_37 M a0 a1 = some out) : zrn (d) 37 [.int a0, .int a1] M (some (.int out), M) := by
  unfold f_37 at h
  refine zrn_of (L := [(0, .int a0), (1, .int a1)]) rfl ?_
  refine zo_iload_n (p' := 1) (zi_37 rfl) rfl rfl ?_
  refine zo_iload_n (p' := 2) (zi_37 rfl) rfl rfl ?_
  by_cases hc1 : a1 < a0
  · rw [if_pos hc1] at h
    refine zo_icT (p' := 9) (zi_37 rfl) rfl hc1 ?_
    refine zo_iload_n (p' := 10) (zi_37 rfl) rfl rfl ?_
    cases h
    exact zo_iret (zi_37 rfl) rfl ⟨rfl, rfl⟩
  · rw [if_neg hc1] at h
    refine zo_icF (p' := 5) (zi_37 rfl) rfl rfl hc1 ?_
    refine zo_iload_n (p' := 6) (zi_37 rfl) rfl rfl ?_
    refine zo_goto (p' := 10) (zi_37 rfl) rfl ?_
    cases h
    exact zo_iret (zi_37 rfl) rfl ⟨rfl, rfl⟩
/-- SlateHalves$Valuer.limited(I)I -/
def f_36 (M : ZMem) (a0 : Int32) : Option (Int32) := zb (f_37 M 60 a0) fun x1 => zb (f_24 M 0 x1) fun x3 => some x3
set_option maxRecDepth 4000 in
theorem k_36 (d : Nat) {M : ZMem} {a0 : Int32} {out : Int32} (h : f_36 M a0 = some out) : zrn (d + 1) 36 [.int a0] M (some (.int out), M) := by
  unfold f_36 at h
  refine zrn_of (L := [(0, .int a0)]) rfl ?_
  refine zo_iconst (p' := 1) (v := 0) (zi_36 rfl) rfl rfl ?_
  refine zo_bipush (p' := 3) (v := 60) (zi_36 rfl) rfl rfl ?_
  refine zo_iload_n (p' := 4) (zi_36 rfl) rfl rfl ?_
  obtain ⟨x1, hx2, g5⟩ := zb_of h
  refine zo_callSi (p' := 7) (as := [.int 60, .int a0]) (r := [.int 0]) (zi_36 rfl) rfl (Or.inl zl_9_84) rfl rfl (Nat.le_of_ble_eq_true rfl) (Nat.le_of_ble_eq_true rfl) (k_37 _ hx2) ?_
  obtain ⟨x3, hx4, g6⟩ := zb_of g5
  refine zo_callSi (p' := 10) (as := [.int 0, .int x1]) (r := []) (zi_36 rfl) rfl (Or.inl zl_9_90) rfl rfl (Nat.le_of_ble_eq_true rfl) (Nat.le_of_ble_eq_true rfl) (k_24 _ hx4) ?_
  cases g6
  exact zo_iret (zi_36 rfl) rfl ⟨rfl, rfl⟩
/-- SlateHalves$Blows.greatestNear(I)I -/
def f_38 (M : ZMem) (o : Nat) (a0 : Int32) : Option (Int32) := if zok M 2 o = true then (zb (zgi M 2 2 o) fun x1 => zb (zgi M 2 1 o) fun x3 => zb (f_37 M ((a0 - 1)) ((((a0 + x1) + x3) >>> (1 &&& 31)))) fun x5 => some x5) else none
theorem f_38_ok {M : ZMem} {o : Nat} {a0 : Int32} {out : Int32} (h : f_38 M o a0 = some out) : zok M 2 o = true := by
  unfold f_38 at h
  by_cases hok : zok M 2 o = true
  · exact hok
  · rw [if_neg hok] at h; cases h
set_option maxRecDepth 4000 in
theorem k_38 (d : Nat) {M : ZMem} {o : Nat} {a0 : Int32} {out : Int32} (h : f_38 M o a0 = some out) : zrn (d + 1) 38 [zrf (some o), .int a0] M (some (.int out), M) := by
  unfold f_38 at h
  by_cases hok : zok M 2 o = true
  · rw [if_pos hok] at h
    refine zrn_of (L := [(0, zrf (some o)), (1, .int a0)]) rfl ?_
    refine zo_iload_n (p' := 1) (zi_38 rfl) rfl rfl ?_
    refine zo_iconst (p' := 2) (v := 1) (zi_38 rfl) rfl rfl ?_
    refine zo_isub (p' := 3) (zi_38 rfl) rfl ?_
    refine zo_iload_n (p' := 4) (zi_38 rfl) rfl rfl ?_
    refine zo_aload_n (p' := 5) (zi_38 rfl) rfl rfl ?_
    obtain ⟨x1, hx2, g7⟩ := zb_of h
    refine zo_getI (p' := 8) (zi_38 rfl) rfl zl_8_48 hx2 ?_
    refine zo_iadd (p' := 9) (zi_38 rfl) rfl ?_
    refine zo_aload_n (p' := 10) (zi_38 rfl) rfl rfl ?_
    obtain ⟨x3, hx4, g8⟩ := zb_of g7
    refine zo_getI (p' := 13) (zi_38 rfl) rfl zl_8_35 hx4 ?_
    refine zo_iadd (p' := 14) (zi_38 rfl) rfl ?_
    refine zo_iconst (p' := 15) (v := 1) (zi_38 rfl) rfl rfl ?_
    refine zo_ishr (p' := 16) (zi_38 rfl) rfl ?_
    obtain ⟨x5, hx6, g9⟩ := zb_of g8
    refine zo_callSi (p' := 19) (as := [.int ((a0 - 1)), .int ((((a0 + x1) + x3) >>> (1 &&& 31)))]) (r := []) (zi_38 rfl) rfl (Or.inl zl_8_54) rfl rfl (Nat.le_of_ble_eq_true rfl) (Nat.le_of_ble_eq_true rfl) (k_37 _ hx6) ?_
    cases g9
    exact zo_iret (zi_38 rfl) rfl ⟨rfl, rfl⟩
  · rw [if_neg hok] at h; cases h
/-- SlateHalves$Blows.leastNear(I)I -/
def f_39 (M : ZMem) (o : Nat) (a0 : Int32) : Option (Int32) := if zok M 2 o = true then (zb (zgi M 2 2 o) fun x1 => zb (zgi M 2 1 o) fun x3 => zb (f_24 M 1 (((((a0 + x1) - x3) + 1) >>> (1 &&& 31)))) fun x5 => some x5) else none
theorem f_39_ok {M : ZMem} {o : Nat} {a0 : Int32} {out : Int32} (h : f_39 M o a0 = some out) : zok M 2 o = true := by
  unfold f_39 at h
  by_cases hok : zok M 2 o = true
  · exact hok
  · rw [if_neg hok] at h; cases h
set_option maxRecDepth 4000 in
theorem k_39 (d : Nat) {M : ZMem} {o : Nat} {a0 : Int32} {out : Int32} (h : f_39 M o a0 = some out) : zrn (d + 1) 39 [zrf (some o), .int a0] M (some (.int out), M) := by
  unfold f_39 at h
  by_cases hok : zok M 2 o = true
  · rw [if_pos hok] at h
    refine zrn_of (L := [(0, zrf (some o)), (1, .int a0)]) rfl ?_
    refine zo_iconst (p' := 1) (v := 1) (zi_39 rfl) rfl rfl ?_
    refine zo_iload_n (p' := 2) (zi_39 rfl) rfl rfl ?_
    refine zo_aload_n (p' := 3) (zi_39 rfl) rfl rfl ?_
    obtain ⟨x1, hx2, g7⟩ := zb_of h
    refine zo_getI (p' := 6) (zi_39 rfl) rfl zl_8_48 hx2 ?_
    refine zo_iadd (p' := 7) (zi_39 rfl) rfl ?_
    refine zo_aload_n (p' := 8) (zi_39 rfl) rfl rfl ?_
    obtain ⟨x3, hx4, g8⟩ := zb_of g7
    refine zo_getI (p' := 11) (zi_39 rfl) rfl zl_8_35 hx4 ?_
    refine zo_isub (p' := 12) (zi_39 rfl) rfl ?_
    refine zo_iconst (p' := 13) (v := 1) (zi_39 rfl) rfl rfl ?_
    refine zo_iadd (p' := 14) (zi_39 rfl) rfl ?_
    refine zo_iconst (p' := 15) (v := 1) (zi_39 rfl) rfl rfl ?_
    refine zo_ishr (p' := 16) (zi_39 rfl) rfl ?_
    obtain ⟨x5, hx6, g9⟩ := zb_of g8
    refine zo_callSi (p' := 19) (as := [.int 1, .int (((((a0 + x1) - x3) + 1) >>> (1 &&& 31)))]) (r := []) (zi_39 rfl) rfl (Or.inl zl_8_51) rfl rfl (Nat.le_of_ble_eq_true rfl) (Nat.le_of_ble_eq_true rfl) (k_24 _ hx6) ?_
    cases g9
    exact zo_iret (zi_39 rfl) rfl ⟨rfl, rfl⟩
  · rw [if_neg hok] at h; cases h
/-- SlateHalves$Blows.isCleanAt(II)Z -/
def f_41_72 (M : ZMem) (o : Nat) (b1 : Int32) (b2 : Int32) : Option (Int32) := if ¬ b2 = 0 then (some 1) else (zb (zgi M 2 3 o) fun x24 => if ¬ b1 = x24 then (some 0) else (some 1))
def f_41_91 (M : ZMem) (o : Nat) (b1 : Int32) (b2 : Int32) : Option (Int32) := if b2 = 0 then (some 0) else (zb (zgi M 2 3 o) fun x29 => if b1 = x29 then (some 0) else (some 1))
def f_41_33 (M : ZMem) (o : Nat) (b1 : Int32) (b2 : Int32) (b3 : Int32) : Option (Int32) := zb (zgi M 2 0 o) fun x12 => if x12 = 2 then (f_41_72 M o b2 b3) else (if x12 = 3 then (f_41_91 M o b2 b3) else (if x12 = 4 then (if b3 = 0 then (some 0) else (if b1 < 4 then (some 0) else (some 1))) else (if x12 = 5 then (f_41_72 M o b2 b3) else (if x12 = 6 then (f_41_91 M o b2 b3) else (if narrow .boolean (.int b3) = .int b3 then some b3 else none)))))
def f_41_32 (M : ZMem) (o : Nat) (b1 : Int32) (b2 : Int32) : Option (Int32) := f_41_33 M o b1 b2 0
set_option maxRecDepth 4000 in
theorem k_41_72 (d : Nat) : ∀ (M : ZMem) (o : Nat) (b1 : Int32) (b2 : Int32) (out : Int32), f_41_72 M o b1 b2 = some out → zgo none (d) 41 72 [(0, zrf (some o)), (2, .int b1), (4, .int b2)] [] M (some (.int out), M) := by
  intro M o b1 b2 out h
  unfold f_41_72 at h
  refine zo_iload (p' := 74) (zi_41 rfl) rfl rfl ?_
  by_cases hc23 : ¬ b2 = 0
  · rw [if_pos hc23] at h
    refine zo_ifT (p' := 85) (zi_41 rfl) rfl hc23 ?_
    refine zo_iconst (p' := 86) (v := 1) (zi_41 rfl) rfl rfl ?_
    refine zo_goto (p' := 90) (zi_41 rfl) rfl ?_
    cases h
    exact zo_iret (zi_41 rfl) rfl ⟨rfl, rfl⟩
  · rw [if_neg hc23] at h
    refine zo_ifF (p' := 77) (zi_41 rfl) rfl rfl hc23 ?_
    refine zo_iload_n (p' := 78) (zi_41 rfl) rfl rfl ?_
    refine zo_aload_n (p' := 79) (zi_41 rfl) rfl rfl ?_
    obtain ⟨x24, hx25, g27⟩ := zb_of h
    refine zo_getI (p' := 82) (zi_41 rfl) rfl zl_8_9 hx25 ?_
    by_cases hc26 : ¬ b1 = x24
    · rw [if_pos hc26] at g27
      refine zo_icT (p' := 89) (zi_41 rfl) rfl hc26 ?_
      refine zo_iconst (p' := 90) (v := 0) (zi_41 rfl) rfl rfl ?_
      cases g27
      exact zo_iret (zi_41 rfl) rfl ⟨rfl, rfl⟩
    · rw [if_neg hc26] at g27
      refine zo_icF (p' := 85) (zi_41 rfl) rfl rfl hc26 ?_
      refine zo_iconst (p' := 86) (v := 1) (zi_41 rfl) rfl rfl ?_
      refine zo_goto (p' := 90) (zi_41 rfl) rfl ?_
      cases g27
      exact zo_iret (zi_41 rfl) rfl ⟨rfl, rfl⟩
set_option maxRecDepth 4000 in
theorem k_41_91 (d : Nat) : ∀ (M : ZMem) (o : Nat) (b1 : Int32) (b2 : Int32) (out : Int32), f_41_91 M o b1 b2 = some out → zgo none (d) 41 91 [(0, zrf (some o)), (2, .int b1), (4, .int b2)] [] M (some (.int out), M) := by
  intro M o b1 b2 out h
  unfold f_41_91 at h
  refine zo_iload (p' := 93) (zi_41 rfl) rfl rfl ?_
  by_cases hc28 : b2 = 0
  · rw [if_pos hc28] at h
    refine zo_ifT (p' := 108) (zi_41 rfl) rfl hc28 ?_
    refine zo_iconst (p' := 109) (v := 0) (zi_41 rfl) rfl rfl ?_
    cases h
    exact zo_iret (zi_41 rfl) rfl ⟨rfl, rfl⟩
  · rw [if_neg hc28] at h
    refine zo_ifF (p' := 96) (zi_41 rfl) rfl rfl hc28 ?_
    refine zo_iload_n (p' := 97) (zi_41 rfl) rfl rfl ?_
    refine zo_aload_n (p' := 98) (zi_41 rfl) rfl rfl ?_
    obtain ⟨x29, hx30, g32⟩ := zb_of h
    refine zo_getI (p' := 101) (zi_41 rfl) rfl zl_8_9 hx30 ?_
    by_cases hc31 : b1 = x29
    · rw [if_pos hc31] at g32
      refine zo_icT (p' := 108) (zi_41 rfl) rfl hc31 ?_
      refine zo_iconst (p' := 109) (v := 0) (zi_41 rfl) rfl rfl ?_
      cases g32
      exact zo_iret (zi_41 rfl) rfl ⟨rfl, rfl⟩
    · rw [if_neg hc31] at g32
      refine zo_icF (p' := 104) (zi_41 rfl) rfl rfl hc31 ?_
      refine zo_iconst (p' := 105) (v := 1) (zi_41 rfl) rfl rfl ?_
      refine zo_goto (p' := 109) (zi_41 rfl) rfl ?_
      cases g32
      exact zo_iret (zi_41 rfl) rfl ⟨rfl, rfl⟩
set_option maxRecDepth 4000 in
theorem k_41_33 (d : Nat) : ∀ (M : ZMem) (o : Nat) (b1 : Int32) (b2 : Int32) (b3 : Int32) (out : Int32), f_41_33 M o b1 b2 b3 = some out → zgo none (d) 41 33 [(0, zrf (some o)), (1, .int b1), (2, .int b2)] [.int b3] M (some (.int out), M) := by
  intro M o b1 b2 b3 out h
  unfold f_41_33 at h
  refine zo_istore (p' := 35) (L' := [(0, zrf (some o)), (1, .int b1), (2, .int b2), (4, .int b3)]) (zi_41 rfl) rfl zm_41_4 ⟨Or.inr ⟨by decide, rfl, fun q => absurd q (by decide)⟩, ⟨Or.inr ⟨by decide, rfl, fun q => absurd q (by decide)⟩, ⟨Or.inr ⟨by decide, rfl, fun q => absurd q (by decide)⟩, ⟨Or.inl ⟨rfl, rfl⟩, trivial⟩⟩⟩⟩ ?_
  refine zo_aload_n (p' := 36) (zi_41 rfl) rfl rfl ?_
  obtain ⟨x12, hx13, g22⟩ := zb_of h
  refine zo_getI (p' := 39) (zi_41 rfl) rfl zl_8_30 hx13 ?_
  by_cases hc14 : x12 = 2
  · rw [if_pos hc14] at g22
    refine zo_table (p' := 72) (n := 33) (zi_41 rfl) (by decide) (zsel_hit hc14 (by decide)) rfl ?_
    refine zgo_sub (L' := [(0, zrf (some o)), (2, .int b2), (4, .int b3)]) (⟨rfl, rfl, rfl, trivial⟩) ?_
    exact k_41_72 _ M o b2 b3 _ g22
  · rw [if_neg hc14] at g22
    by_cases hc15 : x12 = 3
    · rw [if_pos hc15] at g22
      refine zo_table (p' := 91) (n := 52) (zi_41 rfl) (by decide) (zsel_skip hc14 (by decide) (zsel_hit hc15 (by decide))) rfl ?_
      refine zgo_sub (L' := [(0, zrf (some o)), (2, .int b2), (4, .int b3)]) (⟨rfl, rfl, rfl, trivial⟩) ?_
      exact k_41_91 _ M o b2 b3 _ g22
    · rw [if_neg hc15] at g22
      by_cases hc16 : x12 = 4
      · rw [if_pos hc16] at g22
        refine zo_table (p' := 110) (n := 71) (zi_41 rfl) (by decide) (zsel_skip hc14 (by decide) (zsel_skip hc15 (by decide) (zsel_hit hc16 (by decide)))) rfl ?_
        refine zo_iload (p' := 112) (zi_41 rfl) rfl rfl ?_
        by_cases hc19 : b3 = 0
        · rw [if_pos hc19] at g22
          refine zo_ifT (p' := 124) (zi_41 rfl) rfl hc19 ?_
          refine zo_iconst (p' := 125) (v := 0) (zi_41 rfl) rfl rfl ?_
          cases g22
          exact zo_iret (zi_41 rfl) rfl ⟨rfl, rfl⟩
        · rw [if_neg hc19] at g22
          refine zo_ifF (p' := 115) (zi_41 rfl) rfl rfl hc19 ?_
          refine zo_iload_n (p' := 116) (zi_41 rfl) rfl rfl ?_
          refine zo_iconst (p' := 117) (v := 4) (zi_41 rfl) rfl rfl ?_
          by_cases hc20 : b1 < 4
          · rw [if_pos hc20] at g22
            refine zo_icT (p' := 124) (zi_41 rfl) rfl hc20 ?_
            refine zo_iconst (p' := 125) (v := 0) (zi_41 rfl) rfl rfl ?_
            cases g22
            exact zo_iret (zi_41 rfl) rfl ⟨rfl, rfl⟩
          · rw [if_neg hc20] at g22
            refine zo_icF (p' := 120) (zi_41 rfl) rfl rfl hc20 ?_
            refine zo_iconst (p' := 121) (v := 1) (zi_41 rfl) rfl rfl ?_
            refine zo_goto (p' := 125) (zi_41 rfl) rfl ?_
            cases g22
            exact zo_iret (zi_41 rfl) rfl ⟨rfl, rfl⟩
      · rw [if_neg hc16] at g22
        by_cases hc17 : x12 = 5
        · rw [if_pos hc17] at g22
          refine zo_table (p' := 72) (n := 33) (zi_41 rfl) (by decide) (zsel_skip hc14 (by decide) (zsel_skip hc15 (by decide) (zsel_skip hc16 (by decide) (zsel_hit hc17 (by decide))))) rfl ?_
          refine zgo_sub (L' := [(0, zrf (some o)), (2, .int b2), (4, .int b3)]) (⟨rfl, rfl, rfl, trivial⟩) ?_
          exact k_41_72 _ M o b2 b3 _ g22
        · rw [if_neg hc17] at g22
          by_cases hc18 : x12 = 6
          · rw [if_pos hc18] at g22
            refine zo_table (p' := 91) (n := 52) (zi_41 rfl) (by decide) (zsel_skip hc14 (by decide) (zsel_skip hc15 (by decide) (zsel_skip hc16 (by decide) (zsel_skip hc17 (by decide) (zsel_hit hc18 (by decide)))))) rfl ?_
            refine zgo_sub (L' := [(0, zrf (some o)), (2, .int b2), (4, .int b3)]) (⟨rfl, rfl, rfl, trivial⟩) ?_
            exact k_41_91 _ M o b2 b3 _ g22
          · rw [if_neg hc18] at g22
            refine zo_table (p' := 126) (n := 87) (zi_41 rfl) (by decide) (zsel_skip hc14 (by decide) (zsel_skip hc15 (by decide) (zsel_skip hc16 (by decide) (zsel_skip hc17 (by decide) (zsel_skip hc18 (by decide) (rfl)))))) rfl ?_
            refine zo_iload (p' := 128) (zi_41 rfl) rfl rfl ?_
            by_cases hr21 : narrow .boolean (.int b3) = .int b3
            · rw [if_pos hr21] at g22
              cases g22
              exact zo_iret (zi_41 rfl) rfl ⟨rfl, hr21⟩
            · rw [if_neg hr21] at g22; cases g22
set_option maxRecDepth 4000 in
theorem k_41_32 (d : Nat) : ∀ (M : ZMem) (o : Nat) (b1 : Int32) (b2 : Int32) (out : Int32), f_41_32 M o b1 b2 = some out → zgo none (d) 41 32 [(0, zrf (some o)), (1, .int b1), (2, .int b2)] [] M (some (.int out), M) := by
  intro M o b1 b2 out h
  unfold f_41_32 at h
  refine zo_iconst (p' := 33) (v := 0) (zi_41 rfl) rfl rfl ?_
  refine zgo_sub (L' := [(0, zrf (some o)), (1, .int b1), (2, .int b2)]) (⟨rfl, rfl, rfl, trivial⟩) ?_
  exact k_41_33 _ M o b1 b2 0 _ h
def f_41 (M : ZMem) (o : Nat) (a0 : Int32) (a1 : Int32) : Option (Int32) := if zok M 2 o = true then (zb (zgi M 2 2 o) fun x1 => zb (zgi M 2 1 o) fun x3 => if x3 < (((2 * a1) - a0) - x1) then (f_41_32 M o a0 a1) else (zb (zgi M 2 1 o) fun x6 => if (((2 * a1) - a0) - x1) < (-x6) then (f_41_32 M o a0 a1) else (f_41_33 M o a0 a1 1))) else none
theorem f_41_ok {M : ZMem} {o : Nat} {a0 : Int32} {a1 : Int32} {out : Int32} (h : f_41 M o a0 a1 = some out) : zok M 2 o = true := by
  unfold f_41 at h
  by_cases hok : zok M 2 o = true
  · exact hok
  · rw [if_neg hok] at h; cases h
set_option maxRecDepth 4000 in
theorem k_41 (d : Nat) {M : ZMem} {o : Nat} {a0 : Int32} {a1 : Int32} {out : Int32} (h : f_41 M o a0 a1 = some out) : zrn (d) 41 [zrf (some o), .int a0, .int a1] M (some (.int out), M) := by
  unfold f_41 at h
  by_cases hok : zok M 2 o = true
  · rw [if_pos hok] at h
    refine zrn_of (L := [(0, zrf (some o)), (1, .int a0), (2, .int a1)]) rfl ?_
    refine zo_iconst (p' := 1) (v := 2) (zi_41 rfl) rfl rfl ?_
    refine zo_iload_n (p' := 2) (zi_41 rfl) rfl rfl ?_
    refine zo_imul (p' := 3) (zi_41 rfl) rfl ?_
    refine zo_iload_n (p' := 4) (zi_41 rfl) rfl rfl ?_
    refine zo_isub (p' := 5) (zi_41 rfl) rfl ?_
    refine zo_aload_n (p' := 6) (zi_41 rfl) rfl rfl ?_
    obtain ⟨x1, hx2, g9⟩ := zb_of h
    refine zo_getI (p' := 9) (zi_41 rfl) rfl zl_8_48 hx2 ?_
    refine zo_isub (p' := 10) (zi_41 rfl) rfl ?_
    refine zo_istore_n (p' := 11) (L' := [(0, zrf (some o)), (1, .int a0), (2, .int a1), (3, .int ((((2 * a1) - a0) - x1)))]) (zi_41 rfl) rfl zm_41_3 ⟨Or.inr ⟨by decide, rfl, fun q => absurd q (by decide)⟩, ⟨Or.inr ⟨by decide, rfl, fun q => absurd q (by decide)⟩, ⟨Or.inr ⟨by decide, rfl, fun _ => rfl⟩, ⟨Or.inl ⟨rfl, rfl⟩, trivial⟩⟩⟩⟩ ?_
    refine zo_iload_n (p' := 12) (zi_41 rfl) rfl rfl ?_
    refine zo_aload_n (p' := 13) (zi_41 rfl) rfl rfl ?_
    obtain ⟨x3, hx4, g10⟩ := zb_of g9
    refine zo_getI (p' := 16) (zi_41 rfl) rfl zl_8_35 hx4 ?_
    by_cases hc5 : x3 < (((2 * a1) - a0) - x1)
    · rw [if_pos hc5] at g10
      refine zo_icT (p' := 32) (zi_41 rfl) rfl hc5 ?_
      refine zgo_sub (L' := [(0, zrf (some o)), (1, .int a0), (2, .int a1)]) (⟨rfl, rfl, rfl, trivial⟩) ?_
      exact k_41_32 _ M o a0 a1 _ g10
    · rw [if_neg hc5] at g10
      refine zo_icF (p' := 19) (zi_41 rfl) rfl rfl hc5 ?_
      refine zo_iload_n (p' := 20) (zi_41 rfl) rfl rfl ?_
      refine zo_aload_n (p' := 21) (zi_41 rfl) rfl rfl ?_
      obtain ⟨x6, hx7, g11⟩ := zb_of g10
      refine zo_getI (p' := 24) (zi_41 rfl) rfl zl_8_35 hx7 ?_
      refine zo_ineg (p' := 25) (zi_41 rfl) rfl ?_
      by_cases hc8 : (((2 * a1) - a0) - x1) < (-x6)
      · rw [if_pos hc8] at g11
        refine zo_icT (p' := 32) (zi_41 rfl) rfl hc8 ?_
        refine zgo_sub (L' := [(0, zrf (some o)), (1, .int a0), (2, .int a1)]) (⟨rfl, rfl, rfl, trivial⟩) ?_
        exact k_41_32 _ M o a0 a1 _ g11
      · rw [if_neg hc8] at g11
        refine zo_icF (p' := 28) (zi_41 rfl) rfl rfl hc8 ?_
        refine zo_iconst (p' := 29) (v := 1) (zi_41 rfl) rfl rfl ?_
        refine zo_goto (p' := 33) (zi_41 rfl) rfl ?_
        refine zgo_sub (L' := [(0, zrf (some o)), (1, .int a0), (2, .int a1)]) (⟨rfl, rfl, rfl, trivial⟩) ?_
        exact k_41_33 _ M o a0 a1 1 _ g11
  · rw [if_neg hok] at h; cases h
/-- SlateHalves$Valuer.cleanSum(II)I -/
def f_40 (M : ZMem) (o : Nat) (a0 : Int32) (a1 : Int32) : Option (Int32) := if zok M 9 o = true then (zb (f_14 M a1 1 ((a0 - 1))) fun x1 => if x1 = 0 then (some 0) else (zb (zgr M 9 0 o) fun r4 => zb r4 fun q6 => zb (f_41 M q6 a0 a1) fun x7 => if x7 = 0 then (some 0) else (zb (zgr M 9 1 o) fun r10 => zb r10 fun q12 => zb (zai M q12 a1) fun x13 => zb (zgr M 9 1 o) fun r15 => zb r15 fun q17 => zb (zai M q17 (a0 - a1)) fun x18 => some (x13 + x18)))) else none
theorem f_40_ok {M : ZMem} {o : Nat} {a0 : Int32} {a1 : Int32} {out : Int32} (h : f_40 M o a0 a1 = some out) : zok M 9 o = true := by
  unfold f_40 at h
  by_cases hok : zok M 9 o = true
  · exact hok
  · rw [if_neg hok] at h; cases h
set_option maxRecDepth 4000 in
theorem k_40 (d : Nat) {M : ZMem} {o : Nat} {a0 : Int32} {a1 : Int32} {out : Int32} (h : f_40 M o a0 a1 = some out) : zrn (d + 1) 40 [zrf (some o), .int a0, .int a1] M (some (.int out), M) := by
  unfold f_40 at h
  by_cases hok : zok M 9 o = true
  · rw [if_pos hok] at h
    refine zrn_of (L := [(0, zrf (some o)), (1, .int a0), (2, .int a1)]) rfl ?_
    refine zo_iload_n (p' := 1) (zi_40 rfl) rfl rfl ?_
    refine zo_iconst (p' := 2) (v := 1) (zi_40 rfl) rfl rfl ?_
    refine zo_iload_n (p' := 3) (zi_40 rfl) rfl rfl ?_
    refine zo_iconst (p' := 4) (v := 1) (zi_40 rfl) rfl rfl ?_
    refine zo_isub (p' := 5) (zi_40 rfl) rfl ?_
    obtain ⟨x1, hx2, g20⟩ := zb_of h
    refine zo_callSi (p' := 8) (as := [.int a1, .int 1, .int ((a0 - 1))]) (r := []) (zi_40 rfl) rfl (Or.inr zl_9_105) rfl rfl (Nat.le_of_ble_eq_true rfl) (Nat.le_of_ble_eq_true rfl) (k_14 _ hx2) ?_
    by_cases hc3 : x1 = 0
    · rw [if_pos hc3] at g20
      refine zo_ifT (p' := 41) (zi_40 rfl) rfl hc3 ?_
      refine zo_iconst (p' := 42) (v := 0) (zi_40 rfl) rfl rfl ?_
      cases g20
      exact zo_iret (zi_40 rfl) rfl ⟨rfl, rfl⟩
    · rw [if_neg hc3] at g20
      refine zo_ifF (p' := 11) (zi_40 rfl) rfl rfl hc3 ?_
      refine zo_aload_n (p' := 12) (zi_40 rfl) rfl rfl ?_
      obtain ⟨r4, hx5, g21⟩ := zb_of g20
      refine zo_getR (p' := 15) (zi_40 rfl) rfl zl_9_12 hx5 ?_
      refine zo_iload_n (p' := 16) (zi_40 rfl) rfl rfl ?_
      refine zo_iload_n (p' := 17) (zi_40 rfl) rfl rfl ?_
      obtain ⟨q6, h0, g22⟩ := zb_of g21
      subst h0
      obtain ⟨x7, hx8, g23⟩ := zb_of g22
      refine zo_callVi (p' := 20) (t := 2) (as := [.int a0, .int a1]) (r := []) (zi_40 rfl) rfl zl_9_109 rfl rfl (Or.inl ⟨by decide, rfl⟩) (Nat.le_of_ble_eq_true rfl) (Nat.le_of_ble_eq_true rfl) (f_41_ok hx8) (k_41 _ hx8) ?_
      by_cases hc9 : x7 = 0
      · rw [if_pos hc9] at g23
        refine zo_ifT (p' := 41) (zi_40 rfl) rfl hc9 ?_
        refine zo_iconst (p' := 42) (v := 0) (zi_40 rfl) rfl rfl ?_
        cases g23
        exact zo_iret (zi_40 rfl) rfl ⟨rfl, rfl⟩
      · rw [if_neg hc9] at g23
        refine zo_ifF (p' := 23) (zi_40 rfl) rfl rfl hc9 ?_
        refine zo_aload_n (p' := 24) (zi_40 rfl) rfl rfl ?_
        obtain ⟨r10, hx11, g24⟩ := zb_of g23
        refine zo_getR (p' := 27) (zi_40 rfl) rfl zl_9_18 hx11 ?_
        refine zo_iload_n (p' := 28) (zi_40 rfl) rfl rfl ?_
        obtain ⟨q12, h0, g25⟩ := zb_of g24
        subst h0
        obtain ⟨x13, hx14, g26⟩ := zb_of g25
        refine zo_iald (p' := 29) (zi_40 rfl) rfl hx14 ?_
        refine zo_aload_n (p' := 30) (zi_40 rfl) rfl rfl ?_
        obtain ⟨r15, hx16, g27⟩ := zb_of g26
        refine zo_getR (p' := 33) (zi_40 rfl) rfl zl_9_18 hx16 ?_
        refine zo_iload_n (p' := 34) (zi_40 rfl) rfl rfl ?_
        refine zo_iload_n (p' := 35) (zi_40 rfl) rfl rfl ?_
        refine zo_isub (p' := 36) (zi_40 rfl) rfl ?_
        obtain ⟨q17, h0, g28⟩ := zb_of g27
        subst h0
        obtain ⟨x18, hx19, g29⟩ := zb_of g28
        refine zo_iald (p' := 37) (zi_40 rfl) rfl hx19 ?_
        refine zo_iadd (p' := 38) (zi_40 rfl) rfl ?_
        refine zo_goto (p' := 42) (zi_40 rfl) rfl ?_
        cases g29
        exact zo_iret (zi_40 rfl) rfl ⟨rfl, rfl⟩
  · rw [if_neg hok] at h; cases h
/-- SlateHalves$Valuer.fillBest(I)V -/
def f_35_57 (r14 : ZMem → Nat → Int32 → Int32 → Option (ZMem)) : Nat → ZMem → Nat → Int32 → Int32 → Int32 → Int32 → Int32 → Option (ZMem)
  | 0, _, _, _, _, _, _, _ => none
  | z + 1, M, o, b1, b2, b3, b4, b5 => if b4 < b5 then (zb (zgr M 9 1 o) fun r44 => zb (zgr M 9 0 o) fun r46 => zb r46 fun q48 => zb (zgi M 2 3 q48) fun x49 => zb (f_40 M o b2 x49) fun x51 => zb (f_24 M b3 x51) fun x53 => zb r44 fun q55 => zb (zsa M 20 q55 b2 x53) fun M56 => r14 M56 o b1 ((b2 + 1))) else (zb (f_40 M o b2 b5) fun x58 => zb (f_24 M b3 x58) fun x60 => f_35_57 r14 z M o b1 b2 x60 b4 ((b5 + 1)))
def f_35_14 : Nat → ZMem → Nat → Int32 → Int32 → Option (ZMem)
  | 0, _, _, _, _ => none
  | z + 1, M, o, b1, b2 => if b1 < b2 then (some M) else (zb (f_33 M o b2) fun x13 => zb (zgr M 9 1 o) fun r15 => zb r15 fun q17 => zb (zai M q17 (b2 - 1)) fun x18 => zb (f_24 M x13 x18) fun x20 => zb (zgr M 9 0 o) fun r22 => zb r22 fun q24 => zb (f_38 M q24 b2) fun x25 => zb (zgr M 9 0 o) fun r27 => zb r27 fun q29 => zb (f_39 M q29 b2) fun x30 => f_35_57 (fun M a0 a1 a2 => f_35_14 z M a0 a1 a2) zF M o b1 b2 x20 x25 x30)
set_option maxRecDepth 4000 in
theorem k_35_57 (d : Nat) (r14 : ZMem → Nat → Int32 → Int32 → Option (ZMem)) (h14 : ∀ (M : ZMem) (a0 : Nat) (a1 : Int32) (a2 : Int32) (out : ZMem), r14 M a0 a1 a2 = some out → zgo none (d + 2) 35 14 [(0, zrf (some a0)), (2, .int a1), (3, .int a2)] [] M (none, out)) : ∀ (z : Nat) (M : ZMem) (o : Nat) (b1 : Int32) (b2 : Int32) (b3 : Int32) (b4 : Int32) (b5 : Int32) (out : ZMem), f_35_57 r14 z M o b1 b2 b3 b4 b5 = some out → zgo none (d + 2) 35 57 [(0, zrf (some o)), (2, .int b1), (3, .int b2), (4, .int b3), (5, .int b4), (6, .int b5)] [] M (none, out) := by
  intro z
  induction z with
  | zero => intro M o b1 b2 b3 b4 b5 out h; cases h
  | succ z ih =>
    intro M o b1 b2 b3 b4 b5 out h
    rw [f_35_57] at h
    refine zo_iload (p' := 59) (zi_35 rfl) rfl rfl ?_
    refine zo_iload (p' := 61) (zi_35 rfl) rfl rfl ?_
    by_cases hc43 : b4 < b5
    · rw [if_pos hc43] at h
      refine zo_icT (p' := 84) (zi_35 rfl) rfl hc43 ?_
      refine zo_aload_n (p' := 85) (zi_35 rfl) rfl rfl ?_
      obtain ⟨r44, hx45, g62⟩ := zb_of h
      refine zo_getR (p' := 88) (zi_35 rfl) rfl zl_9_18 hx45 ?_
      refine zo_iload_n (p' := 89) (zi_35 rfl) rfl rfl ?_
      refine zo_iload (p' := 91) (zi_35 rfl) rfl rfl ?_
      refine zo_aload_n (p' := 92) (zi_35 rfl) rfl rfl ?_
      refine zo_iload_n (p' := 93) (zi_35 rfl) rfl rfl ?_
      refine zo_aload_n (p' := 94) (zi_35 rfl) rfl rfl ?_
      obtain ⟨r46, hx47, g63⟩ := zb_of g62
      refine zo_getR (p' := 97) (zi_35 rfl) rfl zl_9_12 hx47 ?_
      obtain ⟨q48, h0, g64⟩ := zb_of g63
      subst h0
      obtain ⟨x49, hx50, g65⟩ := zb_of g64
      refine zo_getI (p' := 100) (zi_35 rfl) rfl zl_9_102 hx50 ?_
      obtain ⟨x51, hx52, g66⟩ := zb_of g65
      refine zo_callVi (p' := 103) (t := 9) (as := [.int b2, .int x49]) (r := [.int b3, .int b2, zrf r44]) (zi_35 rfl) rfl zl_9_99 rfl rfl (Or.inl ⟨by decide, rfl⟩) (by simp [zrf_cat, zcat_i, zcat_l, zcat_r]) (Nat.le_of_ble_eq_true rfl) (f_40_ok hx52) (k_40 _ hx52) ?_
      obtain ⟨x53, hx54, g67⟩ := zb_of g66
      refine zo_callSi (p' := 106) (as := [.int b3, .int x51]) (r := [.int b2, zrf r44]) (zi_35 rfl) rfl (Or.inl zl_9_90) rfl rfl (by simp [zrf_cat, zcat_i, zcat_l, zcat_r]) (Nat.le_of_ble_eq_true rfl) (k_24 _ hx54) ?_
      obtain ⟨q55, h0, g68⟩ := zb_of g67
      subst h0
      obtain ⟨M56, hx57, g69⟩ := zb_of g68
      refine zo_iast (p' := 107) (zi_35 rfl) rfl hx57 ?_
      refine zo_iinc (p' := 110) (v := (b2 + 1)) (L' := [(0, zrf (some o)), (2, .int b1), (3, .int ((b2 + 1))), (4, .int b3), (5, .int b4), (6, .int b5)]) (zi_35 rfl) rfl zm_35_3 rfl rfl ⟨Or.inr ⟨by decide, rfl, fun q => absurd q (by decide)⟩, ⟨Or.inr ⟨by decide, rfl, fun _ => rfl⟩, ⟨Or.inl ⟨rfl, rfl⟩, ⟨Or.inr ⟨by decide, rfl, fun q => absurd q (by decide)⟩, ⟨Or.inr ⟨by decide, rfl, fun q => absurd q (by decide)⟩, ⟨Or.inr ⟨by decide, rfl, fun q => absurd q (by decide)⟩, trivial⟩⟩⟩⟩⟩⟩ ?_
      refine zo_goto (p' := 14) (zi_35 rfl) rfl ?_
      refine zgo_sub (L' := [(0, zrf (some o)), (2, .int b1), (3, .int (((b2 + 1))))]) (⟨rfl, rfl, rfl, trivial⟩) ?_
      exact h14 M56 o b1 ((b2 + 1)) _ g69
    · rw [if_neg hc43] at h
      refine zo_icF (p' := 64) (zi_35 rfl) rfl rfl hc43 ?_
      refine zo_iload (p' := 66) (zi_35 rfl) rfl rfl ?_
      refine zo_aload_n (p' := 67) (zi_35 rfl) rfl rfl ?_
      refine zo_iload_n (p' := 68) (zi_35 rfl) rfl rfl ?_
      refine zo_iload (p' := 70) (zi_35 rfl) rfl rfl ?_
      obtain ⟨x58, hx59, g70⟩ := zb_of h
      refine zo_callVi (p' := 73) (t := 9) (as := [.int b2, .int b5]) (r := [.int b3]) (zi_35 rfl) rfl zl_9_99 rfl rfl (Or.inl ⟨by decide, rfl⟩) (Nat.le_of_ble_eq_true rfl) (Nat.le_of_ble_eq_true rfl) (f_40_ok hx59) (k_40 _ hx59) ?_
      obtain ⟨x60, hx61, g71⟩ := zb_of g70
      refine zo_callSi (p' := 76) (as := [.int b3, .int x58]) (r := []) (zi_35 rfl) rfl (Or.inl zl_9_90) rfl rfl (Nat.le_of_ble_eq_true rfl) (Nat.le_of_ble_eq_true rfl) (k_24 _ hx61) ?_
      refine zo_istore (p' := 78) (L' := [(0, zrf (some o)), (2, .int b1), (3, .int b2), (4, .int x60), (5, .int b4), (6, .int b5)]) (zi_35 rfl) rfl zm_35_4 ⟨Or.inr ⟨by decide, rfl, fun q => absurd q (by decide)⟩, ⟨Or.inr ⟨by decide, rfl, fun q => absurd q (by decide)⟩, ⟨Or.inr ⟨by decide, rfl, fun _ => rfl⟩, ⟨Or.inl ⟨rfl, rfl⟩, ⟨Or.inr ⟨by decide, rfl, fun q => absurd q (by decide)⟩, ⟨Or.inr ⟨by decide, rfl, fun q => absurd q (by decide)⟩, trivial⟩⟩⟩⟩⟩⟩ ?_
      refine zo_iinc (p' := 81) (v := (b5 + 1)) (L' := [(0, zrf (some o)), (2, .int b1), (3, .int b2), (4, .int x60), (5, .int b4), (6, .int ((b5 + 1)))]) (zi_35 rfl) rfl zm_35_6 rfl rfl ⟨Or.inr ⟨by decide, rfl, fun q => absurd q (by decide)⟩, ⟨Or.inr ⟨by decide, rfl, fun q => absurd q (by decide)⟩, ⟨Or.inr ⟨by decide, rfl, fun q => absurd q (by decide)⟩, ⟨Or.inr ⟨by decide, rfl, fun q => absurd q (by decide)⟩, ⟨Or.inr ⟨by decide, rfl, fun _ => rfl⟩, ⟨Or.inl ⟨rfl, rfl⟩, trivial⟩⟩⟩⟩⟩⟩ ?_
      refine zo_goto (p' := 57) (zi_35 rfl) rfl ?_
      refine zgo_sub (L' := [(0, zrf (some o)), (2, .int b1), (3, .int b2), (4, .int x60), (5, .int b4), (6, .int (((b5 + 1))))]) (⟨rfl, rfl, rfl, rfl, rfl, rfl, trivial⟩) ?_
      exact ih M o b1 b2 x60 b4 ((b5 + 1)) _ g71
set_option maxRecDepth 4000 in
theorem k_35_14 (d : Nat) : ∀ (z : Nat) (M : ZMem) (o : Nat) (b1 : Int32) (b2 : Int32) (out : ZMem), f_35_14 z M o b1 b2 = some out → zgo none (d + 2) 35 14 [(0, zrf (some o)), (2, .int b1), (3, .int b2)] [] M (none, out) := by
  intro z
  induction z with
  | zero => intro M o b1 b2 out h; cases h
  | succ z ih =>
    intro M o b1 b2 out h
    rw [f_35_14] at h
    refine zo_iload_n (p' := 15) (zi_35 rfl) rfl rfl ?_
    refine zo_iload_n (p' := 16) (zi_35 rfl) rfl rfl ?_
    by_cases hc12 : b1 < b2
    · rw [if_pos hc12] at h
      refine zo_icT (p' := 113) (zi_35 rfl) rfl hc12 ?_
      cases h
      exact zo_vret (zi_35 rfl) rfl
    · rw [if_neg hc12] at h
      refine zo_icF (p' := 19) (zi_35 rfl) rfl rfl hc12 ?_
      refine zo_aload_n (p' := 20) (zi_35 rfl) rfl rfl ?_
      refine zo_iload_n (p' := 21) (zi_35 rfl) rfl rfl ?_
      obtain ⟨x13, hx14, g32⟩ := zb_of h
      refine zo_callVi (p' := 24) (t := 9) (as := [.int b2]) (r := []) (zi_35 rfl) rfl zl_9_74 rfl rfl (Or.inl ⟨by decide, rfl⟩) (Nat.le_of_ble_eq_true rfl) (Nat.le_of_ble_eq_true rfl) (f_33_ok hx14) (k_33 _ hx14) ?_
      refine zo_aload_n (p' := 25) (zi_35 rfl) rfl rfl ?_
      obtain ⟨r15, hx16, g33⟩ := zb_of g32
      refine zo_getR (p' := 28) (zi_35 rfl) rfl zl_9_18 hx16 ?_
      refine zo_iload_n (p' := 29) (zi_35 rfl) rfl rfl ?_
      refine zo_iconst (p' := 30) (v := 1) (zi_35 rfl) rfl rfl ?_
      refine zo_isub (p' := 31) (zi_35 rfl) rfl ?_
      obtain ⟨q17, h0, g34⟩ := zb_of g33
      subst h0
      obtain ⟨x18, hx19, g35⟩ := zb_of g34
      refine zo_iald (p' := 32) (zi_35 rfl) rfl hx19 ?_
      obtain ⟨x20, hx21, g36⟩ := zb_of g35
      refine zo_callSi (p' := 35) (as := [.int x13, .int x18]) (r := []) (zi_35 rfl) rfl (Or.inl zl_9_90) rfl rfl (Nat.le_of_ble_eq_true rfl) (Nat.le_of_ble_eq_true rfl) (k_24 _ hx21) ?_
      refine zo_istore (p' := 37) (L' := [(0, zrf (some o)), (2, .int b1), (3, .int b2), (4, .int x20)]) (zi_35 rfl) rfl zm_35_4 ⟨Or.inr ⟨by decide, rfl, fun q => absurd q (by decide)⟩, ⟨Or.inr ⟨by decide, rfl, fun q => absurd q (by decide)⟩, ⟨Or.inr ⟨by decide, rfl, fun _ => rfl⟩, ⟨Or.inl ⟨rfl, rfl⟩, trivial⟩⟩⟩⟩ ?_
      refine zo_aload_n (p' := 38) (zi_35 rfl) rfl rfl ?_
      obtain ⟨r22, hx23, g37⟩ := zb_of g36
      refine zo_getR (p' := 41) (zi_35 rfl) rfl zl_9_12 hx23 ?_
      refine zo_iload_n (p' := 42) (zi_35 rfl) rfl rfl ?_
      obtain ⟨q24, h0, g38⟩ := zb_of g37
      subst h0
      obtain ⟨x25, hx26, g39⟩ := zb_of g38
      refine zo_callVi (p' := 45) (t := 2) (as := [.int b2]) (r := []) (zi_35 rfl) rfl zl_9_93 rfl rfl (Or.inl ⟨by decide, rfl⟩) (Nat.le_of_ble_eq_true rfl) (Nat.le_of_ble_eq_true rfl) (f_38_ok hx26) (k_38 _ hx26) ?_
      refine zo_istore (p' := 47) (L' := [(0, zrf (some o)), (2, .int b1), (3, .int b2), (4, .int x20), (5, .int x25)]) (zi_35 rfl) rfl zm_35_5 ⟨Or.inr ⟨by decide, rfl, fun q => absurd q (by decide)⟩, ⟨Or.inr ⟨by decide, rfl, fun q => absurd q (by decide)⟩, ⟨Or.inr ⟨by decide, rfl, fun q => absurd q (by decide)⟩, ⟨Or.inr ⟨by decide, rfl, fun _ => rfl⟩, ⟨Or.inl ⟨rfl, rfl⟩, trivial⟩⟩⟩⟩⟩ ?_
      refine zo_aload_n (p' := 48) (zi_35 rfl) rfl rfl ?_
      obtain ⟨r27, hx28, g40⟩ := zb_of g39
      refine zo_getR (p' := 51) (zi_35 rfl) rfl zl_9_12 hx28 ?_
      refine zo_iload_n (p' := 52) (zi_35 rfl) rfl rfl ?_
      obtain ⟨q29, h0, g41⟩ := zb_of g40
      subst h0
      obtain ⟨x30, hx31, g42⟩ := zb_of g41
      refine zo_callVi (p' := 55) (t := 2) (as := [.int b2]) (r := []) (zi_35 rfl) rfl zl_9_96 rfl rfl (Or.inl ⟨by decide, rfl⟩) (Nat.le_of_ble_eq_true rfl) (Nat.le_of_ble_eq_true rfl) (f_39_ok hx31) (k_39 _ hx31) ?_
      refine zo_istore (p' := 57) (L' := [(0, zrf (some o)), (2, .int b1), (3, .int b2), (4, .int x20), (5, .int x25), (6, .int x30)]) (zi_35 rfl) rfl zm_35_6 ⟨Or.inr ⟨by decide, rfl, fun q => absurd q (by decide)⟩, ⟨Or.inr ⟨by decide, rfl, fun q => absurd q (by decide)⟩, ⟨Or.inr ⟨by decide, rfl, fun q => absurd q (by decide)⟩, ⟨Or.inr ⟨by decide, rfl, fun q => absurd q (by decide)⟩, ⟨Or.inr ⟨by decide, rfl, fun _ => rfl⟩, ⟨Or.inl ⟨rfl, rfl⟩, trivial⟩⟩⟩⟩⟩⟩ ?_
      refine zgo_sub (L' := [(0, zrf (some o)), (2, .int b1), (3, .int b2), (4, .int x20), (5, .int x25), (6, .int x30)]) (⟨rfl, rfl, rfl, rfl, rfl, rfl, trivial⟩) ?_
      exact k_35_57 _ _ (fun M a0 a1 a2 out h => ih M a0 a1 a2 out h) zF M o b1 b2 x20 x25 x30 _ g42
def f_35 (M : ZMem) (o : Nat) (a0 : Int32) : Option (ZMem) := if zok M 9 o = true then (zb (f_36 M a0) fun x1 => zb (zgr M 9 1 o) fun r3 => zb r3 fun q5 => zb (zsa M 20 q5 0 0) fun M6 => f_35_14 zF M6 o x1 1) else none
theorem f_35_ok {M : ZMem} {o : Nat} {a0 : Int32} {out : ZMem} (h : f_35 M o a0 = some out) : zok M 9 o = true := by
  unfold f_35 at h
  by_cases hok : zok M 9 o = true
  · exact hok
  · rw [if_neg hok] at h; cases h
set_option maxRecDepth 4000 in
theorem k_35 (d : Nat) {M : ZMem} {o : Nat} {a0 : Int32} {out : ZMem} (h : f_35 M o a0 = some out) : zrn (d + 2) 35 [zrf (some o), .int a0] M (none, out) := by
  unfold f_35 at h
  by_cases hok : zok M 9 o = true
  · rw [if_pos hok] at h
    refine zrn_of (L := [(0, zrf (some o)), (1, .int a0)]) rfl ?_
    refine zo_iload_n (p' := 1) (zi_35 rfl) rfl rfl ?_
    obtain ⟨x1, hx2, g8⟩ := zb_of h
    refine zo_callSi (p' := 4) (as := [.int a0]) (r := []) (zi_35 rfl) rfl (Or.inl zl_9_67) rfl rfl (Nat.le_of_ble_eq_true rfl) (Nat.le_of_ble_eq_true rfl) (k_36 _ hx2) ?_
    refine zo_istore_n (p' := 5) (L' := [(0, zrf (some o)), (1, .int a0), (2, .int x1)]) (zi_35 rfl) rfl zm_35_2 ⟨Or.inr ⟨by decide, rfl, fun q => absurd q (by decide)⟩, ⟨Or.inr ⟨by decide, rfl, fun _ => rfl⟩, ⟨Or.inl ⟨rfl, rfl⟩, trivial⟩⟩⟩ ?_
    refine zo_aload_n (p' := 6) (zi_35 rfl) rfl rfl ?_
    obtain ⟨r3, hx4, g9⟩ := zb_of g8
    refine zo_getR (p' := 9) (zi_35 rfl) rfl zl_9_18 hx4 ?_
    refine zo_iconst (p' := 10) (v := 0) (zi_35 rfl) rfl rfl ?_
    refine zo_iconst (p' := 11) (v := 0) (zi_35 rfl) rfl rfl ?_
    obtain ⟨q5, h0, g10⟩ := zb_of g9
    subst h0
    obtain ⟨M6, hx7, g11⟩ := zb_of g10
    refine zo_iast (p' := 12) (zi_35 rfl) rfl hx7 ?_
    refine zo_iconst (p' := 13) (v := 1) (zi_35 rfl) rfl rfl ?_
    refine zo_istore_n (p' := 14) (L' := [(0, zrf (some o)), (1, .int a0), (2, .int x1), (3, .int 1)]) (zi_35 rfl) rfl zm_35_3 ⟨Or.inr ⟨by decide, rfl, fun q => absurd q (by decide)⟩, ⟨Or.inr ⟨by decide, rfl, fun q => absurd q (by decide)⟩, ⟨Or.inr ⟨by decide, rfl, fun _ => rfl⟩, ⟨Or.inl ⟨rfl, rfl⟩, trivial⟩⟩⟩⟩ ?_
    refine zgo_sub (L' := [(0, zrf (some o)), (2, .int x1), (3, .int 1)]) (⟨rfl, rfl, rfl, trivial⟩) ?_
    exact k_35_14 _ zF M6 o x1 1 _ g11
  · rw [if_neg hok] at h; cases h
/-- SlateHalves$Valuer.bestOf(I)I -/
def f_34 (M : ZMem) (o : Nat) (a0 : Int32) : Option (Int32 × ZMem) := if zok M 9 o = true then (zb (f_35 M o a0) fun M3 => zb (zgr M3 9 1 o) fun r4 => zb (f_36 M3 a0) fun x6 => zb r4 fun q8 => zb (zai M3 q8 x6) fun x9 => some (x9, M3)) else none
theorem f_34_ok {M : ZMem} {o : Nat} {a0 : Int32} {out : Int32 × ZMem} (h : f_34 M o a0 = some out) : zok M 9 o = true := by
  unfold f_34 at h
  by_cases hok : zok M 9 o = true
  · exact hok
  · rw [if_neg hok] at h; cases h
set_option maxRecDepth 4000 in
theorem k_34 (d : Nat) {M : ZMem} {o : Nat} {a0 : Int32} {out : Int32 × ZMem} (h : f_34 M o a0 = some out) : zrn (d + 3) 34 [zrf (some o), .int a0] M (some (.int out.1), out.2) := by
  unfold f_34 at h
  by_cases hok : zok M 9 o = true
  · rw [if_pos hok] at h
    refine zrn_of (L := [(0, zrf (some o)), (1, .int a0)]) rfl ?_
    refine zo_aload_n (p' := 1) (zi_34 rfl) rfl rfl ?_
    refine zo_iload_n (p' := 2) (zi_34 rfl) rfl rfl ?_
    obtain ⟨M3, hx2, g11⟩ := zb_of h
    refine zo_callVv (p' := 5) (t := 9) (as := [.int a0]) (r := []) (zi_34 rfl) rfl zl_9_63 rfl rfl (Or.inl ⟨by decide, rfl⟩) (Nat.le_of_ble_eq_true rfl) (Nat.le_of_ble_eq_true rfl) (f_35_ok hx2) (k_35 _ hx2) ?_
    refine zo_aload_n (p' := 6) (zi_34 rfl) rfl rfl ?_
    obtain ⟨r4, hx5, g12⟩ := zb_of g11
    refine zo_getR (p' := 9) (zi_34 rfl) rfl zl_9_18 hx5 ?_
    refine zo_iload_n (p' := 10) (zi_34 rfl) rfl rfl ?_
    obtain ⟨x6, hx7, g13⟩ := zb_of g12
    refine zo_callSi (p' := 13) (as := [.int a0]) (r := [zrf r4]) (zi_34 rfl) rfl (Or.inl zl_9_67) rfl rfl (by simp [zrf_cat, zcat_i, zcat_l, zcat_r]) (Nat.le_of_ble_eq_true rfl) (k_36 _ hx7) ?_
    obtain ⟨q8, h0, g14⟩ := zb_of g13
    subst h0
    obtain ⟨x9, hx10, g15⟩ := zb_of g14
    refine zo_iald (p' := 14) (zi_34 rfl) rfl hx10 ?_
    cases g15
    exact zo_iret (zi_34 rfl) rfl ⟨rfl, rfl⟩
  · rw [if_neg hok] at h; cases h
/-- SlateHalves$Valuer.behind([III)I -/
def f_44 (M : ZMem) (o : Nat) (a0 : Option Nat) (a1 : Int32) (a2 : Int32) : Option (Int32) := if zok M 9 o = true then (zb a0 fun q1 => zb (zlen none M q1) fun x2 => if x2 ≤ a1 then (some 0) else (zb (f_14 M a2 1 ((a1 - 1))) fun x5 => if ¬ x5 = 0 then (zb (zgr M 9 0 o) fun r8 => zb r8 fun q10 => zb (f_41 M q10 a1 a2) fun x11 => if x11 = 0 then (zb (f_24 M a2 ((a1 - a2))) fun x14 => zb (zai M q1 x14) fun x16 => some x16) else (zb (zai M q1 a2) fun x18 => zb (zai M q1 (a1 - a2)) fun x20 => some (x18 + x20))) else (some 0))) else none
theorem f_44_ok {M : ZMem} {o : Nat} {a0 : Option Nat} {a1 : Int32} {a2 : Int32} {out : Int32} (h : f_44 M o a0 a1 a2 = some out) : zok M 9 o = true := by
  unfold f_44 at h
  by_cases hok : zok M 9 o = true
  · exact hok
  · rw [if_neg hok] at h; cases h
set_option maxRecDepth 4000 in
theorem k_44 (d : Nat) {M : ZMem} {o : Nat} {a0 : Option Nat} {a1 : Int32} {a2 : Int32} {out : Int32} (h : f_44 M o a0 a1 a2 = some out) : zrn (d + 1) 44 [zrf (some o), zrf a0, .int a1, .int a2] M (some (.int out), M) := by
  unfold f_44 at h
  by_cases hok : zok M 9 o = true
  · rw [if_pos hok] at h
    refine zrn_of (L := [(0, zrf (some o)), (1, zrf a0), (2, .int a1), (3, .int a2)]) (by simp [lv_args, zrf_cat, zcat_i, zcat_l, zcat_r]) ?_
    refine zo_iload_n (p' := 1) (zi_44 rfl) rfl rfl ?_
    refine zo_aload_n (p' := 2) (zi_44 rfl) rfl rfl ?_
    obtain ⟨q1, h0, g22⟩ := zb_of h
    subst h0
    obtain ⟨x2, hx3, g23⟩ := zb_of g22
    refine zo_alen (p' := 3) (zi_44 rfl) rfl hx3 ?_
    by_cases hc4 : x2 ≤ a1
    · rw [if_pos hc4] at g23
      refine zo_icT (p' := 17) (zi_44 rfl) rfl hc4 ?_
      refine zo_iconst (p' := 18) (v := 0) (zi_44 rfl) rfl rfl ?_
      cases g23
      exact zo_iret (zi_44 rfl) rfl ⟨rfl, rfl⟩
    · rw [if_neg hc4] at g23
      refine zo_icF (p' := 6) (zi_44 rfl) rfl rfl hc4 ?_
      refine zo_iload_n (p' := 7) (zi_44 rfl) rfl rfl ?_
      refine zo_iconst (p' := 8) (v := 1) (zi_44 rfl) rfl rfl ?_
      refine zo_iload_n (p' := 9) (zi_44 rfl) rfl rfl ?_
      refine zo_iconst (p' := 10) (v := 1) (zi_44 rfl) rfl rfl ?_
      refine zo_isub (p' := 11) (zi_44 rfl) rfl ?_
      obtain ⟨x5, hx6, g24⟩ := zb_of g23
      refine zo_callSi (p' := 14) (as := [.int a2, .int 1, .int ((a1 - 1))]) (r := []) (zi_44 rfl) rfl (Or.inr zl_9_105) rfl rfl (Nat.le_of_ble_eq_true rfl) (Nat.le_of_ble_eq_true rfl) (k_14 _ hx6) ?_
      by_cases hc7 : ¬ x5 = 0
      · rw [if_pos hc7] at g24
        refine zo_ifT (p' := 19) (zi_44 rfl) rfl hc7 ?_
        refine zo_aload_n (p' := 20) (zi_44 rfl) rfl rfl ?_
        obtain ⟨r8, hx9, g25⟩ := zb_of g24
        refine zo_getR (p' := 23) (zi_44 rfl) rfl zl_9_12 hx9 ?_
        refine zo_iload_n (p' := 24) (zi_44 rfl) rfl rfl ?_
        refine zo_iload_n (p' := 25) (zi_44 rfl) rfl rfl ?_
        obtain ⟨q10, h0, g26⟩ := zb_of g25
        subst h0
        obtain ⟨x11, hx12, g27⟩ := zb_of g26
        refine zo_callVi (p' := 28) (t := 2) (as := [.int a1, .int a2]) (r := []) (zi_44 rfl) rfl zl_9_109 rfl rfl (Or.inl ⟨by decide, rfl⟩) (Nat.le_of_ble_eq_true rfl) (Nat.le_of_ble_eq_true rfl) (f_41_ok hx12) (k_41 _ hx12) ?_
        by_cases hc13 : x11 = 0
        · rw [if_pos hc13] at g27
          refine zo_ifT (p' := 43) (zi_44 rfl) rfl hc13 ?_
          refine zo_aload_n (p' := 44) (zi_44 rfl) rfl rfl ?_
          refine zo_iload_n (p' := 45) (zi_44 rfl) rfl rfl ?_
          refine zo_iload_n (p' := 46) (zi_44 rfl) rfl rfl ?_
          refine zo_iload_n (p' := 47) (zi_44 rfl) rfl rfl ?_
          refine zo_isub (p' := 48) (zi_44 rfl) rfl ?_
          obtain ⟨x14, hx15, g28⟩ := zb_of g27
          refine zo_callSi (p' := 51) (as := [.int a2, .int ((a1 - a2))]) (r := [zrf (some q1)]) (zi_44 rfl) rfl (Or.inl zl_9_90) rfl rfl (Nat.le_of_ble_eq_true rfl) (Nat.le_of_ble_eq_true rfl) (k_24 _ hx15) ?_
          obtain ⟨x16, hx17, g29⟩ := zb_of g28
          refine zo_iald (p' := 52) (zi_44 rfl) rfl hx17 ?_
          cases g29
          exact zo_iret (zi_44 rfl) rfl ⟨rfl, rfl⟩
        · rw [if_neg hc13] at g27
          refine zo_ifF (p' := 31) (zi_44 rfl) rfl rfl hc13 ?_
          refine zo_aload_n (p' := 32) (zi_44 rfl) rfl rfl ?_
          refine zo_iload_n (p' := 33) (zi_44 rfl) rfl rfl ?_
          obtain ⟨x18, hx19, g30⟩ := zb_of g27
          refine zo_iald (p' := 34) (zi_44 rfl) rfl hx19 ?_
          refine zo_aload_n (p' := 35) (zi_44 rfl) rfl rfl ?_
          refine zo_iload_n (p' := 36) (zi_44 rfl) rfl rfl ?_
          refine zo_iload_n (p' := 37) (zi_44 rfl) rfl rfl ?_
          refine zo_isub (p' := 38) (zi_44 rfl) rfl ?_
          obtain ⟨x20, hx21, g31⟩ := zb_of g30
          refine zo_iald (p' := 39) (zi_44 rfl) rfl hx21 ?_
          refine zo_iadd (p' := 40) (zi_44 rfl) rfl ?_
          refine zo_goto (p' := 52) (zi_44 rfl) rfl ?_
          cases g31
          exact zo_iret (zi_44 rfl) rfl ⟨rfl, rfl⟩
      · rw [if_neg hc7] at g24
        refine zo_ifF (p' := 17) (zi_44 rfl) rfl rfl hc7 ?_
        refine zo_iconst (p' := 18) (v := 0) (zi_44 rfl) rfl rfl ?_
        cases g24
        exact zo_iret (zi_44 rfl) rfl ⟨rfl, rfl⟩
  · rw [if_neg hok] at h; cases h
/-- SlateHalves$Valuer.fewestBehind(I)I -/
def f_43_46 (r5 : ZMem → Nat → Int32 → Int32 → Int32 → Option (Int32)) (M : ZMem) (o : Nat) (b1 : Int32) (b2 : Int32) (b3 : Int32) : Option (Int32) := r5 M o b1 b2 ((b3 + 1))
def f_43_5 : Nat → ZMem → Nat → Int32 → Int32 → Int32 → Option (Int32)
  | 0, _, _, _, _, _ => none
  | z + 1, M, o, b1, b2, b3 => if b1 ≤ b3 then (some b2) else (zb (zgr M 9 1 o) fun r2 => zb (f_44 M o r2 b1 b3) fun x4 => zb (zgr M 9 1 o) fun r6 => zb r6 fun q8 => zb (zai M q8 b1) fun x9 => if ¬ x4 = x9 then (f_43_46 (fun M a0 a1 a2 a3 => f_43_5 z M a0 a1 a2 a3) M o b1 b2 b3) else (zb (zgr M 9 2 o) fun r12 => zb (f_44 M o r12 b1 b3) fun x14 => zb (f_37 M b2 ((1 + x14))) fun x16 => f_43_46 (fun M a0 a1 a2 a3 => f_43_5 z M a0 a1 a2 a3) M o b1 x16 b3))
set_option maxRecDepth 4000 in
theorem k_43_46 (d : Nat) (r5 : ZMem → Nat → Int32 → Int32 → Int32 → Option (Int32)) (h5 : ∀ (M : ZMem) (a0 : Nat) (a1 : Int32) (a2 : Int32) (a3 : Int32) (out : Int32), r5 M a0 a1 a2 a3 = some out → zgo none (d + 2) 43 5 [(0, zrf (some a0)), (1, .int a1), (2, .int a2), (3, .int a3)] [] M (some (.int out), M)) : ∀ (M : ZMem) (o : Nat) (b1 : Int32) (b2 : Int32) (b3 : Int32) (out : Int32), f_43_46 r5 M o b1 b2 b3 = some out → zgo none (d + 2) 43 46 [(0, zrf (some o)), (1, .int b1), (2, .int b2), (3, .int b3)] [] M (some (.int out), M) := by
  intro M o b1 b2 b3 out h
  unfold f_43_46 at h
  refine zo_iinc (p' := 49) (v := (b3 + 1)) (L' := [(0, zrf (some o)), (1, .int b1), (2, .int b2), (3, .int ((b3 + 1)))]) (zi_43 rfl) rfl zm_43_3 rfl rfl ⟨Or.inr ⟨by decide, rfl, fun q => absurd q (by decide)⟩, ⟨Or.inr ⟨by decide, rfl, fun q => absurd q (by decide)⟩, ⟨Or.inr ⟨by decide, rfl, fun _ => rfl⟩, ⟨Or.inl ⟨rfl, rfl⟩, trivial⟩⟩⟩⟩ ?_
  refine zo_goto (p' := 5) (zi_43 rfl) rfl ?_
  refine zgo_sub (L' := [(0, zrf (some o)), (1, .int b1), (2, .int b2), (3, .int (((b3 + 1))))]) (⟨rfl, rfl, rfl, rfl, trivial⟩) ?_
  exact h5 M o b1 b2 ((b3 + 1)) _ h
set_option maxRecDepth 4000 in
theorem k_43_5 (d : Nat) : ∀ (z : Nat) (M : ZMem) (o : Nat) (b1 : Int32) (b2 : Int32) (b3 : Int32) (out : Int32), f_43_5 z M o b1 b2 b3 = some out → zgo none (d + 2) 43 5 [(0, zrf (some o)), (1, .int b1), (2, .int b2), (3, .int b3)] [] M (some (.int out), M) := by
  intro z
  induction z with
  | zero => intro M o b1 b2 b3 out h; cases h
  | succ z ih =>
    intro M o b1 b2 b3 out h
    rw [f_43_5] at h
    refine zo_iload_n (p' := 6) (zi_43 rfl) rfl rfl ?_
    refine zo_iload_n (p' := 7) (zi_43 rfl) rfl rfl ?_
    by_cases hc1 : b1 ≤ b3
    · rw [if_pos hc1] at h
      refine zo_icT (p' := 52) (zi_43 rfl) rfl hc1 ?_
      refine zo_iload_n (p' := 53) (zi_43 rfl) rfl rfl ?_
      cases h
      exact zo_iret (zi_43 rfl) rfl ⟨rfl, rfl⟩
    · rw [if_neg hc1] at h
      refine zo_icF (p' := 10) (zi_43 rfl) rfl rfl hc1 ?_
      refine zo_aload_n (p' := 11) (zi_43 rfl) rfl rfl ?_
      refine zo_aload_n (p' := 12) (zi_43 rfl) rfl rfl ?_
      obtain ⟨r2, hx3, g18⟩ := zb_of h
      refine zo_getR (p' := 15) (zi_43 rfl) rfl zl_9_18 hx3 ?_
      refine zo_iload_n (p' := 16) (zi_43 rfl) rfl rfl ?_
      refine zo_iload_n (p' := 17) (zi_43 rfl) rfl rfl ?_
      obtain ⟨x4, hx5, g19⟩ := zb_of g18
      refine zo_callVi (p' := 20) (t := 9) (as := [zrf r2, .int b1, .int b3]) (r := []) (zi_43 rfl) rfl zl_9_80 rfl rfl (Or.inl ⟨by decide, rfl⟩) (Nat.le_of_ble_eq_true rfl) (by rw [zml_44]; simp [lg_sl, zrf_cat, zcat_i, zcat_l, zcat_r]; done) (f_44_ok hx5) (k_44 _ hx5) ?_
      refine zo_aload_n (p' := 21) (zi_43 rfl) rfl rfl ?_
      obtain ⟨r6, hx7, g20⟩ := zb_of g19
      refine zo_getR (p' := 24) (zi_43 rfl) rfl zl_9_18 hx7 ?_
      refine zo_iload_n (p' := 25) (zi_43 rfl) rfl rfl ?_
      obtain ⟨q8, h0, g21⟩ := zb_of g20
      subst h0
      obtain ⟨x9, hx10, g22⟩ := zb_of g21
      refine zo_iald (p' := 26) (zi_43 rfl) rfl hx10 ?_
      by_cases hc11 : ¬ x4 = x9
      · rw [if_pos hc11] at g22
        refine zo_icT (p' := 46) (zi_43 rfl) rfl hc11 ?_
        refine zgo_sub (L' := [(0, zrf (some o)), (1, .int b1), (2, .int b2), (3, .int b3)]) (⟨rfl, rfl, rfl, rfl, trivial⟩) ?_
        exact k_43_46 _ _ (fun M a0 a1 a2 a3 out h => ih M a0 a1 a2 a3 out h) M o b1 b2 b3 _ g22
      · rw [if_neg hc11] at g22
        refine zo_icF (p' := 29) (zi_43 rfl) rfl rfl hc11 ?_
        refine zo_iload_n (p' := 30) (zi_43 rfl) rfl rfl ?_
        refine zo_iconst (p' := 31) (v := 1) (zi_43 rfl) rfl rfl ?_
        refine zo_aload_n (p' := 32) (zi_43 rfl) rfl rfl ?_
        refine zo_aload_n (p' := 33) (zi_43 rfl) rfl rfl ?_
        obtain ⟨r12, hx13, g23⟩ := zb_of g22
        refine zo_getR (p' := 36) (zi_43 rfl) rfl zl_9_22 hx13 ?_
        refine zo_iload_n (p' := 37) (zi_43 rfl) rfl rfl ?_
        refine zo_iload_n (p' := 38) (zi_43 rfl) rfl rfl ?_
        obtain ⟨x14, hx15, g24⟩ := zb_of g23
        refine zo_callVi (p' := 41) (t := 9) (as := [zrf r12, .int b1, .int b3]) (r := [.int 1, .int b2]) (zi_43 rfl) rfl zl_9_80 rfl rfl (Or.inl ⟨by decide, rfl⟩) (Nat.le_of_ble_eq_true rfl) (by rw [zml_44]; simp [lg_sl, zrf_cat, zcat_i, zcat_l, zcat_r]; done) (f_44_ok hx15) (k_44 _ hx15) ?_
        refine zo_iadd (p' := 42) (zi_43 rfl) rfl ?_
        obtain ⟨x16, hx17, g25⟩ := zb_of g24
        refine zo_callSi (p' := 45) (as := [.int b2, .int ((1 + x14))]) (r := []) (zi_43 rfl) rfl (Or.inl zl_9_84) rfl rfl (Nat.le_of_ble_eq_true rfl) (Nat.le_of_ble_eq_true rfl) (k_37 _ hx17) ?_
        refine zo_istore_n (p' := 46) (L' := [(0, zrf (some o)), (1, .int b1), (2, .int x16), (3, .int b3)]) (zi_43 rfl) rfl zm_43_2 ⟨Or.inr ⟨by decide, rfl, fun q => absurd q (by decide)⟩, ⟨Or.inr ⟨by decide, rfl, fun _ => rfl⟩, ⟨Or.inl ⟨rfl, rfl⟩, ⟨Or.inr ⟨by decide, rfl, fun q => absurd q (by decide)⟩, trivial⟩⟩⟩⟩ ?_
        refine zgo_sub (L' := [(0, zrf (some o)), (1, .int b1), (2, .int x16), (3, .int b3)]) (⟨rfl, rfl, rfl, rfl, trivial⟩) ?_
        exact k_43_46 _ _ (fun M a0 a1 a2 a3 out h => ih M a0 a1 a2 a3 out h) M o b1 x16 b3 _ g25
def f_43 (M : ZMem) (o : Nat) (a0 : Int32) : Option (Int32) := if zok M 9 o = true then (f_43_5 zF M o a0 60 1) else none
theorem f_43_ok {M : ZMem} {o : Nat} {a0 : Int32} {out : Int32} (h : f_43 M o a0 = some out) : zok M 9 o = true := by
  unfold f_43 at h
  by_cases hok : zok M 9 o = true
  · exact hok
  · rw [if_neg hok] at h; cases h
set_option maxRecDepth 4000 in
theorem k_43 (d : Nat) {M : ZMem} {o : Nat} {a0 : Int32} {out : Int32} (h : f_43 M o a0 = some out) : zrn (d + 2) 43 [zrf (some o), .int a0] M (some (.int out), M) := by
  unfold f_43 at h
  by_cases hok : zok M 9 o = true
  · rw [if_pos hok] at h
    refine zrn_of (L := [(0, zrf (some o)), (1, .int a0)]) rfl ?_
    refine zo_bipush (p' := 2) (v := 60) (zi_43 rfl) rfl rfl ?_
    refine zo_istore_n (p' := 3) (L' := [(0, zrf (some o)), (1, .int a0), (2, .int 60)]) (zi_43 rfl) rfl zm_43_2 ⟨Or.inr ⟨by decide, rfl, fun q => absurd q (by decide)⟩, ⟨Or.inr ⟨by decide, rfl, fun _ => rfl⟩, ⟨Or.inl ⟨rfl, rfl⟩, trivial⟩⟩⟩ ?_
    refine zo_iconst (p' := 4) (v := 1) (zi_43 rfl) rfl rfl ?_
    refine zo_istore_n (p' := 5) (L' := [(0, zrf (some o)), (1, .int a0), (2, .int 60), (3, .int 1)]) (zi_43 rfl) rfl zm_43_3 ⟨Or.inr ⟨by decide, rfl, fun q => absurd q (by decide)⟩, ⟨Or.inr ⟨by decide, rfl, fun q => absurd q (by decide)⟩, ⟨Or.inr ⟨by decide, rfl, fun _ => rfl⟩, ⟨Or.inl ⟨rfl, rfl⟩, trivial⟩⟩⟩⟩ ?_
    refine zgo_sub (L' := [(0, zrf (some o)), (1, .int a0), (2, .int 60), (3, .int 1)]) (⟨rfl, rfl, rfl, rfl, trivial⟩) ?_
    exact k_43_5 _ zF M o a0 60 1 _ h
  · rw [if_neg hok] at h; cases h
/-- SlateHalves$Valuer.fewOf(I)I -/
def f_42_52 (r19 : ZMem → Nat → Int32 → Int32 → Option (Int32 × ZMem)) (M : ZMem) (o : Nat) (b1 : Int32) (b2 : Int32) (b3 : Int32) (b4 : Int32) (b5 : Option Nat) : Option (Int32 × ZMem) := zb b5 fun q43 => zb (zsa M 20 q43 b4 b3) fun M44 => r19 M44 o b1 ((b2 + 1))
def f_42_19 : Nat → ZMem → Nat → Int32 → Int32 → Option (Int32 × ZMem)
  | 0, _, _, _, _ => none
  | z + 1, M, o, b1, b2 => if b1 < b2 then (zb (zgr M 9 2 o) fun r17 => zb r17 fun q19 => zb (zai M q19 b1) fun x20 => some (x20, M)) else (zb (zgr M 9 2 o) fun r22 => zb (zgr M 9 1 o) fun r24 => zb r24 fun q26 => zb (zai M q26 b2) fun x27 => zb (f_33 M o b2) fun x29 => if ¬ x27 = x29 then (zb (f_43 M o b2) fun x32 => f_42_52 (fun M a0 a1 a2 => f_42_19 z M a0 a1 a2) M o b1 b2 x32 b2 r22) else (f_42_52 (fun M a0 a1 a2 => f_42_19 z M a0 a1 a2) M o b1 b2 0 b2 r22))
set_option maxRecDepth 4000 in
theorem k_42_52 (d : Nat) (r19 : ZMem → Nat → Int32 → Int32 → Option (Int32 × ZMem)) (h19 : ∀ (M : ZMem) (a0 : Nat) (a1 : Int32) (a2 : Int32) (out : Int32 × ZMem), r19 M a0 a1 a2 = some out → zgo none (d + 3) 42 19 [(0, zrf (some a0)), (2, .int a1), (3, .int a2)] [] M (some (.int out.1), out.2)) : ∀ (M : ZMem) (o : Nat) (b1 : Int32) (b2 : Int32) (b3 : Int32) (b4 : Int32) (b5 : Option Nat) (out : Int32 × ZMem), f_42_52 r19 M o b1 b2 b3 b4 b5 = some out → zgo none (d + 3) 42 52 [(0, zrf (some o)), (2, .int b1), (3, .int b2)] [.int b3, .int b4, zrf b5] M (some (.int out.1), out.2) := by
  intro M o b1 b2 b3 b4 b5 out h
  unfold f_42_52 at h
  obtain ⟨q43, h0, g46⟩ := zb_of h
  subst h0
  obtain ⟨M44, hx45, g47⟩ := zb_of g46
  refine zo_iast (p' := 53) (zi_42 rfl) rfl hx45 ?_
  refine zo_iinc (p' := 56) (v := (b2 + 1)) (L' := [(0, zrf (some o)), (2, .int b1), (3, .int ((b2 + 1)))]) (zi_42 rfl) rfl zm_42_3 rfl rfl ⟨Or.inr ⟨by decide, rfl, fun q => absurd q (by decide)⟩, ⟨Or.inr ⟨by decide, rfl, fun _ => rfl⟩, ⟨Or.inl ⟨rfl, rfl⟩, trivial⟩⟩⟩ ?_
  refine zo_goto (p' := 19) (zi_42 rfl) rfl ?_
  refine zgo_sub (L' := [(0, zrf (some o)), (2, .int b1), (3, .int (((b2 + 1))))]) (⟨rfl, rfl, rfl, trivial⟩) ?_
  exact h19 M44 o b1 ((b2 + 1)) _ g47
set_option maxRecDepth 4000 in
theorem k_42_19 (d : Nat) : ∀ (z : Nat) (M : ZMem) (o : Nat) (b1 : Int32) (b2 : Int32) (out : Int32 × ZMem), f_42_19 z M o b1 b2 = some out → zgo none (d + 3) 42 19 [(0, zrf (some o)), (2, .int b1), (3, .int b2)] [] M (some (.int out.1), out.2) := by
  intro z
  induction z with
  | zero => intro M o b1 b2 out h; cases h
  | succ z ih =>
    intro M o b1 b2 out h
    rw [f_42_19] at h
    refine zo_iload_n (p' := 20) (zi_42 rfl) rfl rfl ?_
    refine zo_iload_n (p' := 21) (zi_42 rfl) rfl rfl ?_
    by_cases hc16 : b1 < b2
    · rw [if_pos hc16] at h
      refine zo_icT (p' := 59) (zi_42 rfl) rfl hc16 ?_
      refine zo_aload_n (p' := 60) (zi_42 rfl) rfl rfl ?_
      obtain ⟨r17, hx18, g34⟩ := zb_of h
      refine zo_getR (p' := 63) (zi_42 rfl) rfl zl_9_22 hx18 ?_
      refine zo_iload_n (p' := 64) (zi_42 rfl) rfl rfl ?_
      obtain ⟨q19, h0, g35⟩ := zb_of g34
      subst h0
      obtain ⟨x20, hx21, g36⟩ := zb_of g35
      refine zo_iald (p' := 65) (zi_42 rfl) rfl hx21 ?_
      cases g36
      exact zo_iret (zi_42 rfl) rfl ⟨rfl, rfl⟩
    · rw [if_neg hc16] at h
      refine zo_icF (p' := 24) (zi_42 rfl) rfl rfl hc16 ?_
      refine zo_aload_n (p' := 25) (zi_42 rfl) rfl rfl ?_
      obtain ⟨r22, hx23, g37⟩ := zb_of h
      refine zo_getR (p' := 28) (zi_42 rfl) rfl zl_9_22 hx23 ?_
      refine zo_iload_n (p' := 29) (zi_42 rfl) rfl rfl ?_
      refine zo_aload_n (p' := 30) (zi_42 rfl) rfl rfl ?_
      obtain ⟨r24, hx25, g38⟩ := zb_of g37
      refine zo_getR (p' := 33) (zi_42 rfl) rfl zl_9_18 hx25 ?_
      refine zo_iload_n (p' := 34) (zi_42 rfl) rfl rfl ?_
      obtain ⟨q26, h0, g39⟩ := zb_of g38
      subst h0
      obtain ⟨x27, hx28, g40⟩ := zb_of g39
      refine zo_iald (p' := 35) (zi_42 rfl) rfl hx28 ?_
      refine zo_aload_n (p' := 36) (zi_42 rfl) rfl rfl ?_
      refine zo_iload_n (p' := 37) (zi_42 rfl) rfl rfl ?_
      obtain ⟨x29, hx30, g41⟩ := zb_of g40
      refine zo_callVi (p' := 40) (t := 9) (as := [.int b2]) (r := [.int x27, .int b2, zrf r22]) (zi_42 rfl) rfl zl_9_74 rfl rfl (Or.inl ⟨by decide, rfl⟩) (by simp [zrf_cat, zcat_i, zcat_l, zcat_r]) (Nat.le_of_ble_eq_true rfl) (f_33_ok hx30) (k_33 _ hx30) ?_
      by_cases hc31 : ¬ x27 = x29
      · rw [if_pos hc31] at g41
        refine zo_icT (p' := 47) (zi_42 rfl) rfl hc31 ?_
        refine zo_aload_n (p' := 48) (zi_42 rfl) rfl rfl ?_
        refine zo_iload_n (p' := 49) (zi_42 rfl) rfl rfl ?_
        obtain ⟨x32, hx33, g42⟩ := zb_of g41
        refine zo_callVi (p' := 52) (t := 9) (as := [.int b2]) (r := [.int b2, zrf r22]) (zi_42 rfl) rfl zl_9_77 rfl rfl (Or.inl ⟨by decide, rfl⟩) (by simp [zrf_cat, zcat_i, zcat_l, zcat_r]) (Nat.le_of_ble_eq_true rfl) (f_43_ok hx33) (k_43 _ hx33) ?_
        refine zgo_sub (L' := [(0, zrf (some o)), (2, .int b1), (3, .int b2)]) (⟨rfl, rfl, rfl, trivial⟩) ?_
        exact k_42_52 _ _ (fun M a0 a1 a2 out h => ih M a0 a1 a2 out h) M o b1 b2 x32 b2 r22 _ g42
      · rw [if_neg hc31] at g41
        refine zo_icF (p' := 43) (zi_42 rfl) rfl rfl hc31 ?_
        refine zo_iconst (p' := 44) (v := 0) (zi_42 rfl) rfl rfl ?_
        refine zo_goto (p' := 52) (zi_42 rfl) rfl ?_
        refine zgo_sub (L' := [(0, zrf (some o)), (2, .int b1), (3, .int b2)]) (⟨rfl, rfl, rfl, trivial⟩) ?_
        exact k_42_52 _ _ (fun M a0 a1 a2 out h => ih M a0 a1 a2 out h) M o b1 b2 0 b2 r22 _ g41
def f_42 (M : ZMem) (o : Nat) (a0 : Int32) : Option (Int32 × ZMem) := if zok M 9 o = true then (zb (f_35 M o a0) fun M3 => zb (f_36 M3 a0) fun x4 => zb (zgr M3 9 2 o) fun r6 => zb r6 fun q8 => zb (zsa M3 20 q8 0 0) fun M9 => f_42_19 zF M9 o x4 1) else none
theorem f_42_ok {M : ZMem} {o : Nat} {a0 : Int32} {out : Int32 × ZMem} (h : f_42 M o a0 = some out) : zok M 9 o = true := by
  unfold f_42 at h
  by_cases hok : zok M 9 o = true
  · exact hok
  · rw [if_neg hok] at h; cases h
set_option maxRecDepth 4000 in
theorem k_42 (d : Nat) {M : ZMem} {o : Nat} {a0 : Int32} {out : Int32 × ZMem} (h : f_42 M o a0 = some out) : zrn (d + 3) 42 [zrf (some o), .int a0] M (some (.int out.1), out.2) := by
  unfold f_42 at h
  by_cases hok : zok M 9 o = true
  · rw [if_pos hok] at h
    refine zrn_of (L := [(0, zrf (some o)), (1, .int a0)]) rfl ?_
    refine zo_aload_n (p' := 1) (zi_42 rfl) rfl rfl ?_
    refine zo_iload_n (p' := 2) (zi_42 rfl) rfl rfl ?_
    obtain ⟨M3, hx2, g11⟩ := zb_of h
    refine zo_callVv (p' := 5) (t := 9) (as := [.int a0]) (r := []) (zi_42 rfl) rfl zl_9_63 rfl rfl (Or.inl ⟨by decide, rfl⟩) (Nat.le_of_ble_eq_true rfl) (Nat.le_of_ble_eq_true rfl) (f_35_ok hx2) (k_35 _ hx2) ?_
    refine zo_iload_n (p' := 6) (zi_42 rfl) rfl rfl ?_
    obtain ⟨x4, hx5, g12⟩ := zb_of g11
    refine zo_callSi (p' := 9) (as := [.int a0]) (r := []) (zi_42 rfl) rfl (Or.inl zl_9_67) rfl rfl (Nat.le_of_ble_eq_true rfl) (Nat.le_of_ble_eq_true rfl) (k_36 _ hx5) ?_
    refine zo_istore_n (p' := 10) (L' := [(0, zrf (some o)), (1, .int a0), (2, .int x4)]) (zi_42 rfl) rfl zm_42_2 ⟨Or.inr ⟨by decide, rfl, fun q => absurd q (by decide)⟩, ⟨Or.inr ⟨by decide, rfl, fun _ => rfl⟩, ⟨Or.inl ⟨rfl, rfl⟩, trivial⟩⟩⟩ ?_
    refine zo_aload_n (p' := 11) (zi_42 rfl) rfl rfl ?_
    obtain ⟨r6, hx7, g13⟩ := zb_of g12
    refine zo_getR (p' := 14) (zi_42 rfl) rfl zl_9_22 hx7 ?_
    refine zo_iconst (p' := 15) (v := 0) (zi_42 rfl) rfl rfl ?_
    refine zo_iconst (p' := 16) (v := 0) (zi_42 rfl) rfl rfl ?_
    obtain ⟨q8, h0, g14⟩ := zb_of g13
    subst h0
    obtain ⟨M9, hx10, g15⟩ := zb_of g14
    refine zo_iast (p' := 17) (zi_42 rfl) rfl hx10 ?_
    refine zo_iconst (p' := 18) (v := 1) (zi_42 rfl) rfl rfl ?_
    refine zo_istore_n (p' := 19) (L' := [(0, zrf (some o)), (1, .int a0), (2, .int x4), (3, .int 1)]) (zi_42 rfl) rfl zm_42_3 ⟨Or.inr ⟨by decide, rfl, fun q => absurd q (by decide)⟩, ⟨Or.inr ⟨by decide, rfl, fun q => absurd q (by decide)⟩, ⟨Or.inr ⟨by decide, rfl, fun _ => rfl⟩, ⟨Or.inl ⟨rfl, rfl⟩, trivial⟩⟩⟩⟩ ?_
    refine zgo_sub (L' := [(0, zrf (some o)), (2, .int x4), (3, .int 1)]) (⟨rfl, rfl, rfl, trivial⟩) ?_
    exact k_42_19 _ zF M9 o x4 1 _ g15
  · rw [if_neg hok] at h; cases h
/-- SlateHalves$Valuer.manyOf(I)I -/
def f_45 (M : ZMem) (o : Nat) (a0 : Int32) : Option (Int32 × ZMem) := if zok M 9 o = true then (zb (zpf M 9 5 o (.int 1) false) fun M1 => zb (zpf M1 9 6 o (.int 0) false) fun M3 => zbd (f_34 M3 o a0) fun x5 M7 => some (x5, M7)) else none
theorem f_45_ok {M : ZMem} {o : Nat} {a0 : Int32} {out : Int32 × ZMem} (h : f_45 M o a0 = some out) : zok M 9 o = true := by
  unfold f_45 at h
  by_cases hok : zok M 9 o = true
  · exact hok
  · rw [if_neg hok] at h; cases h
set_option maxRecDepth 4000 in
theorem k_45 (d : Nat) {M : ZMem} {o : Nat} {a0 : Int32} {out : Int32 × ZMem} (h : f_45 M o a0 = some out) : zrn (d + 4) 45 [zrf (some o), .int a0] M (some (.int out.1), out.2) := by
  unfold f_45 at h
  by_cases hok : zok M 9 o = true
  · rw [if_pos hok] at h
    refine zrn_of (L := [(0, zrf (some o)), (1, .int a0)]) rfl ?_
    refine zo_aload_n (p' := 1) (zi_45 rfl) rfl rfl ?_
    refine zo_iconst (p' := 2) (v := 1) (zi_45 rfl) rfl rfl ?_
    obtain ⟨M1, hx2, g8⟩ := zb_of h
    refine zo_putI (p' := 5) (zi_45 rfl) rfl zl_9_57 (zpb_45 _) hx2 ?_
    refine zo_aload_n (p' := 6) (zi_45 rfl) rfl rfl ?_
    refine zo_iconst (p' := 7) (v := 0) (zi_45 rfl) rfl rfl ?_
    obtain ⟨M3, hx4, g9⟩ := zb_of g8
    refine zo_putI (p' := 10) (zi_45 rfl) rfl zl_9_60 (zpb_45 _) hx4 ?_
    refine zo_aload_n (p' := 11) (zi_45 rfl) rfl rfl ?_
    refine zo_iload_n (p' := 12) (zi_45 rfl) rfl rfl ?_
    obtain ⟨x5, M7, hx6, g10⟩ := zbd_of g9
    refine zo_callVi (p' := 15) (t := 9) (as := [.int a0]) (r := []) (zi_45 rfl) rfl zl_9_71 rfl rfl (Or.inl ⟨by decide, rfl⟩) (Nat.le_of_ble_eq_true rfl) (Nat.le_of_ble_eq_true rfl) (f_34_ok hx6) (k_34 _ hx6) ?_
    cases g10
    exact zo_iret (zi_45 rfl) rfl ⟨rfl, rfl⟩
  · rw [if_neg hok] at h; cases h
/-- SlateHalves$Valuer.halvesOf(I)I -/
def f_46_52 (r14 : ZMem → Nat → Int32 → Int32 → Option (Int32 × ZMem)) (M : ZMem) (o : Nat) (b1 : Int32) (b2 : Int32) (b3 : Int32) (b4 : Int32) (b5 : Option Nat) : Option (Int32 × ZMem) := zb b5 fun q37 => zb (zsa M 20 q37 b4 b3) fun M38 => r14 M38 o b1 ((b2 + 1))
def f_46_14 : Nat → ZMem → Nat → Int32 → Int32 → Option (Int32 × ZMem)
  | 0, _, _, _, _ => none
  | z + 1, M, o, b1, b2 => if b1 < b2 then (zb (zgr M 9 2 o) fun r13 => zb r13 fun q15 => zb (zai M q15 b1) fun x16 => some (x16, M)) else (zb (zgr M 9 2 o) fun r18 => zb (zgi M 9 4 o) fun x20 => if x20 < b2 then (zb (zgr M 9 2 o) fun r23 => zb (f_44 M o r23 b2 ((b2 / 2))) fun x25 => f_46_52 (fun M a0 a1 a2 => f_46_14 z M a0 a1 a2) M o b1 b2 x25 b2 r18) else (zb (f_33 M o b2) fun x27 => f_46_52 (fun M a0 a1 a2 => f_46_14 z M a0 a1 a2) M o b1 b2 x27 b2 r18))
set_option maxRecDepth 4000 in
theorem k_46_52 (d : Nat) (r14 : ZMem → Nat → Int32 → Int32 → Option (Int32 × ZMem)) (h14 : ∀ (M : ZMem) (a0 : Nat) (a1 : Int32) (a2 : Int32) (out : Int32 × ZMem), r14 M a0 a1 a2 = some out → zgo none (d + 2) 46 14 [(0, zrf (some a0)), (2, .int a1), (3, .int a2)] [] M (some (.int out.1), out.2)) : ∀ (M : ZMem) (o : Nat) (b1 : Int32) (b2 : Int32) (b3 : Int32) (b4 : Int32) (b5 : Option Nat) (out : Int32 × ZMem), f_46_52 r14 M o b1 b2 b3 b4 b5 = some out → zgo none (d + 2) 46 52 [(0, zrf (some o)), (2, .int b1), (3, .int b2)] [.int b3, .int b4, zrf b5] M (some (.int out.1), out.2) := by
  intro M o b1 b2 b3 b4 b5 out h
  unfold f_46_52 at h
  obtain ⟨q37, h0, g40⟩ := zb_of h
  subst h0
  obtain ⟨M38, hx39, g41⟩ := zb_of g40
  refine zo_iast (p' := 53) (zi_46 rfl) rfl hx39 ?_
  refine zo_iinc (p' := 56) (v := (b2 + 1)) (L' := [(0, zrf (some o)), (2, .int b1), (3, .int ((b2 + 1)))]) (zi_46 rfl) rfl zm_46_3 rfl rfl ⟨Or.inr ⟨by decide, rfl, fun q => absurd q (by decide)⟩, ⟨Or.inr ⟨by decide, rfl, fun _ => rfl⟩, ⟨Or.inl ⟨rfl, rfl⟩, trivial⟩⟩⟩ ?_
  refine zo_goto (p' := 14) (zi_46 rfl) rfl ?_
  refine zgo_sub (L' := [(0, zrf (some o)), (2, .int b1), (3, .int (((b2 + 1))))]) (⟨rfl, rfl, rfl, trivial⟩) ?_
  exact h14 M38 o b1 ((b2 + 1)) _ g41
set_option maxRecDepth 4000 in
theorem k_46_14 (d : Nat) : ∀ (z : Nat) (M : ZMem) (o : Nat) (b1 : Int32) (b2 : Int32) (out : Int32 × ZMem), f_46_14 z M o b1 b2 = some out → zgo none (d + 2) 46 14 [(0, zrf (some o)), (2, .int b1), (3, .int b2)] [] M (some (.int out.1), out.2) := by
  intro z
  induction z with
  | zero => intro M o b1 b2 out h; cases h
  | succ z ih =>
    intro M o b1 b2 out h
    rw [f_46_14] at h
    refine zo_iload_n (p' := 15) (zi_46 rfl) rfl rfl ?_
    refine zo_iload_n (p' := 16) (zi_46 rfl) rfl rfl ?_
    by_cases hc12 : b1 < b2
    · rw [if_pos hc12] at h
      refine zo_icT (p' := 59) (zi_46 rfl) rfl hc12 ?_
      refine zo_aload_n (p' := 60) (zi_46 rfl) rfl rfl ?_
      obtain ⟨r13, hx14, g29⟩ := zb_of h
      refine zo_getR (p' := 63) (zi_46 rfl) rfl zl_9_22 hx14 ?_
      refine zo_iload_n (p' := 64) (zi_46 rfl) rfl rfl ?_
      obtain ⟨q15, h0, g30⟩ := zb_of g29
      subst h0
      obtain ⟨x16, hx17, g31⟩ := zb_of g30
      refine zo_iald (p' := 65) (zi_46 rfl) rfl hx17 ?_
      cases g31
      exact zo_iret (zi_46 rfl) rfl ⟨rfl, rfl⟩
    · rw [if_neg hc12] at h
      refine zo_icF (p' := 19) (zi_46 rfl) rfl rfl hc12 ?_
      refine zo_aload_n (p' := 20) (zi_46 rfl) rfl rfl ?_
      obtain ⟨r18, hx19, g32⟩ := zb_of h
      refine zo_getR (p' := 23) (zi_46 rfl) rfl zl_9_22 hx19 ?_
      refine zo_iload_n (p' := 24) (zi_46 rfl) rfl rfl ?_
      refine zo_iload_n (p' := 25) (zi_46 rfl) rfl rfl ?_
      refine zo_aload_n (p' := 26) (zi_46 rfl) rfl rfl ?_
      obtain ⟨x20, hx21, g33⟩ := zb_of g32
      refine zo_getI (p' := 29) (zi_46 rfl) rfl zl_9_50 hx21 ?_
      by_cases hc22 : x20 < b2
      · rw [if_pos hc22] at g33
        refine zo_icT (p' := 40) (zi_46 rfl) rfl hc22 ?_
        refine zo_aload_n (p' := 41) (zi_46 rfl) rfl rfl ?_
        refine zo_aload_n (p' := 42) (zi_46 rfl) rfl rfl ?_
        obtain ⟨r23, hx24, g34⟩ := zb_of g33
        refine zo_getR (p' := 45) (zi_46 rfl) rfl zl_9_22 hx24 ?_
        refine zo_iload_n (p' := 46) (zi_46 rfl) rfl rfl ?_
        refine zo_iload_n (p' := 47) (zi_46 rfl) rfl rfl ?_
        refine zo_iconst (p' := 48) (v := 2) (zi_46 rfl) rfl rfl ?_
        refine zo_idiv (p' := 49) (zi_46 rfl) rfl (by decide) ?_
        obtain ⟨x25, hx26, g35⟩ := zb_of g34
        refine zo_callVi (p' := 52) (t := 9) (as := [zrf r23, .int b2, .int ((b2 / 2))]) (r := [.int b2, zrf r18]) (zi_46 rfl) rfl zl_9_80 rfl rfl (Or.inl ⟨by decide, rfl⟩) (by simp [zrf_cat, zcat_i, zcat_l, zcat_r]) (by rw [zml_44]; simp [lg_sl, zrf_cat, zcat_i, zcat_l, zcat_r]; done) (f_44_ok hx26) (k_44 _ hx26) ?_
        refine zgo_sub (L' := [(0, zrf (some o)), (2, .int b1), (3, .int b2)]) (⟨rfl, rfl, rfl, trivial⟩) ?_
        exact k_46_52 _ _ (fun M a0 a1 a2 out h => ih M a0 a1 a2 out h) M o b1 b2 x25 b2 r18 _ g35
      · rw [if_neg hc22] at g33
        refine zo_icF (p' := 32) (zi_46 rfl) rfl rfl hc22 ?_
        refine zo_aload_n (p' := 33) (zi_46 rfl) rfl rfl ?_
        refine zo_iload_n (p' := 34) (zi_46 rfl) rfl rfl ?_
        obtain ⟨x27, hx28, g36⟩ := zb_of g33
        refine zo_callVi (p' := 37) (t := 9) (as := [.int b2]) (r := [.int b2, zrf r18]) (zi_46 rfl) rfl zl_9_74 rfl rfl (Or.inl ⟨by decide, rfl⟩) (by simp [zrf_cat, zcat_i, zcat_l, zcat_r]) (Nat.le_of_ble_eq_true rfl) (f_33_ok hx28) (k_33 _ hx28) ?_
        refine zo_goto (p' := 52) (zi_46 rfl) rfl ?_
        refine zgo_sub (L' := [(0, zrf (some o)), (2, .int b1), (3, .int b2)]) (⟨rfl, rfl, rfl, trivial⟩) ?_
        exact k_46_52 _ _ (fun M a0 a1 a2 out h => ih M a0 a1 a2 out h) M o b1 b2 x27 b2 r18 _ g36
def f_46 (M : ZMem) (o : Nat) (a0 : Int32) : Option (Int32 × ZMem) := if zok M 9 o = true then (zb (f_36 M a0) fun x1 => zb (zgr M 9 2 o) fun r3 => zb r3 fun q5 => zb (zsa M 20 q5 0 0) fun M6 => f_46_14 zF M6 o x1 1) else none
theorem f_46_ok {M : ZMem} {o : Nat} {a0 : Int32} {out : Int32 × ZMem} (h : f_46 M o a0 = some out) : zok M 9 o = true := by
  unfold f_46 at h
  by_cases hok : zok M 9 o = true
  · exact hok
  · rw [if_neg hok] at h; cases h
set_option maxRecDepth 4000 in
theorem k_46 (d : Nat) {M : ZMem} {o : Nat} {a0 : Int32} {out : Int32 × ZMem} (h : f_46 M o a0 = some out) : zrn (d + 2) 46 [zrf (some o), .int a0] M (some (.int out.1), out.2) := by
  unfold f_46 at h
  by_cases hok : zok M 9 o = true
  · rw [if_pos hok] at h
    refine zrn_of (L := [(0, zrf (some o)), (1, .int a0)]) rfl ?_
    refine zo_iload_n (p' := 1) (zi_46 rfl) rfl rfl ?_
    obtain ⟨x1, hx2, g8⟩ := zb_of h
    refine zo_callSi (p' := 4) (as := [.int a0]) (r := []) (zi_46 rfl) rfl (Or.inl zl_9_67) rfl rfl (Nat.le_of_ble_eq_true rfl) (Nat.le_of_ble_eq_true rfl) (k_36 _ hx2) ?_
    refine zo_istore_n (p' := 5) (L' := [(0, zrf (some o)), (1, .int a0), (2, .int x1)]) (zi_46 rfl) rfl zm_46_2 ⟨Or.inr ⟨by decide, rfl, fun q => absurd q (by decide)⟩, ⟨Or.inr ⟨by decide, rfl, fun _ => rfl⟩, ⟨Or.inl ⟨rfl, rfl⟩, trivial⟩⟩⟩ ?_
    refine zo_aload_n (p' := 6) (zi_46 rfl) rfl rfl ?_
    obtain ⟨r3, hx4, g9⟩ := zb_of g8
    refine zo_getR (p' := 9) (zi_46 rfl) rfl zl_9_22 hx4 ?_
    refine zo_iconst (p' := 10) (v := 0) (zi_46 rfl) rfl rfl ?_
    refine zo_iconst (p' := 11) (v := 0) (zi_46 rfl) rfl rfl ?_
    obtain ⟨q5, h0, g10⟩ := zb_of g9
    subst h0
    obtain ⟨M6, hx7, g11⟩ := zb_of g10
    refine zo_iast (p' := 12) (zi_46 rfl) rfl hx7 ?_
    refine zo_iconst (p' := 13) (v := 1) (zi_46 rfl) rfl rfl ?_
    refine zo_istore_n (p' := 14) (L' := [(0, zrf (some o)), (1, .int a0), (2, .int x1), (3, .int 1)]) (zi_46 rfl) rfl zm_46_3 ⟨Or.inr ⟨by decide, rfl, fun q => absurd q (by decide)⟩, ⟨Or.inr ⟨by decide, rfl, fun q => absurd q (by decide)⟩, ⟨Or.inr ⟨by decide, rfl, fun _ => rfl⟩, ⟨Or.inl ⟨rfl, rfl⟩, trivial⟩⟩⟩⟩ ?_
    refine zgo_sub (L' := [(0, zrf (some o)), (2, .int x1), (3, .int 1)]) (⟨rfl, rfl, rfl, trivial⟩) ?_
    exact k_46_14 _ zF M6 o x1 1 _ g11
  · rw [if_neg hok] at h; cases h
/-- SlateHalves$Valuer.blowOf(I)I -/
def f_47_28 : Nat → ZMem → Nat → Int32 → Int32 → Option (Int32 × ZMem)
  | 0, _, _, _, _ => none
  | z + 1, M, o, b1, b2 => if b1 ≤ b2 then (some (0, M)) else (zb (zgr M 9 1 o) fun r21 => zb (f_44 M o r21 b1 b2) fun x23 => zb (zgr M 9 1 o) fun r25 => zb r25 fun q27 => zb (zai M q27 b1) fun x28 => if ¬ x23 = x28 then (f_47_28 z M o b1 ((b2 + 1))) else (some (b2, M)))
set_option maxRecDepth 4000 in
theorem k_47_28 (d : Nat) : ∀ (z : Nat) (M : ZMem) (o : Nat) (b1 : Int32) (b2 : Int32) (out : Int32 × ZMem), f_47_28 z M o b1 b2 = some out → zgo none (d + 3) 47 28 [(0, zrf (some o)), (2, .int b1), (3, .int b2)] [] M (some (.int out.1), out.2) := by
  intro z
  induction z with
  | zero => intro M o b1 b2 out h; cases h
  | succ z ih =>
    intro M o b1 b2 out h
    rw [f_47_28] at h
    refine zo_iload_n (p' := 29) (zi_47 rfl) rfl rfl ?_
    refine zo_iload_n (p' := 30) (zi_47 rfl) rfl rfl ?_
    by_cases hc20 : b1 ≤ b2
    · rw [if_pos hc20] at h
      refine zo_icT (p' := 60) (zi_47 rfl) rfl hc20 ?_
      refine zo_iconst (p' := 61) (v := 0) (zi_47 rfl) rfl rfl ?_
      cases h
      exact zo_iret (zi_47 rfl) rfl ⟨rfl, rfl⟩
    · rw [if_neg hc20] at h
      refine zo_icF (p' := 33) (zi_47 rfl) rfl rfl hc20 ?_
      refine zo_aload_n (p' := 34) (zi_47 rfl) rfl rfl ?_
      refine zo_aload_n (p' := 35) (zi_47 rfl) rfl rfl ?_
      obtain ⟨r21, hx22, g31⟩ := zb_of h
      refine zo_getR (p' := 38) (zi_47 rfl) rfl zl_9_18 hx22 ?_
      refine zo_iload_n (p' := 39) (zi_47 rfl) rfl rfl ?_
      refine zo_iload_n (p' := 40) (zi_47 rfl) rfl rfl ?_
      obtain ⟨x23, hx24, g32⟩ := zb_of g31
      refine zo_callVi (p' := 43) (t := 9) (as := [zrf r21, .int b1, .int b2]) (r := []) (zi_47 rfl) rfl zl_9_80 rfl rfl (Or.inl ⟨by decide, rfl⟩) (Nat.le_of_ble_eq_true rfl) (by rw [zml_44]; simp [lg_sl, zrf_cat, zcat_i, zcat_l, zcat_r]; done) (f_44_ok hx24) (k_44 _ hx24) ?_
      refine zo_aload_n (p' := 44) (zi_47 rfl) rfl rfl ?_
      obtain ⟨r25, hx26, g33⟩ := zb_of g32
      refine zo_getR (p' := 47) (zi_47 rfl) rfl zl_9_18 hx26 ?_
      refine zo_iload_n (p' := 48) (zi_47 rfl) rfl rfl ?_
      obtain ⟨q27, h0, g34⟩ := zb_of g33
      subst h0
      obtain ⟨x28, hx29, g35⟩ := zb_of g34
      refine zo_iald (p' := 49) (zi_47 rfl) rfl hx29 ?_
      by_cases hc30 : ¬ x23 = x28
      · rw [if_pos hc30] at g35
        refine zo_icT (p' := 54) (zi_47 rfl) rfl hc30 ?_
        refine zo_iinc (p' := 57) (v := (b2 + 1)) (L' := [(0, zrf (some o)), (2, .int b1), (3, .int ((b2 + 1)))]) (zi_47 rfl) rfl zm_47_3 rfl rfl ⟨Or.inr ⟨by decide, rfl, fun q => absurd q (by decide)⟩, ⟨Or.inr ⟨by decide, rfl, fun _ => rfl⟩, ⟨Or.inl ⟨rfl, rfl⟩, trivial⟩⟩⟩ ?_
        refine zo_goto (p' := 28) (zi_47 rfl) rfl ?_
        refine zgo_sub (L' := [(0, zrf (some o)), (2, .int b1), (3, .int (((b2 + 1))))]) (⟨rfl, rfl, rfl, trivial⟩) ?_
        exact ih M o b1 ((b2 + 1)) _ g35
      · rw [if_neg hc30] at g35
        refine zo_icF (p' := 52) (zi_47 rfl) rfl rfl hc30 ?_
        refine zo_iload_n (p' := 53) (zi_47 rfl) rfl rfl ?_
        cases g35
        exact zo_iret (zi_47 rfl) rfl ⟨rfl, rfl⟩
def f_47 (M : ZMem) (o : Nat) (a0 : Int32) : Option (Int32 × ZMem) := if zok M 9 o = true then (zb (f_35 M o a0) fun M3 => zb (f_36 M3 a0) fun x4 => zb (zgr M3 9 1 o) fun r6 => zb r6 fun q8 => zb (zai M3 q8 x4) fun x9 => zb (f_33 M3 o x4) fun x11 => if ¬ x9 = x11 then (f_47_28 zF M3 o x4 1) else (some (0, M3))) else none
theorem f_47_ok {M : ZMem} {o : Nat} {a0 : Int32} {out : Int32 × ZMem} (h : f_47 M o a0 = some out) : zok M 9 o = true := by
  unfold f_47 at h
  by_cases hok : zok M 9 o = true
  · exact hok
  · rw [if_neg hok] at h; cases h
set_option maxRecDepth 4000 in
theorem k_47 (d : Nat) {M : ZMem} {o : Nat} {a0 : Int32} {out : Int32 × ZMem} (h : f_47 M o a0 = some out) : zrn (d + 3) 47 [zrf (some o), .int a0] M (some (.int out.1), out.2) := by
  unfold f_47 at h
  by_cases hok : zok M 9 o = true
  · rw [if_pos hok] at h
    refine zrn_of (L := [(0, zrf (some o)), (1, .int a0)]) rfl ?_
    refine zo_aload_n (p' := 1) (zi_47 rfl) rfl rfl ?_
    refine zo_iload_n (p' := 2) (zi_47 rfl) rfl rfl ?_
    obtain ⟨M3, hx2, g14⟩ := zb_of h
    refine zo_callVv (p' := 5) (t := 9) (as := [.int a0]) (r := []) (zi_47 rfl) rfl zl_9_63 rfl rfl (Or.inl ⟨by decide, rfl⟩) (Nat.le_of_ble_eq_true rfl) (Nat.le_of_ble_eq_true rfl) (f_35_ok hx2) (k_35 _ hx2) ?_
    refine zo_iload_n (p' := 6) (zi_47 rfl) rfl rfl ?_
    obtain ⟨x4, hx5, g15⟩ := zb_of g14
    refine zo_callSi (p' := 9) (as := [.int a0]) (r := []) (zi_47 rfl) rfl (Or.inl zl_9_67) rfl rfl (Nat.le_of_ble_eq_true rfl) (Nat.le_of_ble_eq_true rfl) (k_36 _ hx5) ?_
    refine zo_istore_n (p' := 10) (L' := [(0, zrf (some o)), (1, .int a0), (2, .int x4)]) (zi_47 rfl) rfl zm_47_2 ⟨Or.inr ⟨by decide, rfl, fun q => absurd q (by decide)⟩, ⟨Or.inr ⟨by decide, rfl, fun _ => rfl⟩, ⟨Or.inl ⟨rfl, rfl⟩, trivial⟩⟩⟩ ?_
    refine zo_aload_n (p' := 11) (zi_47 rfl) rfl rfl ?_
    obtain ⟨r6, hx7, g16⟩ := zb_of g15
    refine zo_getR (p' := 14) (zi_47 rfl) rfl zl_9_18 hx7 ?_
    refine zo_iload_n (p' := 15) (zi_47 rfl) rfl rfl ?_
    obtain ⟨q8, h0, g17⟩ := zb_of g16
    subst h0
    obtain ⟨x9, hx10, g18⟩ := zb_of g17
    refine zo_iald (p' := 16) (zi_47 rfl) rfl hx10 ?_
    refine zo_aload_n (p' := 17) (zi_47 rfl) rfl rfl ?_
    refine zo_iload_n (p' := 18) (zi_47 rfl) rfl rfl ?_
    obtain ⟨x11, hx12, g19⟩ := zb_of g18
    refine zo_callVi (p' := 21) (t := 9) (as := [.int x4]) (r := [.int x9]) (zi_47 rfl) rfl zl_9_74 rfl rfl (Or.inl ⟨by decide, rfl⟩) (Nat.le_of_ble_eq_true rfl) (Nat.le_of_ble_eq_true rfl) (f_33_ok hx12) (k_33 _ hx12) ?_
    by_cases hc13 : ¬ x9 = x11
    · rw [if_pos hc13] at g19
      refine zo_icT (p' := 26) (zi_47 rfl) rfl hc13 ?_
      refine zo_iconst (p' := 27) (v := 1) (zi_47 rfl) rfl rfl ?_
      refine zo_istore_n (p' := 28) (L' := [(0, zrf (some o)), (1, .int a0), (2, .int x4), (3, .int 1)]) (zi_47 rfl) rfl zm_47_3 ⟨Or.inr ⟨by decide, rfl, fun q => absurd q (by decide)⟩, ⟨Or.inr ⟨by decide, rfl, fun q => absurd q (by decide)⟩, ⟨Or.inr ⟨by decide, rfl, fun _ => rfl⟩, ⟨Or.inl ⟨rfl, rfl⟩, trivial⟩⟩⟩⟩ ?_
      refine zgo_sub (L' := [(0, zrf (some o)), (2, .int x4), (3, .int 1)]) (⟨rfl, rfl, rfl, trivial⟩) ?_
      exact k_47_28 _ zF M3 o x4 1 _ g19
    · rw [if_neg hc13] at g19
      refine zo_icF (p' := 24) (zi_47 rfl) rfl rfl hc13 ?_
      refine zo_iconst (p' := 25) (v := 0) (zi_47 rfl) rfl rfl ?_
      cases g19
      exact zo_iret (zi_47 rfl) rfl ⟨rfl, rfl⟩
  · rw [if_neg hok] at h; cases h
/-- SlateHalves.valueOf(LSlateHalves$Block;I)I -/
def f_27 (M : ZMem) (o : Nat) (a0 : Option Nat) (a1 : Int32) : Option (Int32 × ZMem) := if zok M 11 o = true then (zb (zgr M 11 11 o) fun r1 => zb (zgr M 11 0 o) fun r3 => zb r3 fun q5 => zb (zgr M 7 0 q5) fun r6 => zb r6 fun q8 => zb (zgi M 10 3 q8) fun x9 => zb (f_20 M o) fun r11 => zb r1 fun q13 => zb (f_28 M q13 a0 x9 r11) fun M16 => if a1 = 8 then (zb (zgr M16 11 11 o) fun r23 => zb a0 fun q25 => zb (zgi M16 1 3 q25) fun x26 => zb r23 fun q28 => zb (f_33 M16 q28 x26) fun x29 => some (x29, M16)) else (if a1 = 9 then (zb (zgr M16 11 11 o) fun r31 => zb a0 fun q33 => zb (zgi M16 1 3 q33) fun x34 => zb r31 fun q36 => zbd (f_34 M16 q36 x34) fun x37 M39 => some (x37, M39)) else (if a1 = 10 then (zb (zgr M16 11 11 o) fun r40 => zb a0 fun q42 => zb (zgi M16 1 3 q42) fun x43 => zb r40 fun q45 => zbd (f_42 M16 q45 x43) fun x46 M48 => some (x46, M48)) else (if a1 = 11 then (zb (zgr M16 11 11 o) fun r49 => zb a0 fun q51 => zb (zgi M16 1 3 q51) fun x52 => zb r49 fun q54 => zbd (f_45 M16 q54 x52) fun x55 M57 => some (x55, M57)) else (if a1 = 12 then (zb (zgr M16 11 11 o) fun r58 => zb a0 fun q60 => zb (zgi M16 1 3 q60) fun x61 => zb r58 fun q63 => zbd (f_46 M16 q63 x61) fun x64 M66 => some (x64, M66)) else (if a1 = 13 then (zb (zgr M16 11 11 o) fun r67 => zb a0 fun q69 => zb (zgi M16 1 3 q69) fun x70 => zb r67 fun q72 => zbd (f_47 M16 q72 x70) fun x73 M75 => some (x73, M75)) else (some ((-1), M16)))))))) else none
theorem f_27_ok {M : ZMem} {o : Nat} {a0 : Option Nat} {a1 : Int32} {out : Int32 × ZMem} (h : f_27 M o a0 a1 = some out) : zok M 11 o = true := by
  unfold f_27 at h
  by_cases hok : zok M 11 o = true
  · exact hok
  · rw [if_neg hok] at h; cases h
set_option maxRecDepth 4000 in
theorem k_27 (d : Nat) {M : ZMem} {o : Nat} {a0 : Option Nat} {a1 : Int32} {out : Int32 × ZMem} (h : f_27 M o a0 a1 = some out) : zrn (d + 5) 27 [zrf (some o), zrf a0, .int a1] M (some (.int out.1), out.2) := by
  unfold f_27 at h
  by_cases hok : zok M 11 o = true
  · rw [if_pos hok] at h
    refine zrn_of (L := [(0, zrf (some o)), (1, zrf a0), (2, .int a1)]) (by simp [lv_args, zrf_cat, zcat_i, zcat_l, zcat_r]) ?_
    refine zo_aload_n (p' := 1) (zi_27 rfl) rfl rfl ?_
    obtain ⟨r1, hx2, g76⟩ := zb_of h
    refine zo_getR (p' := 4) (zi_27 rfl) rfl zl_1_71 hx2 ?_
    refine zo_aload_n (p' := 5) (zi_27 rfl) rfl rfl ?_
    refine zo_aload_n (p' := 6) (zi_27 rfl) rfl rfl ?_
    obtain ⟨r3, hx4, g77⟩ := zb_of g76
    refine zo_getR (p' := 9) (zi_27 rfl) rfl zl_1_12 hx4 ?_
    obtain ⟨q5, h0, g78⟩ := zb_of g77
    subst h0
    obtain ⟨r6, hx7, g79⟩ := zb_of g78
    refine zo_getR (p' := 12) (zi_27 rfl) rfl zl_1_100 hx7 ?_
    obtain ⟨q8, h0, g80⟩ := zb_of g79
    subst h0
    obtain ⟨x9, hx10, g81⟩ := zb_of g80
    refine zo_getI (p' := 15) (zi_27 rfl) rfl zl_1_139 hx10 ?_
    refine zo_aload_n (p' := 16) (zi_27 rfl) rfl rfl ?_
    obtain ⟨r11, hx12, g82⟩ := zb_of g81
    refine zo_callVa (p' := 19) (t := 11) (as := []) (r := [.int x9, zrf a0, zrf r1]) (zi_27 rfl) rfl zl_1_135 rfl rfl (Or.inl ⟨by decide, rfl⟩) (by simp [zrf_cat, zcat_i, zcat_l, zcat_r]) (Nat.le_of_ble_eq_true rfl) (f_20_ok hx12) (k_20 _ hx12) ?_
    obtain ⟨q13, h0, g83⟩ := zb_of g82
    subst h0
    obtain ⟨M16, hx15, g84⟩ := zb_of g83
    refine zo_callVv (p' := 22) (t := 9) (as := [zrf a0, .int x9, zrf r11]) (r := []) (zi_27 rfl) rfl zl_1_159 rfl rfl (Or.inl ⟨by decide, rfl⟩) (Nat.le_of_ble_eq_true rfl) (by rw [zml_28]; simp [lg_sl, zrf_cat, zcat_i, zcat_l, zcat_r]; done) (f_28_ok hx15) (k_28 _ hx15) ?_
    refine zo_iload_n (p' := 23) (zi_27 rfl) rfl rfl ?_
    by_cases hc17 : a1 = 8
    · rw [if_pos hc17] at g84
      refine zo_table (p' := 60) (n := 37) (zi_27 rfl) (by decide) (zsel_hit hc17 (by decide)) rfl ?_
      refine zo_aload_n (p' := 61) (zi_27 rfl) rfl rfl ?_
      obtain ⟨r23, hx24, g85⟩ := zb_of g84
      refine zo_getR (p' := 64) (zi_27 rfl) rfl zl_1_71 hx24 ?_
      refine zo_aload_n (p' := 65) (zi_27 rfl) rfl rfl ?_
      obtain ⟨q25, h0, g86⟩ := zb_of g85
      subst h0
      obtain ⟨x26, hx27, g87⟩ := zb_of g86
      refine zo_getI (p' := 68) (zi_27 rfl) rfl zl_1_126 hx27 ?_
      obtain ⟨q28, h0, g88⟩ := zb_of g87
      subst h0
      obtain ⟨x29, hx30, g89⟩ := zb_of g88
      refine zo_callVi (p' := 71) (t := 9) (as := [.int x26]) (r := []) (zi_27 rfl) rfl zl_1_163 rfl rfl (Or.inl ⟨by decide, rfl⟩) (Nat.le_of_ble_eq_true rfl) (Nat.le_of_ble_eq_true rfl) (f_33_ok hx30) (k_33 _ hx30) ?_
      cases g89
      exact zo_iret (zi_27 rfl) rfl ⟨rfl, rfl⟩
    · rw [if_neg hc17] at g84
      by_cases hc18 : a1 = 9
      · rw [if_pos hc18] at g84
        refine zo_table (p' := 72) (n := 49) (zi_27 rfl) (by decide) (zsel_skip hc17 (by decide) (zsel_hit hc18 (by decide))) rfl ?_
        refine zo_aload_n (p' := 73) (zi_27 rfl) rfl rfl ?_
        obtain ⟨r31, hx32, g90⟩ := zb_of g84
        refine zo_getR (p' := 76) (zi_27 rfl) rfl zl_1_71 hx32 ?_
        refine zo_aload_n (p' := 77) (zi_27 rfl) rfl rfl ?_
        obtain ⟨q33, h0, g91⟩ := zb_of g90
        subst h0
        obtain ⟨x34, hx35, g92⟩ := zb_of g91
        refine zo_getI (p' := 80) (zi_27 rfl) rfl zl_1_126 hx35 ?_
        obtain ⟨q36, h0, g93⟩ := zb_of g92
        subst h0
        obtain ⟨x37, M39, hx38, g94⟩ := zbd_of g93
        refine zo_callVi (p' := 83) (t := 9) (as := [.int x34]) (r := []) (zi_27 rfl) rfl zl_1_167 rfl rfl (Or.inl ⟨by decide, rfl⟩) (Nat.le_of_ble_eq_true rfl) (Nat.le_of_ble_eq_true rfl) (f_34_ok hx38) (k_34 _ hx38) ?_
        cases g94
        exact zo_iret (zi_27 rfl) rfl ⟨rfl, rfl⟩
      · rw [if_neg hc18] at g84
        by_cases hc19 : a1 = 10
        · rw [if_pos hc19] at g84
          refine zo_table (p' := 84) (n := 61) (zi_27 rfl) (by decide) (zsel_skip hc17 (by decide) (zsel_skip hc18 (by decide) (zsel_hit hc19 (by decide)))) rfl ?_
          refine zo_aload_n (p' := 85) (zi_27 rfl) rfl rfl ?_
          obtain ⟨r40, hx41, g95⟩ := zb_of g84
          refine zo_getR (p' := 88) (zi_27 rfl) rfl zl_1_71 hx41 ?_
          refine zo_aload_n (p' := 89) (zi_27 rfl) rfl rfl ?_
          obtain ⟨q42, h0, g96⟩ := zb_of g95
          subst h0
          obtain ⟨x43, hx44, g97⟩ := zb_of g96
          refine zo_getI (p' := 92) (zi_27 rfl) rfl zl_1_126 hx44 ?_
          obtain ⟨q45, h0, g98⟩ := zb_of g97
          subst h0
          obtain ⟨x46, M48, hx47, g99⟩ := zbd_of g98
          refine zo_callVi (p' := 95) (t := 9) (as := [.int x43]) (r := []) (zi_27 rfl) rfl zl_1_170 rfl rfl (Or.inl ⟨by decide, rfl⟩) (Nat.le_of_ble_eq_true rfl) (Nat.le_of_ble_eq_true rfl) (f_42_ok hx47) (k_42 _ hx47) ?_
          cases g99
          exact zo_iret (zi_27 rfl) rfl ⟨rfl, rfl⟩
        · rw [if_neg hc19] at g84
          by_cases hc20 : a1 = 11
          · rw [if_pos hc20] at g84
            refine zo_table (p' := 96) (n := 73) (zi_27 rfl) (by decide) (zsel_skip hc17 (by decide) (zsel_skip hc18 (by decide) (zsel_skip hc19 (by decide) (zsel_hit hc20 (by decide))))) rfl ?_
            refine zo_aload_n (p' := 97) (zi_27 rfl) rfl rfl ?_
            obtain ⟨r49, hx50, g100⟩ := zb_of g84
            refine zo_getR (p' := 100) (zi_27 rfl) rfl zl_1_71 hx50 ?_
            refine zo_aload_n (p' := 101) (zi_27 rfl) rfl rfl ?_
            obtain ⟨q51, h0, g101⟩ := zb_of g100
            subst h0
            obtain ⟨x52, hx53, g102⟩ := zb_of g101
            refine zo_getI (p' := 104) (zi_27 rfl) rfl zl_1_126 hx53 ?_
            obtain ⟨q54, h0, g103⟩ := zb_of g102
            subst h0
            obtain ⟨x55, M57, hx56, g104⟩ := zbd_of g103
            refine zo_callVi (p' := 107) (t := 9) (as := [.int x52]) (r := []) (zi_27 rfl) rfl zl_1_173 rfl rfl (Or.inl ⟨by decide, rfl⟩) (Nat.le_of_ble_eq_true rfl) (Nat.le_of_ble_eq_true rfl) (f_45_ok hx56) (k_45 _ hx56) ?_
            cases g104
            exact zo_iret (zi_27 rfl) rfl ⟨rfl, rfl⟩
          · rw [if_neg hc20] at g84
            by_cases hc21 : a1 = 12
            · rw [if_pos hc21] at g84
              refine zo_table (p' := 108) (n := 85) (zi_27 rfl) (by decide) (zsel_skip hc17 (by decide) (zsel_skip hc18 (by decide) (zsel_skip hc19 (by decide) (zsel_skip hc20 (by decide) (zsel_hit hc21 (by decide)))))) rfl ?_
              refine zo_aload_n (p' := 109) (zi_27 rfl) rfl rfl ?_
              obtain ⟨r58, hx59, g105⟩ := zb_of g84
              refine zo_getR (p' := 112) (zi_27 rfl) rfl zl_1_71 hx59 ?_
              refine zo_aload_n (p' := 113) (zi_27 rfl) rfl rfl ?_
              obtain ⟨q60, h0, g106⟩ := zb_of g105
              subst h0
              obtain ⟨x61, hx62, g107⟩ := zb_of g106
              refine zo_getI (p' := 116) (zi_27 rfl) rfl zl_1_126 hx62 ?_
              obtain ⟨q63, h0, g108⟩ := zb_of g107
              subst h0
              obtain ⟨x64, M66, hx65, g109⟩ := zbd_of g108
              refine zo_callVi (p' := 119) (t := 9) (as := [.int x61]) (r := []) (zi_27 rfl) rfl zl_1_176 rfl rfl (Or.inl ⟨by decide, rfl⟩) (Nat.le_of_ble_eq_true rfl) (Nat.le_of_ble_eq_true rfl) (f_46_ok hx65) (k_46 _ hx65) ?_
              cases g109
              exact zo_iret (zi_27 rfl) rfl ⟨rfl, rfl⟩
            · rw [if_neg hc21] at g84
              by_cases hc22 : a1 = 13
              · rw [if_pos hc22] at g84
                refine zo_table (p' := 120) (n := 97) (zi_27 rfl) (by decide) (zsel_skip hc17 (by decide) (zsel_skip hc18 (by decide) (zsel_skip hc19 (by decide) (zsel_skip hc20 (by decide) (zsel_skip hc21 (by decide) (zsel_hit hc22 (by decide))))))) rfl ?_
                refine zo_aload_n (p' := 121) (zi_27 rfl) rfl rfl ?_
                obtain ⟨r67, hx68, g110⟩ := zb_of g84
                refine zo_getR (p' := 124) (zi_27 rfl) rfl zl_1_71 hx68 ?_
                refine zo_aload_n (p' := 125) (zi_27 rfl) rfl rfl ?_
                obtain ⟨q69, h0, g111⟩ := zb_of g110
                subst h0
                obtain ⟨x70, hx71, g112⟩ := zb_of g111
                refine zo_getI (p' := 128) (zi_27 rfl) rfl zl_1_126 hx71 ?_
                obtain ⟨q72, h0, g113⟩ := zb_of g112
                subst h0
                obtain ⟨x73, M75, hx74, g114⟩ := zbd_of g113
                refine zo_callVi (p' := 131) (t := 9) (as := [.int x70]) (r := []) (zi_27 rfl) rfl zl_1_179 rfl rfl (Or.inl ⟨by decide, rfl⟩) (Nat.le_of_ble_eq_true rfl) (Nat.le_of_ble_eq_true rfl) (f_47_ok hx74) (k_47 _ hx74) ?_
                cases g114
                exact zo_iret (zi_27 rfl) rfl ⟨rfl, rfl⟩
              · rw [if_neg hc22] at g84
                refine zo_table (p' := 132) (n := 109) (zi_27 rfl) (by decide) (zsel_skip hc17 (by decide) (zsel_skip hc18 (by decide) (zsel_skip hc19 (by decide) (zsel_skip hc20 (by decide) (zsel_skip hc21 (by decide) (zsel_skip hc22 (by decide) (rfl))))))) rfl ?_
                refine zo_iconst (p' := 133) (v := (-1)) (zi_27 rfl) rfl rfl ?_
                cases g84
                exact zo_iret (zi_27 rfl) rfl ⟨rfl, rfl⟩
  · rw [if_neg hok] at h; cases h
/-- SlateHalves.of(II)I -/
def f_18 (M : ZMem) (o : Nat) (a0 : Int32) (a1 : Int32) : Option (Int32 × ZMem) := if zok M 11 o = true then (zb (zgr M 11 0 o) fun r1 => zb r1 fun q3 => zb (zgr M 7 0 q3) fun r4 => zb r4 fun q6 => zb (f_19 M q6 a0) fun r7 => zcs r7 (some ((-1), M)) (fun q9 => if a1 = 0 then (zb (zgi M 1 1 q9) fun x19 => some (x19, M)) else (if a1 = 1 then (zb (zgi M 1 2 q9) fun x21 => some (x21, M)) else (if a1 = 2 then (zb (zgi M 1 3 q9) fun x23 => some (x23, M)) else (if a1 = 3 then (zb (zgi M 1 4 q9) fun x25 => some (x25, M)) else (if a1 = 4 then (zb (zgi M 1 5 q9) fun x27 => some (x27, M)) else (if a1 = 5 then (zb (f_20 M o) fun r29 => zb (zgr M 11 0 o) fun r31 => zb r31 fun q33 => zb (zgr M 7 0 q33) fun r34 => zb r34 fun q36 => zb (zgi M 10 3 q36) fun x37 => zb r29 fun q39 => zb (f_21 M q39 (some q9) x37) fun x40 => some (x40, M)) else (if a1 = 6 then (zb (zgi M 1 1 q9) fun x42 => zb (zgi M 1 2 q9) fun x44 => zb (zgi M 1 4 q9) fun x46 => zb (f_25 M x42 x44 x46) fun x48 => some (x48, M)) else (if a1 = 7 then (zb (f_20 M o) fun r50 => zb r50 fun q52 => zb (zgi M 3 4 q52) fun x53 => zb (f_26 M (some q9) x53) fun x55 => some (x55, M)) else (zbd (f_27 M o (some q9) a1) fun x57 M59 => some (x57, M59))))))))))) else none
theorem f_18_ok {M : ZMem} {o : Nat} {a0 : Int32} {a1 : Int32} {out : Int32 × ZMem} (h : f_18 M o a0 a1 = some out) : zok M 11 o = true := by
  unfold f_18 at h
  by_cases hok : zok M 11 o = true
  · exact hok
  · rw [if_neg hok] at h; cases h
set_option maxRecDepth 4000 in
theorem k_18 (d : Nat) {M : ZMem} {o : Nat} {a0 : Int32} {a1 : Int32} {out : Int32 × ZMem} (h : f_18 M o a0 a1 = some out) : zrn (d + 6) 18 [zrf (some o), .int a0, .int a1] M (some (.int out.1), out.2) := by
  unfold f_18 at h
  by_cases hok : zok M 11 o = true
  · rw [if_pos hok] at h
    refine zrn_of (L := [(0, zrf (some o)), (1, .int a0), (2, .int a1)]) rfl ?_
    refine zo_aload_n (p' := 1) (zi_18 rfl) rfl rfl ?_
    obtain ⟨r1, hx2, g60⟩ := zb_of h
    refine zo_getR (p' := 4) (zi_18 rfl) rfl zl_1_12 hx2 ?_
    obtain ⟨q3, h0, g61⟩ := zb_of g60
    subst h0
    obtain ⟨r4, hx5, g62⟩ := zb_of g61
    refine zo_getR (p' := 7) (zi_18 rfl) rfl zl_1_100 hx5 ?_
    refine zo_iload_n (p' := 8) (zi_18 rfl) rfl rfl ?_
    obtain ⟨q6, h0, g63⟩ := zb_of g62
    subst h0
    obtain ⟨r7, hx8, g64⟩ := zb_of g63
    refine zo_callVa (p' := 11) (t := 10) (as := [.int a0]) (r := []) (zi_18 rfl) rfl zl_1_116 rfl rfl (Or.inl ⟨by decide, rfl⟩) (Nat.le_of_ble_eq_true rfl) (Nat.le_of_ble_eq_true rfl) (f_19_ok hx8) (k_19 _ hx8) ?_
    refine zo_astore_n (p' := 12) (L' := [(0, zrf (some o)), (1, .int a0), (2, .int a1), (3, zrf r7)]) (zi_18 rfl) rfl zm_18_3 ⟨Or.inr ⟨by decide, rfl, fun q => absurd q (by decide)⟩, ⟨Or.inr ⟨by decide, rfl, fun q => absurd q (by decide)⟩, ⟨Or.inr ⟨by decide, rfl, fun _ => rfl⟩, ⟨Or.inl ⟨rfl, rfl⟩, trivial⟩⟩⟩⟩ ?_
    refine zo_aload_n (p' := 13) (zi_18 rfl) rfl rfl ?_
    rcases r7 with _ | q9
    · have g65 := zcs_none g64
      refine zo_nonnullF (p' := 16) (zi_18 rfl) rfl ?_
      refine zo_iconst (p' := 17) (v := (-1)) (zi_18 rfl) rfl rfl ?_
      cases g65
      exact zo_iret (zi_18 rfl) rfl ⟨rfl, rfl⟩
    · obtain ⟨hq10, g66⟩ := zcs_some g64
      refine zo_nonnullT (p' := 18) (zi_18 rfl) rfl hq10 ?_
      refine zo_iload_n (p' := 19) (zi_18 rfl) rfl rfl ?_
      by_cases hc11 : a1 = 0
      · rw [if_pos hc11] at g66
        refine zo_table (p' := 64) (n := 45) (zi_18 rfl) (by decide) (zsel_hit hc11 (by decide)) rfl ?_
        refine zo_aload_n (p' := 65) (zi_18 rfl) rfl rfl ?_
        obtain ⟨x19, hx20, g67⟩ := zb_of g66
        refine zo_getI (p' := 68) (zi_18 rfl) rfl zl_1_120 hx20 ?_
        cases g67
        exact zo_iret (zi_18 rfl) rfl ⟨rfl, rfl⟩
      · rw [if_neg hc11] at g66
        by_cases hc12 : a1 = 1
        · rw [if_pos hc12] at g66
          refine zo_table (p' := 69) (n := 50) (zi_18 rfl) (by decide) (zsel_skip hc11 (by decide) (zsel_hit hc12 (by decide))) rfl ?_
          refine zo_aload_n (p' := 70) (zi_18 rfl) rfl rfl ?_
          obtain ⟨x21, hx22, g68⟩ := zb_of g66
          refine zo_getI (p' := 73) (zi_18 rfl) rfl zl_1_123 hx22 ?_
          cases g68
          exact zo_iret (zi_18 rfl) rfl ⟨rfl, rfl⟩
        · rw [if_neg hc12] at g66
          by_cases hc13 : a1 = 2
          · rw [if_pos hc13] at g66
            refine zo_table (p' := 74) (n := 55) (zi_18 rfl) (by decide) (zsel_skip hc11 (by decide) (zsel_skip hc12 (by decide) (zsel_hit hc13 (by decide)))) rfl ?_
            refine zo_aload_n (p' := 75) (zi_18 rfl) rfl rfl ?_
            obtain ⟨x23, hx24, g69⟩ := zb_of g66
            refine zo_getI (p' := 78) (zi_18 rfl) rfl zl_1_126 hx24 ?_
            cases g69
            exact zo_iret (zi_18 rfl) rfl ⟨rfl, rfl⟩
          · rw [if_neg hc13] at g66
            by_cases hc14 : a1 = 3
            · rw [if_pos hc14] at g66
              refine zo_table (p' := 79) (n := 60) (zi_18 rfl) (by decide) (zsel_skip hc11 (by decide) (zsel_skip hc12 (by decide) (zsel_skip hc13 (by decide) (zsel_hit hc14 (by decide))))) rfl ?_
              refine zo_aload_n (p' := 80) (zi_18 rfl) rfl rfl ?_
              obtain ⟨x25, hx26, g70⟩ := zb_of g66
              refine zo_getI (p' := 83) (zi_18 rfl) rfl zl_1_129 hx26 ?_
              cases g70
              exact zo_iret (zi_18 rfl) rfl ⟨rfl, rfl⟩
            · rw [if_neg hc14] at g66
              by_cases hc15 : a1 = 4
              · rw [if_pos hc15] at g66
                refine zo_table (p' := 84) (n := 65) (zi_18 rfl) (by decide) (zsel_skip hc11 (by decide) (zsel_skip hc12 (by decide) (zsel_skip hc13 (by decide) (zsel_skip hc14 (by decide) (zsel_hit hc15 (by decide)))))) rfl ?_
                refine zo_aload_n (p' := 85) (zi_18 rfl) rfl rfl ?_
                obtain ⟨x27, hx28, g71⟩ := zb_of g66
                refine zo_getI (p' := 88) (zi_18 rfl) rfl zl_1_132 hx28 ?_
                cases g71
                exact zo_iret (zi_18 rfl) rfl ⟨rfl, rfl⟩
              · rw [if_neg hc15] at g66
                by_cases hc16 : a1 = 5
                · rw [if_pos hc16] at g66
                  refine zo_table (p' := 89) (n := 70) (zi_18 rfl) (by decide) (zsel_skip hc11 (by decide) (zsel_skip hc12 (by decide) (zsel_skip hc13 (by decide) (zsel_skip hc14 (by decide) (zsel_skip hc15 (by decide) (zsel_hit hc16 (by decide))))))) rfl ?_
                  refine zo_aload_n (p' := 90) (zi_18 rfl) rfl rfl ?_
                  obtain ⟨r29, hx30, g72⟩ := zb_of g66
                  refine zo_callVa (p' := 93) (t := 11) (as := []) (r := []) (zi_18 rfl) rfl zl_1_135 rfl rfl (Or.inl ⟨by decide, rfl⟩) (Nat.le_of_ble_eq_true rfl) (Nat.le_of_ble_eq_true rfl) (f_20_ok hx30) (k_20 _ hx30) ?_
                  refine zo_aload_n (p' := 94) (zi_18 rfl) rfl rfl ?_
                  refine zo_aload_n (p' := 95) (zi_18 rfl) rfl rfl ?_
                  obtain ⟨r31, hx32, g73⟩ := zb_of g72
                  refine zo_getR (p' := 98) (zi_18 rfl) rfl zl_1_12 hx32 ?_
                  obtain ⟨q33, h0, g74⟩ := zb_of g73
                  subst h0
                  obtain ⟨r34, hx35, g75⟩ := zb_of g74
                  refine zo_getR (p' := 101) (zi_18 rfl) rfl zl_1_100 hx35 ?_
                  obtain ⟨q36, h0, g76⟩ := zb_of g75
                  subst h0
                  obtain ⟨x37, hx38, g77⟩ := zb_of g76
                  refine zo_getI (p' := 104) (zi_18 rfl) rfl zl_1_139 hx38 ?_
                  obtain ⟨q39, h0, g78⟩ := zb_of g77
                  subst h0
                  obtain ⟨x40, hx41, g79⟩ := zb_of g78
                  refine zo_callVi (p' := 107) (t := 3) (as := [zrf (some q9), .int x37]) (r := []) (zi_18 rfl) rfl zl_1_142 rfl rfl (Or.inl ⟨by decide, rfl⟩) (Nat.le_of_ble_eq_true rfl) (Nat.le_of_ble_eq_true rfl) (f_21_ok hx41) (k_21 _ hx41) ?_
                  cases g79
                  exact zo_iret (zi_18 rfl) rfl ⟨rfl, rfl⟩
                · rw [if_neg hc16] at g66
                  by_cases hc17 : a1 = 6
                  · rw [if_pos hc17] at g66
                    refine zo_table (p' := 108) (n := 89) (zi_18 rfl) (by decide) (zsel_skip hc11 (by decide) (zsel_skip hc12 (by decide) (zsel_skip hc13 (by decide) (zsel_skip hc14 (by decide) (zsel_skip hc15 (by decide) (zsel_skip hc16 (by decide) (zsel_hit hc17 (by decide)))))))) rfl ?_
                    refine zo_aload_n (p' := 109) (zi_18 rfl) rfl rfl ?_
                    obtain ⟨x42, hx43, g80⟩ := zb_of g66
                    refine zo_getI (p' := 112) (zi_18 rfl) rfl zl_1_120 hx43 ?_
                    refine zo_aload_n (p' := 113) (zi_18 rfl) rfl rfl ?_
                    obtain ⟨x44, hx45, g81⟩ := zb_of g80
                    refine zo_getI (p' := 116) (zi_18 rfl) rfl zl_1_123 hx45 ?_
                    refine zo_aload_n (p' := 117) (zi_18 rfl) rfl rfl ?_
                    obtain ⟨x46, hx47, g82⟩ := zb_of g81
                    refine zo_getI (p' := 120) (zi_18 rfl) rfl zl_1_129 hx47 ?_
                    obtain ⟨x48, hx49, g83⟩ := zb_of g82
                    refine zo_callSi (p' := 123) (as := [.int x42, .int x44, .int x46]) (r := []) (zi_18 rfl) rfl (Or.inl zl_1_146) rfl rfl (Nat.le_of_ble_eq_true rfl) (Nat.le_of_ble_eq_true rfl) (k_25 _ hx49) ?_
                    cases g83
                    exact zo_iret (zi_18 rfl) rfl ⟨rfl, rfl⟩
                  · rw [if_neg hc17] at g66
                    by_cases hc18 : a1 = 7
                    · rw [if_pos hc18] at g66
                      refine zo_table (p' := 124) (n := 105) (zi_18 rfl) (by decide) (zsel_skip hc11 (by decide) (zsel_skip hc12 (by decide) (zsel_skip hc13 (by decide) (zsel_skip hc14 (by decide) (zsel_skip hc15 (by decide) (zsel_skip hc16 (by decide) (zsel_skip hc17 (by decide) (zsel_hit hc18 (by decide))))))))) rfl ?_
                      refine zo_aload_n (p' := 125) (zi_18 rfl) rfl rfl ?_
                      refine zo_aload_n (p' := 126) (zi_18 rfl) rfl rfl ?_
                      obtain ⟨r50, hx51, g84⟩ := zb_of g66
                      refine zo_callVa (p' := 129) (t := 11) (as := []) (r := [zrf (some q9)]) (zi_18 rfl) rfl zl_1_135 rfl rfl (Or.inl ⟨by decide, rfl⟩) (Nat.le_of_ble_eq_true rfl) (Nat.le_of_ble_eq_true rfl) (f_20_ok hx51) (k_20 _ hx51) ?_
                      obtain ⟨q52, h0, g85⟩ := zb_of g84
                      subst h0
                      obtain ⟨x53, hx54, g86⟩ := zb_of g85
                      refine zo_getI (p' := 132) (zi_18 rfl) rfl zl_1_150 hx54 ?_
                      obtain ⟨x55, hx56, g87⟩ := zb_of g86
                      refine zo_callSi (p' := 135) (as := [zrf (some q9), .int x53]) (r := []) (zi_18 rfl) rfl (Or.inl zl_1_153) rfl rfl (Nat.le_of_ble_eq_true rfl) (Nat.le_of_ble_eq_true rfl) (k_26 _ hx56) ?_
                      cases g87
                      exact zo_iret (zi_18 rfl) rfl ⟨rfl, rfl⟩
                    · rw [if_neg hc18] at g66
                      refine zo_table (p' := 136) (n := 117) (zi_18 rfl) (by decide) (zsel_skip hc11 (by decide) (zsel_skip hc12 (by decide) (zsel_skip hc13 (by decide) (zsel_skip hc14 (by decide) (zsel_skip hc15 (by decide) (zsel_skip hc16 (by decide) (zsel_skip hc17 (by decide) (zsel_skip hc18 (by decide) (rfl))))))))) rfl ?_
                      refine zo_aload_n (p' := 137) (zi_18 rfl) rfl rfl ?_
                      refine zo_aload_n (p' := 138) (zi_18 rfl) rfl rfl ?_
                      refine zo_iload_n (p' := 139) (zi_18 rfl) rfl rfl ?_
                      obtain ⟨x57, M59, hx58, g88⟩ := zbd_of g66
                      refine zo_callVi (p' := 142) (t := 11) (as := [zrf (some q9), .int a1]) (r := []) (zi_18 rfl) rfl zl_1_156 rfl rfl (Or.inl ⟨by decide, rfl⟩) (Nat.le_of_ble_eq_true rfl) (Nat.le_of_ble_eq_true rfl) (f_27_ok hx58) (k_27 _ hx58) ?_
                      cases g88
                      exact zo_iret (zi_18 rfl) rfl ⟨rfl, rfl⟩
  · rw [if_neg hok] at h; cases h
/-- SlateHalves.dry(II)I -/
def f_48 (M : ZMem) (o : Nat) (a0 : Int32) (a1 : Int32) : Option (Int32 × ZMem) := if zok M 11 o = true then (zb (zgr M 11 0 o) fun r1 => zb r1 fun q3 => zb (zgr M 7 0 q3) fun r4 => zb r4 fun q6 => zb (f_19 M q6 a0) fun r7 => zcs r7 (some ((-1), M)) (fun q9 => zb (f_14 M a1 0 99) fun x11 => if ¬ x11 = 0 then (zb (zgi M 1 4 q9) fun x14 => zb (zpf M 1 4 q9 (.int a1) false) fun M16 => some (x14, M16)) else (some ((-2), M)))) else none
theorem f_48_ok {M : ZMem} {o : Nat} {a0 : Int32} {a1 : Int32} {out : Int32 × ZMem} (h : f_48 M o a0 a1 = some out) : zok M 11 o = true := by
  unfold f_48 at h
  by_cases hok : zok M 11 o = true
  · exact hok
  · rw [if_neg hok] at h; cases h
set_option maxRecDepth 4000 in
theorem k_48 (d : Nat) {M : ZMem} {o : Nat} {a0 : Int32} {a1 : Int32} {out : Int32 × ZMem} (h : f_48 M o a0 a1 = some out) : zrn (d + 2) 48 [zrf (some o), .int a0, .int a1] M (some (.int out.1), out.2) := by
  unfold f_48 at h
  by_cases hok : zok M 11 o = true
  · rw [if_pos hok] at h
    refine zrn_of (L := [(0, zrf (some o)), (1, .int a0), (2, .int a1)]) rfl ?_
    refine zo_aload_n (p' := 1) (zi_48 rfl) rfl rfl ?_
    obtain ⟨r1, hx2, g18⟩ := zb_of h
    refine zo_getR (p' := 4) (zi_48 rfl) rfl zl_1_12 hx2 ?_
    obtain ⟨q3, h0, g19⟩ := zb_of g18
    subst h0
    obtain ⟨r4, hx5, g20⟩ := zb_of g19
    refine zo_getR (p' := 7) (zi_48 rfl) rfl zl_1_100 hx5 ?_
    refine zo_iload_n (p' := 8) (zi_48 rfl) rfl rfl ?_
    obtain ⟨q6, h0, g21⟩ := zb_of g20
    subst h0
    obtain ⟨r7, hx8, g22⟩ := zb_of g21
    refine zo_callVa (p' := 11) (t := 10) (as := [.int a0]) (r := []) (zi_48 rfl) rfl zl_1_116 rfl rfl (Or.inl ⟨by decide, rfl⟩) (Nat.le_of_ble_eq_true rfl) (Nat.le_of_ble_eq_true rfl) (f_19_ok hx8) (k_19 _ hx8) ?_
    refine zo_astore_n (p' := 12) (L' := [(0, zrf (some o)), (1, .int a0), (2, .int a1), (3, zrf r7)]) (zi_48 rfl) rfl zm_48_3 ⟨Or.inr ⟨by decide, rfl, fun q => absurd q (by decide)⟩, ⟨Or.inr ⟨by decide, rfl, fun q => absurd q (by decide)⟩, ⟨Or.inr ⟨by decide, rfl, fun _ => rfl⟩, ⟨Or.inl ⟨rfl, rfl⟩, trivial⟩⟩⟩⟩ ?_
    refine zo_aload_n (p' := 13) (zi_48 rfl) rfl rfl ?_
    rcases r7 with _ | q9
    · have g23 := zcs_none g22
      refine zo_nonnullF (p' := 16) (zi_48 rfl) rfl ?_
      refine zo_iconst (p' := 17) (v := (-1)) (zi_48 rfl) rfl rfl ?_
      cases g23
      exact zo_iret (zi_48 rfl) rfl ⟨rfl, rfl⟩
    · obtain ⟨hq10, g24⟩ := zcs_some g22
      refine zo_nonnullT (p' := 18) (zi_48 rfl) rfl hq10 ?_
      refine zo_iload_n (p' := 19) (zi_48 rfl) rfl rfl ?_
      refine zo_iconst (p' := 20) (v := 0) (zi_48 rfl) rfl rfl ?_
      refine zo_bipush (p' := 22) (v := 99) (zi_48 rfl) rfl rfl ?_
      obtain ⟨x11, hx12, g25⟩ := zb_of g24
      refine zo_callSi (p' := 25) (as := [.int a1, .int 0, .int 99]) (r := []) (zi_48 rfl) rfl (Or.inl zl_1_96) rfl rfl (Nat.le_of_ble_eq_true rfl) (Nat.le_of_ble_eq_true rfl) (k_14 _ hx12) ?_
      by_cases hc13 : ¬ x11 = 0
      · rw [if_pos hc13] at g25
        refine zo_ifT (p' := 31) (zi_48 rfl) rfl hc13 ?_
        refine zo_aload_n (p' := 32) (zi_48 rfl) rfl rfl ?_
        obtain ⟨x14, hx15, g26⟩ := zb_of g25
        refine zo_getI (p' := 35) (zi_48 rfl) rfl zl_1_129 hx15 ?_
        refine zo_istore (p' := 37) (L' := [(0, zrf (some o)), (1, .int a0), (2, .int a1), (3, zrf (some q9)), (4, .int x14)]) (zi_48 rfl) rfl zm_48_4 ⟨Or.inr ⟨by decide, rfl, fun q => absurd q (by decide)⟩, ⟨Or.inr ⟨by decide, rfl, fun q => absurd q (by decide)⟩, ⟨Or.inr ⟨by decide, rfl, fun q => absurd q (by decide)⟩, ⟨Or.inr ⟨by decide, rfl, fun _ => zrf_cat _⟩, ⟨Or.inl ⟨rfl, rfl⟩, trivial⟩⟩⟩⟩⟩ ?_
        refine zo_aload_n (p' := 38) (zi_48 rfl) rfl rfl ?_
        refine zo_iload_n (p' := 39) (zi_48 rfl) rfl rfl ?_
        obtain ⟨M16, hx17, g27⟩ := zb_of g26
        refine zo_putI (p' := 42) (zi_48 rfl) rfl zl_1_129 (zpb_48 _) hx17 ?_
        refine zo_iload (p' := 44) (zi_48 rfl) rfl rfl ?_
        cases g27
        exact zo_iret (zi_48 rfl) rfl ⟨rfl, rfl⟩
      · rw [if_neg hc13] at g25
        refine zo_ifF (p' := 28) (zi_48 rfl) rfl rfl hc13 ?_
        refine zo_bipush (p' := 30) (v := (-2)) (zi_48 rfl) rfl rfl ?_
        cases g25
        exact zo_iret (zi_48 rfl) rfl ⟨rfl, rfl⟩
  · rw [if_neg hok] at h; cases h
/-- SlateHalves.row(III)I -/
def f_49 (M : ZMem) (o : Nat) (a0 : Int32) (a1 : Int32) (a2 : Int32) : Option (Int32 × ZMem) := if zok M 11 o = true then (zb (zgr M 11 0 o) fun r1 => zb r1 fun q3 => zb (zgr M 7 0 q3) fun r4 => zb r4 fun q6 => zb (f_19 M q6 a0) fun r7 => zcs r7 (some ((-1), M)) (fun q9 => zb (f_14 M a1 0 3) fun x11 => if ¬ x11 = 0 then (zb (f_14 M a2 0 9) fun x14 => if ¬ x14 = 0 then (zb (zgi M 1 1 q9) fun x17 => if x17 = 6 then (zb (zgr M 1 6 q9) fun r20 => zb r20 fun q22 => zb (zai M q22 a1) fun x23 => zb (zgr M 1 6 q9) fun r25 => zb r25 fun q27 => zb (zsa M 20 q27 a1 a2) fun M28 => some (x23, M28)) else (some ((-3), M))) else (some ((-2), M))) else (some ((-1), M)))) else none
theorem f_49_ok {M : ZMem} {o : Nat} {a0 : Int32} {a1 : Int32} {a2 : Int32} {out : Int32 × ZMem} (h : f_49 M o a0 a1 a2 = some out) : zok M 11 o = true := by
  unfold f_49 at h
  by_cases hok : zok M 11 o = true
  · exact hok
  · rw [if_neg hok] at h; cases h
set_option maxRecDepth 4000 in
theorem k_49 (d : Nat) {M : ZMem} {o : Nat} {a0 : Int32} {a1 : Int32} {a2 : Int32} {out : Int32 × ZMem} (h : f_49 M o a0 a1 a2 = some out) : zrn (d + 2) 49 [zrf (some o), .int a0, .int a1, .int a2] M (some (.int out.1), out.2) := by
  unfold f_49 at h
  by_cases hok : zok M 11 o = true
  · rw [if_pos hok] at h
    refine zrn_of (L := [(0, zrf (some o)), (1, .int a0), (2, .int a1), (3, .int a2)]) rfl ?_
    refine zo_aload_n (p' := 1) (zi_49 rfl) rfl rfl ?_
    obtain ⟨r1, hx2, g30⟩ := zb_of h
    refine zo_getR (p' := 4) (zi_49 rfl) rfl zl_1_12 hx2 ?_
    obtain ⟨q3, h0, g31⟩ := zb_of g30
    subst h0
    obtain ⟨r4, hx5, g32⟩ := zb_of g31
    refine zo_getR (p' := 7) (zi_49 rfl) rfl zl_1_100 hx5 ?_
    refine zo_iload_n (p' := 8) (zi_49 rfl) rfl rfl ?_
    obtain ⟨q6, h0, g33⟩ := zb_of g32
    subst h0
    obtain ⟨r7, hx8, g34⟩ := zb_of g33
    refine zo_callVa (p' := 11) (t := 10) (as := [.int a0]) (r := []) (zi_49 rfl) rfl zl_1_116 rfl rfl (Or.inl ⟨by decide, rfl⟩) (Nat.le_of_ble_eq_true rfl) (Nat.le_of_ble_eq_true rfl) (f_19_ok hx8) (k_19 _ hx8) ?_
    refine zo_astore (p' := 13) (L' := [(0, zrf (some o)), (1, .int a0), (2, .int a1), (3, .int a2), (4, zrf r7)]) (zi_49 rfl) rfl zm_49_4 ⟨Or.inr ⟨by decide, rfl, fun q => absurd q (by decide)⟩, ⟨Or.inr ⟨by decide, rfl, fun q => absurd q (by decide)⟩, ⟨Or.inr ⟨by decide, rfl, fun q => absurd q (by decide)⟩, ⟨Or.inr ⟨by decide, rfl, fun _ => rfl⟩, ⟨Or.inl ⟨rfl, rfl⟩, trivial⟩⟩⟩⟩⟩ ?_
    refine zo_aload (p' := 15) (zi_49 rfl) rfl rfl ?_
    rcases r7 with _ | q9
    · have g35 := zcs_none g34
      refine zo_nullT (p' := 27) (zi_49 rfl) rfl ?_
      refine zo_iconst (p' := 28) (v := (-1)) (zi_49 rfl) rfl rfl ?_
      cases g35
      exact zo_iret (zi_49 rfl) rfl ⟨rfl, rfl⟩
    · obtain ⟨hq10, g36⟩ := zcs_some g34
      refine zo_nullF (p' := 18) (zi_49 rfl) rfl hq10 ?_
      refine zo_iload_n (p' := 19) (zi_49 rfl) rfl rfl ?_
      refine zo_iconst (p' := 20) (v := 0) (zi_49 rfl) rfl rfl ?_
      refine zo_iconst (p' := 21) (v := 3) (zi_49 rfl) rfl rfl ?_
      obtain ⟨x11, hx12, g37⟩ := zb_of g36
      refine zo_callSi (p' := 24) (as := [.int a1, .int 0, .int 3]) (r := []) (zi_49 rfl) rfl (Or.inl zl_1_96) rfl rfl (Nat.le_of_ble_eq_true rfl) (Nat.le_of_ble_eq_true rfl) (k_14 _ hx12) ?_
      by_cases hc13 : ¬ x11 = 0
      · rw [if_pos hc13] at g37
        refine zo_ifT (p' := 29) (zi_49 rfl) rfl hc13 ?_
        refine zo_iload_n (p' := 30) (zi_49 rfl) rfl rfl ?_
        refine zo_iconst (p' := 31) (v := 0) (zi_49 rfl) rfl rfl ?_
        refine zo_bipush (p' := 33) (v := 9) (zi_49 rfl) rfl rfl ?_
        obtain ⟨x14, hx15, g38⟩ := zb_of g37
        refine zo_callSi (p' := 36) (as := [.int a2, .int 0, .int 9]) (r := []) (zi_49 rfl) rfl (Or.inl zl_1_96) rfl rfl (Nat.le_of_ble_eq_true rfl) (Nat.le_of_ble_eq_true rfl) (k_14 _ hx15) ?_
        by_cases hc16 : ¬ x14 = 0
        · rw [if_pos hc16] at g38
          refine zo_ifT (p' := 42) (zi_49 rfl) rfl hc16 ?_
          refine zo_aload (p' := 44) (zi_49 rfl) rfl rfl ?_
          obtain ⟨x17, hx18, g39⟩ := zb_of g38
          refine zo_getI (p' := 47) (zi_49 rfl) rfl zl_1_120 hx18 ?_
          refine zo_bipush (p' := 49) (v := 6) (zi_49 rfl) rfl rfl ?_
          by_cases hc19 : x17 = 6
          · rw [if_pos hc19] at g39
            refine zo_icT (p' := 55) (zi_49 rfl) rfl hc19 ?_
            refine zo_aload (p' := 57) (zi_49 rfl) rfl rfl ?_
            obtain ⟨r20, hx21, g40⟩ := zb_of g39
            refine zo_getR (p' := 60) (zi_49 rfl) rfl zl_1_182 hx21 ?_
            refine zo_iload_n (p' := 61) (zi_49 rfl) rfl rfl ?_
            obtain ⟨q22, h0, g41⟩ := zb_of g40
            subst h0
            obtain ⟨x23, hx24, g42⟩ := zb_of g41
            refine zo_iald (p' := 62) (zi_49 rfl) rfl hx24 ?_
            refine zo_istore (p' := 64) (L' := [(0, zrf (some o)), (1, .int a0), (2, .int a1), (3, .int a2), (4, zrf (some q9)), (5, .int x23)]) (zi_49 rfl) rfl zm_49_5 ⟨Or.inr ⟨by decide, rfl, fun q => absurd q (by decide)⟩, ⟨Or.inr ⟨by decide, rfl, fun q => absurd q (by decide)⟩, ⟨Or.inr ⟨by decide, rfl, fun q => absurd q (by decide)⟩, ⟨Or.inr ⟨by decide, rfl, fun q => absurd q (by decide)⟩, ⟨Or.inr ⟨by decide, rfl, fun _ => zrf_cat _⟩, ⟨Or.inl ⟨rfl, rfl⟩, trivial⟩⟩⟩⟩⟩⟩ ?_
            refine zo_aload (p' := 66) (zi_49 rfl) rfl rfl ?_
            obtain ⟨r25, hx26, g43⟩ := zb_of g42
            refine zo_getR (p' := 69) (zi_49 rfl) rfl zl_1_182 hx26 ?_
            refine zo_iload_n (p' := 70) (zi_49 rfl) rfl rfl ?_
            refine zo_iload_n (p' := 71) (zi_49 rfl) rfl rfl ?_
            obtain ⟨q27, h0, g44⟩ := zb_of g43
            subst h0
            obtain ⟨M28, hx29, g45⟩ := zb_of g44
            refine zo_iast (p' := 72) (zi_49 rfl) rfl hx29 ?_
            refine zo_iload (p' := 74) (zi_49 rfl) rfl rfl ?_
            cases g45
            exact zo_iret (zi_49 rfl) rfl ⟨rfl, rfl⟩
          · rw [if_neg hc19] at g39
            refine zo_icF (p' := 52) (zi_49 rfl) rfl rfl hc19 ?_
            refine zo_bipush (p' := 54) (v := (-3)) (zi_49 rfl) rfl rfl ?_
            cases g39
            exact zo_iret (zi_49 rfl) rfl ⟨rfl, rfl⟩
        · rw [if_neg hc16] at g38
          refine zo_ifF (p' := 39) (zi_49 rfl) rfl rfl hc16 ?_
          refine zo_bipush (p' := 41) (v := (-2)) (zi_49 rfl) rfl rfl ?_
          cases g38
          exact zo_iret (zi_49 rfl) rfl ⟨rfl, rfl⟩
      · rw [if_neg hc13] at g37
        refine zo_ifF (p' := 27) (zi_49 rfl) rfl rfl hc13 ?_
        refine zo_iconst (p' := 28) (v := (-1)) (zi_49 rfl) rfl rfl ?_
        cases g37
        exact zo_iret (zi_49 rfl) rfl ⟨rfl, rfl⟩
  · rw [if_neg hok] at h; cases h
/-- SlateHalves$Blows.setBy(LSlateHalves$Block;I)V -/
def f_52 (M : ZMem) (o : Nat) (a0 : Option Nat) (a1 : Int32) : Option (ZMem) := if zok M 2 o = true then (zb a0 fun q1 => zb (zgi M 1 2 q1) fun x2 => zb (zgi M 1 4 q1) fun x4 => zb (f_29 M o (some q1) x2 x4 a1) fun M8 => some M8) else none
theorem f_52_ok {M : ZMem} {o : Nat} {a0 : Option Nat} {a1 : Int32} {out : ZMem} (h : f_52 M o a0 a1 = some out) : zok M 2 o = true := by
  unfold f_52 at h
  by_cases hok : zok M 2 o = true
  · exact hok
  · rw [if_neg hok] at h; cases h
set_option maxRecDepth 4000 in
theorem k_52 (d : Nat) {M : ZMem} {o : Nat} {a0 : Option Nat} {a1 : Int32} {out : ZMem} (h : f_52 M o a0 a1 = some out) : zrn (d + 3) 52 [zrf (some o), zrf a0, .int a1] M (none, out) := by
  unfold f_52 at h
  by_cases hok : zok M 2 o = true
  · rw [if_pos hok] at h
    refine zrn_of (L := [(0, zrf (some o)), (1, zrf a0), (2, .int a1)]) (by simp [lv_args, zrf_cat, zcat_i, zcat_l, zcat_r]) ?_
    refine zo_aload_n (p' := 1) (zi_52 rfl) rfl rfl ?_
    refine zo_aload_n (p' := 2) (zi_52 rfl) rfl rfl ?_
    refine zo_aload_n (p' := 3) (zi_52 rfl) rfl rfl ?_
    obtain ⟨q1, h0, g9⟩ := zb_of h
    subst h0
    obtain ⟨x2, hx3, g10⟩ := zb_of g9
    refine zo_getI (p' := 6) (zi_52 rfl) rfl zl_8_15 hx3 ?_
    refine zo_aload_n (p' := 7) (zi_52 rfl) rfl rfl ?_
    obtain ⟨x4, hx5, g11⟩ := zb_of g10
    refine zo_getI (p' := 10) (zi_52 rfl) rfl zl_8_20 hx5 ?_
    refine zo_iload_n (p' := 11) (zi_52 rfl) rfl rfl ?_
    obtain ⟨M8, hx7, g12⟩ := zb_of g11
    refine zo_callVv (p' := 14) (t := 2) (as := [zrf (some q1), .int x2, .int x4, .int a1]) (r := []) (zi_52 rfl) rfl zl_8_23 rfl rfl (Or.inl ⟨by decide, rfl⟩) (Nat.le_of_ble_eq_true rfl) (Nat.le_of_ble_eq_true rfl) (f_29_ok hx7) (k_29 _ hx7) ?_
    cases g12
    exact zo_vret (zi_52 rfl) rfl
  · rw [if_neg hok] at h; cases h
/-- SlateHalves.isCleanBlow(LSlateHalves$Block;II)Z -/
def f_51 (M : ZMem) (o : Nat) (a0 : Option Nat) (a1 : Int32) (a2 : Int32) : Option (Int32 × ZMem) := if zok M 11 o = true then (zb (zgr M 11 10 o) fun r1 => zb (zgr M 11 0 o) fun r3 => zb r3 fun q5 => zb (zgr M 7 0 q5) fun r6 => zb r6 fun q8 => zb (zgi M 10 3 q8) fun x9 => zb r1 fun q11 => zb (f_52 M q11 a0 x9) fun M14 => zb (zgr M14 11 10 o) fun r15 => zb r15 fun q17 => zb (f_41 M14 q17 a1 a2) fun x18 => if narrow .boolean (.int x18) = .int x18 then some (x18, M14) else none) else none
theorem f_51_ok {M : ZMem} {o : Nat} {a0 : Option Nat} {a1 : Int32} {a2 : Int32} {out : Int32 × ZMem} (h : f_51 M o a0 a1 a2 = some out) : zok M 11 o = true := by
  unfold f_51 at h
  by_cases hok : zok M 11 o = true
  · exact hok
  · rw [if_neg hok] at h; cases h
set_option maxRecDepth 4000 in
theorem k_51 (d : Nat) {M : ZMem} {o : Nat} {a0 : Option Nat} {a1 : Int32} {a2 : Int32} {out : Int32 × ZMem} (h : f_51 M o a0 a1 a2 = some out) : zrn (d + 4) 51 [zrf (some o), zrf a0, .int a1, .int a2] M (some (.int out.1), out.2) := by
  unfold f_51 at h
  by_cases hok : zok M 11 o = true
  · rw [if_pos hok] at h
    refine zrn_of (L := [(0, zrf (some o)), (1, zrf a0), (2, .int a1), (3, .int a2)]) (by simp [lv_args, zrf_cat, zcat_i, zcat_l, zcat_r]) ?_
    refine zo_aload_n (p' := 1) (zi_51 rfl) rfl rfl ?_
    obtain ⟨r1, hx2, g21⟩ := zb_of h
    refine zo_getR (p' := 4) (zi_51 rfl) rfl zl_1_64 hx2 ?_
    refine zo_aload_n (p' := 5) (zi_51 rfl) rfl rfl ?_
    refine zo_aload_n (p' := 6) (zi_51 rfl) rfl rfl ?_
    obtain ⟨r3, hx4, g22⟩ := zb_of g21
    refine zo_getR (p' := 9) (zi_51 rfl) rfl zl_1_12 hx4 ?_
    obtain ⟨q5, h0, g23⟩ := zb_of g22
    subst h0
    obtain ⟨r6, hx7, g24⟩ := zb_of g23
    refine zo_getR (p' := 12) (zi_51 rfl) rfl zl_1_100 hx7 ?_
    obtain ⟨q8, h0, g25⟩ := zb_of g24
    subst h0
    obtain ⟨x9, hx10, g26⟩ := zb_of g25
    refine zo_getI (p' := 15) (zi_51 rfl) rfl zl_1_139 hx10 ?_
    obtain ⟨q11, h0, g27⟩ := zb_of g26
    subst h0
    obtain ⟨M14, hx13, g28⟩ := zb_of g27
    refine zo_callVv (p' := 18) (t := 2) (as := [zrf a0, .int x9]) (r := []) (zi_51 rfl) rfl zl_1_320 rfl rfl (Or.inl ⟨by decide, rfl⟩) (Nat.le_of_ble_eq_true rfl) (by rw [zml_52]; simp [lg_sl, zrf_cat, zcat_i, zcat_l, zcat_r]; done) (f_52_ok hx13) (k_52 _ hx13) ?_
    refine zo_aload_n (p' := 19) (zi_51 rfl) rfl rfl ?_
    obtain ⟨r15, hx16, g29⟩ := zb_of g28
    refine zo_getR (p' := 22) (zi_51 rfl) rfl zl_1_64 hx16 ?_
    refine zo_iload_n (p' := 23) (zi_51 rfl) rfl rfl ?_
    refine zo_iload_n (p' := 24) (zi_51 rfl) rfl rfl ?_
    obtain ⟨q17, h0, g30⟩ := zb_of g29
    subst h0
    obtain ⟨x18, hx19, g31⟩ := zb_of g30
    refine zo_callVi (p' := 27) (t := 2) (as := [.int a1, .int a2]) (r := []) (zi_51 rfl) rfl zl_1_312 rfl rfl (Or.inl ⟨by decide, rfl⟩) (Nat.le_of_ble_eq_true rfl) (Nat.le_of_ble_eq_true rfl) (f_41_ok hx19) (k_41 _ hx19) ?_
    by_cases hr20 : narrow .boolean (.int x18) = .int x18
    · rw [if_pos hr20] at g31
      cases g31
      exact zo_iret (zi_51 rfl) rfl ⟨rfl, hr20⟩
    · rw [if_neg hr20] at g31; cases g31
  · rw [if_neg hok] at h; cases h
/-- SlateHalves$Block.copyFrom(LSlateHalves$Block;)V -/
def f_53 (M : ZMem) (o : Nat) (a0 : Option Nat) : Option (ZMem) := if zok M 1 o = true then (zb a0 fun q1 => zb (zgi M 1 1 q1) fun x2 => zb (zpf M 1 1 o (.int x2) false) fun M4 => zb (zgi M4 1 2 q1) fun x6 => zb (zpf M4 1 2 o (.int x6) false) fun M8 => zb (zgi M8 1 3 q1) fun x10 => zb (zpf M8 1 3 o (.int x10) false) fun M12 => zb (zgi M12 1 4 q1) fun x14 => zb (zpf M12 1 4 o (.int x14) false) fun M16 => zb (zgi M16 1 5 q1) fun x18 => zb (zpf M16 1 5 o (.int x18) false) fun M20 => zb (zgr M20 1 6 q1) fun r22 => zb (zgr M20 1 6 o) fun r24 => zb r24 fun q26 => zb r22 fun q27 => zb (zcopy M20 q27 0 q26 0 4) fun M28 => some M28) else none
theorem f_53_ok {M : ZMem} {o : Nat} {a0 : Option Nat} {out : ZMem} (h : f_53 M o a0 = some out) : zok M 1 o = true := by
  unfold f_53 at h
  by_cases hok : zok M 1 o = true
  · exact hok
  · rw [if_neg hok] at h; cases h
set_option maxRecDepth 4000 in
theorem k_53 (d : Nat) {M : ZMem} {o : Nat} {a0 : Option Nat} {out : ZMem} (h : f_53 M o a0 = some out) : zrn (d + 1) 53 [zrf (some o), zrf a0] M (none, out) := by
  unfold f_53 at h
  by_cases hok : zok M 1 o = true
  · rw [if_pos hok] at h
    refine zrn_of (L := [(0, zrf (some o)), (1, zrf a0)]) (by simp [lv_args, zrf_cat, zcat_i, zcat_l, zcat_r]) ?_
    refine zo_aload_n (p' := 1) (zi_53 rfl) rfl rfl ?_
    refine zo_aload_n (p' := 2) (zi_53 rfl) rfl rfl ?_
    obtain ⟨q1, h0, g30⟩ := zb_of h
    subst h0
    obtain ⟨x2, hx3, g31⟩ := zb_of g30
    refine zo_getI (p' := 5) (zi_53 rfl) rfl zl_4_22 hx3 ?_
    obtain ⟨M4, hx5, g32⟩ := zb_of g31
    refine zo_putI (p' := 8) (zi_53 rfl) rfl zl_4_22 (zpb_53 _) hx5 ?_
    refine zo_aload_n (p' := 9) (zi_53 rfl) rfl rfl ?_
    refine zo_aload_n (p' := 10) (zi_53 rfl) rfl rfl ?_
    obtain ⟨x6, hx7, g33⟩ := zb_of g32
    refine zo_getI (p' := 13) (zi_53 rfl) rfl zl_4_25 hx7 ?_
    obtain ⟨M8, hx9, g34⟩ := zb_of g33
    refine zo_putI (p' := 16) (zi_53 rfl) rfl zl_4_25 (zpb_53 _) hx9 ?_
    refine zo_aload_n (p' := 17) (zi_53 rfl) rfl rfl ?_
    refine zo_aload_n (p' := 18) (zi_53 rfl) rfl rfl ?_
    obtain ⟨x10, hx11, g35⟩ := zb_of g34
    refine zo_getI (p' := 21) (zi_53 rfl) rfl zl_4_19 hx11 ?_
    obtain ⟨M12, hx13, g36⟩ := zb_of g35
    refine zo_putI (p' := 24) (zi_53 rfl) rfl zl_4_19 (zpb_53 _) hx13 ?_
    refine zo_aload_n (p' := 25) (zi_53 rfl) rfl rfl ?_
    refine zo_aload_n (p' := 26) (zi_53 rfl) rfl rfl ?_
    obtain ⟨x14, hx15, g37⟩ := zb_of g36
    refine zo_getI (p' := 29) (zi_53 rfl) rfl zl_4_28 hx15 ?_
    obtain ⟨M16, hx17, g38⟩ := zb_of g37
    refine zo_putI (p' := 32) (zi_53 rfl) rfl zl_4_28 (zpb_53 _) hx17 ?_
    refine zo_aload_n (p' := 33) (zi_53 rfl) rfl rfl ?_
    refine zo_aload_n (p' := 34) (zi_53 rfl) rfl rfl ?_
    obtain ⟨x18, hx19, g39⟩ := zb_of g38
    refine zo_getI (p' := 37) (zi_53 rfl) rfl zl_4_31 hx19 ?_
    obtain ⟨M20, hx21, g40⟩ := zb_of g39
    refine zo_putI (p' := 40) (zi_53 rfl) rfl zl_4_31 (zpb_53 _) hx21 ?_
    refine zo_aload_n (p' := 41) (zi_53 rfl) rfl rfl ?_
    obtain ⟨r22, hx23, g41⟩ := zb_of g40
    refine zo_getR (p' := 44) (zi_53 rfl) rfl zl_4_9 hx23 ?_
    refine zo_iconst (p' := 45) (v := 0) (zi_53 rfl) rfl rfl ?_
    refine zo_aload_n (p' := 46) (zi_53 rfl) rfl rfl ?_
    obtain ⟨r24, hx25, g42⟩ := zb_of g41
    refine zo_getR (p' := 49) (zi_53 rfl) rfl zl_4_9 hx25 ?_
    refine zo_iconst (p' := 50) (v := 0) (zi_53 rfl) rfl rfl ?_
    refine zo_iconst (p' := 51) (v := 4) (zi_53 rfl) rfl rfl ?_
    obtain ⟨q26, h0, g43⟩ := zb_of g42
    subst h0
    obtain ⟨q27, h0, g44⟩ := zb_of g43
    subst h0
    obtain ⟨M28, hx29, g45⟩ := zb_of g44
    refine zo_copy (p' := 54) (zi_53 rfl) rfl zl_4_40 (Nat.le_of_ble_eq_true rfl) hx29 ?_
    cases g45
    exact zo_vret (zi_53 rfl) rfl
  · rw [if_neg hok] at h; cases h
/-- SlateHalves.strike(II)I -/
def f_50 (M : ZMem) (o : Nat) (a0 : Int32) (a1 : Int32) : Option (Int32 × ZMem) := if zok M 11 o = true then (zb (zgr M 11 0 o) fun r1 => zb r1 fun q3 => zb (zgr M 7 0 q3) fun r4 => zb r4 fun q6 => zb (f_19 M q6 a0) fun r7 => zcs r7 (some ((-1), M)) (fun q9 => zb (zgi M 1 3 q9) fun x11 => zb (f_14 M a1 1 ((x11 - 1))) fun x13 => if ¬ x13 = 0 then (zb (zgi M 1 5 q9) fun x16 => if x16 < 9999 then (zbd (f_51 M o (some q9) x11 a1) fun x19 M21 => if ¬ x19 = 0 then (zb (zgr M21 11 0 o) fun r23 => zb r23 fun q25 => zb (zgr M21 7 0 q25) fun r26 => zb r26 fun q28 => zbd (f_15 M21 q28) fun r29 M31 => zcs r29 (some ((-4), M31)) (fun q32 => zb (zgi M31 1 5 q9) fun x34 => zb (zpf M31 1 5 q9 (.int ((x34 + 1))) false) fun M36 => zb (zpf M36 1 3 q9 (.int a1) false) fun M38 => zb (f_53 M38 q32 (some q9)) fun M42 => zb (zpf M42 1 3 q32 (.int ((x11 - a1))) false) fun M43 => zb (zpf M43 1 5 q32 (.int 0) false) fun M45 => some (1, M45))) else (zb (zgi M21 1 5 q9) fun x47 => zb (zpf M21 1 5 q9 (.int ((x47 + 1))) false) fun M49 => zb (f_24 M49 a1 ((x11 - a1))) fun x51 => zb (zpf M49 1 3 q9 (.int x51) false) fun M53 => some (0, M53))) else (some ((-3), M))) else (some ((-2), M)))) else none
theorem f_50_ok {M : ZMem} {o : Nat} {a0 : Int32} {a1 : Int32} {out : Int32 × ZMem} (h : f_50 M o a0 a1 = some out) : zok M 11 o = true := by
  unfold f_50 at h
  by_cases hok : zok M 11 o = true
  · exact hok
  · rw [if_neg hok] at h; cases h
set_option maxRecDepth 4000 in
theorem k_50 (d : Nat) {M : ZMem} {o : Nat} {a0 : Int32} {a1 : Int32} {out : Int32 × ZMem} (h : f_50 M o a0 a1 = some out) : zrn (d + 5) 50 [zrf (some o), .int a0, .int a1] M (some (.int out.1), out.2) := by
  unfold f_50 at h
  by_cases hok : zok M 11 o = true
  · rw [if_pos hok] at h
    refine zrn_of (L := [(0, zrf (some o)), (1, .int a0), (2, .int a1)]) rfl ?_
    refine zo_aload_n (p' := 1) (zi_50 rfl) rfl rfl ?_
    obtain ⟨r1, hx2, g55⟩ := zb_of h
    refine zo_getR (p' := 4) (zi_50 rfl) rfl zl_1_12 hx2 ?_
    obtain ⟨q3, h0, g56⟩ := zb_of g55
    subst h0
    obtain ⟨r4, hx5, g57⟩ := zb_of g56
    refine zo_getR (p' := 7) (zi_50 rfl) rfl zl_1_100 hx5 ?_
    refine zo_iload_n (p' := 8) (zi_50 rfl) rfl rfl ?_
    obtain ⟨q6, h0, g58⟩ := zb_of g57
    subst h0
    obtain ⟨r7, hx8, g59⟩ := zb_of g58
    refine zo_callVa (p' := 11) (t := 10) (as := [.int a0]) (r := []) (zi_50 rfl) rfl zl_1_116 rfl rfl (Or.inl ⟨by decide, rfl⟩) (Nat.le_of_ble_eq_true rfl) (Nat.le_of_ble_eq_true rfl) (f_19_ok hx8) (k_19 _ hx8) ?_
    refine zo_astore_n (p' := 12) (L' := [(0, zrf (some o)), (1, .int a0), (2, .int a1), (3, zrf r7)]) (zi_50 rfl) rfl zm_50_3 ⟨Or.inr ⟨by decide, rfl, fun q => absurd q (by decide)⟩, ⟨Or.inr ⟨by decide, rfl, fun q => absurd q (by decide)⟩, ⟨Or.inr ⟨by decide, rfl, fun _ => rfl⟩, ⟨Or.inl ⟨rfl, rfl⟩, trivial⟩⟩⟩⟩ ?_
    refine zo_aload_n (p' := 13) (zi_50 rfl) rfl rfl ?_
    rcases r7 with _ | q9
    · have g60 := zcs_none g59
      refine zo_nonnullF (p' := 16) (zi_50 rfl) rfl ?_
      refine zo_iconst (p' := 17) (v := (-1)) (zi_50 rfl) rfl rfl ?_
      cases g60
      exact zo_iret (zi_50 rfl) rfl ⟨rfl, rfl⟩
    · obtain ⟨hq10, g61⟩ := zcs_some g59
      refine zo_nonnullT (p' := 18) (zi_50 rfl) rfl hq10 ?_
      refine zo_aload_n (p' := 19) (zi_50 rfl) rfl rfl ?_
      obtain ⟨x11, hx12, g62⟩ := zb_of g61
      refine zo_getI (p' := 22) (zi_50 rfl) rfl zl_1_126 hx12 ?_
      refine zo_istore (p' := 24) (L' := [(0, zrf (some o)), (1, .int a0), (2, .int a1), (3, zrf (some q9)), (4, .int x11)]) (zi_50 rfl) rfl zm_50_4 ⟨Or.inr ⟨by decide, rfl, fun q => absurd q (by decide)⟩, ⟨Or.inr ⟨by decide, rfl, fun q => absurd q (by decide)⟩, ⟨Or.inr ⟨by decide, rfl, fun q => absurd q (by decide)⟩, ⟨Or.inr ⟨by decide, rfl, fun _ => zrf_cat _⟩, ⟨Or.inl ⟨rfl, rfl⟩, trivial⟩⟩⟩⟩⟩ ?_
      refine zo_iload_n (p' := 25) (zi_50 rfl) rfl rfl ?_
      refine zo_iconst (p' := 26) (v := 1) (zi_50 rfl) rfl rfl ?_
      refine zo_iload (p' := 28) (zi_50 rfl) rfl rfl ?_
      refine zo_iconst (p' := 29) (v := 1) (zi_50 rfl) rfl rfl ?_
      refine zo_isub (p' := 30) (zi_50 rfl) rfl ?_
      obtain ⟨x13, hx14, g63⟩ := zb_of g62
      refine zo_callSi (p' := 33) (as := [.int a1, .int 1, .int ((x11 - 1))]) (r := []) (zi_50 rfl) rfl (Or.inl zl_1_96) rfl rfl (Nat.le_of_ble_eq_true rfl) (Nat.le_of_ble_eq_true rfl) (k_14 _ hx14) ?_
      by_cases hc15 : ¬ x13 = 0
      · rw [if_pos hc15] at g63
        refine zo_ifT (p' := 39) (zi_50 rfl) rfl hc15 ?_
        refine zo_aload_n (p' := 40) (zi_50 rfl) rfl rfl ?_
        obtain ⟨x16, hx17, g64⟩ := zb_of g63
        refine zo_getI (p' := 43) (zi_50 rfl) rfl zl_1_132 hx17 ?_
        refine zo_sipush (p' := 46) (v := 9999) (zi_50 rfl) rfl rfl ?_
        by_cases hc18 : x16 < 9999
        · rw [if_pos hc18] at g64
          refine zo_icT (p' := 52) (zi_50 rfl) rfl hc18 ?_
          refine zo_aload_n (p' := 53) (zi_50 rfl) rfl rfl ?_
          refine zo_aload_n (p' := 54) (zi_50 rfl) rfl rfl ?_
          refine zo_iload (p' := 56) (zi_50 rfl) rfl rfl ?_
          refine zo_iload_n (p' := 57) (zi_50 rfl) rfl rfl ?_
          obtain ⟨x19, M21, hx20, g65⟩ := zbd_of g64
          refine zo_callVi (p' := 60) (t := 11) (as := [zrf (some q9), .int x11, .int a1]) (r := []) (zi_50 rfl) rfl zl_1_186 rfl rfl (Or.inl ⟨by decide, rfl⟩) (Nat.le_of_ble_eq_true rfl) (Nat.le_of_ble_eq_true rfl) (f_51_ok hx20) (k_51 _ hx20) ?_
          by_cases hc22 : ¬ x19 = 0
          · rw [if_pos hc22] at g65
            refine zo_ifT (p' := 87) (zi_50 rfl) rfl hc22 ?_
            refine zo_aload_n (p' := 88) (zi_50 rfl) rfl rfl ?_
            obtain ⟨r23, hx24, g66⟩ := zb_of g65
            refine zo_getR (p' := 91) (zi_50 rfl) rfl zl_1_12 hx24 ?_
            obtain ⟨q25, h0, g67⟩ := zb_of g66
            subst h0
            obtain ⟨r26, hx27, g68⟩ := zb_of g67
            refine zo_getR (p' := 94) (zi_50 rfl) rfl zl_1_100 hx27 ?_
            obtain ⟨q28, h0, g69⟩ := zb_of g68
            subst h0
            obtain ⟨r29, M31, hx30, g70⟩ := zbd_of g69
            refine zo_callVa (p' := 97) (t := 10) (as := []) (r := []) (zi_50 rfl) rfl zl_1_103 rfl rfl (Or.inl ⟨by decide, rfl⟩) (Nat.le_of_ble_eq_true rfl) (Nat.le_of_ble_eq_true rfl) (f_15_ok hx30) (k_15 _ hx30) ?_
            refine zo_astore (p' := 99) (L' := [(0, zrf (some o)), (1, .int a0), (2, .int a1), (3, zrf (some q9)), (4, .int x11), (5, zrf r29)]) (zi_50 rfl) rfl zm_50_5 ⟨Or.inr ⟨by decide, rfl, fun q => absurd q (by decide)⟩, ⟨Or.inr ⟨by decide, rfl, fun q => absurd q (by decide)⟩, ⟨Or.inr ⟨by decide, rfl, fun q => absurd q (by decide)⟩, ⟨Or.inr ⟨by decide, rfl, fun q => absurd q (by decide)⟩, ⟨Or.inr ⟨by decide, rfl, fun _ => rfl⟩, ⟨Or.inl ⟨rfl, rfl⟩, trivial⟩⟩⟩⟩⟩⟩ ?_
            refine zo_aload (p' := 101) (zi_50 rfl) rfl rfl ?_
            rcases r29 with _ | q32
            · have g71 := zcs_none g70
              refine zo_nonnullF (p' := 104) (zi_50 rfl) rfl ?_
              refine zo_bipush (p' := 106) (v := (-4)) (zi_50 rfl) rfl rfl ?_
              cases g71
              exact zo_iret (zi_50 rfl) rfl ⟨rfl, rfl⟩
            · obtain ⟨hq33, g72⟩ := zcs_some g70
              refine zo_nonnullT (p' := 107) (zi_50 rfl) rfl hq33 ?_
              refine zo_aload_n (p' := 108) (zi_50 rfl) rfl rfl ?_
              refine zo_dup (p' := 109) (zi_50 rfl) rfl (zrf_cat _) ?_
              obtain ⟨x34, hx35, g73⟩ := zb_of g72
              refine zo_getI (p' := 112) (zi_50 rfl) rfl zl_1_132 hx35 ?_
              refine zo_iconst (p' := 113) (v := 1) (zi_50 rfl) rfl rfl ?_
              refine zo_iadd (p' := 114) (zi_50 rfl) rfl ?_
              obtain ⟨M36, hx37, g74⟩ := zb_of g73
              refine zo_putI (p' := 117) (zi_50 rfl) rfl zl_1_132 (zpb_50 _) hx37 ?_
              refine zo_aload_n (p' := 118) (zi_50 rfl) rfl rfl ?_
              refine zo_iload_n (p' := 119) (zi_50 rfl) rfl rfl ?_
              obtain ⟨M38, hx39, g75⟩ := zb_of g74
              refine zo_putI (p' := 122) (zi_50 rfl) rfl zl_1_126 (zpb_50 _) hx39 ?_
              refine zo_aload (p' := 124) (zi_50 rfl) rfl rfl ?_
              refine zo_aload_n (p' := 125) (zi_50 rfl) rfl rfl ?_
              obtain ⟨M42, hx41, g76⟩ := zb_of g75
              refine zo_callVv (p' := 128) (t := 1) (as := [zrf (some q9)]) (r := []) (zi_50 rfl) rfl zl_1_196 rfl rfl (Or.inl ⟨by decide, rfl⟩) (Nat.le_of_ble_eq_true rfl) (Nat.le_of_ble_eq_true rfl) (f_53_ok hx41) (k_53 _ hx41) ?_
              refine zo_aload (p' := 130) (zi_50 rfl) rfl rfl ?_
              refine zo_iload (p' := 132) (zi_50 rfl) rfl rfl ?_
              refine zo_iload_n (p' := 133) (zi_50 rfl) rfl rfl ?_
              refine zo_isub (p' := 134) (zi_50 rfl) rfl ?_
              obtain ⟨M43, hx44, g77⟩ := zb_of g76
              refine zo_putI (p' := 137) (zi_50 rfl) rfl zl_1_126 (zpb_50 _) hx44 ?_
              refine zo_aload (p' := 139) (zi_50 rfl) rfl rfl ?_
              refine zo_iconst (p' := 140) (v := 0) (zi_50 rfl) rfl rfl ?_
              obtain ⟨M45, hx46, g78⟩ := zb_of g77
              refine zo_putI (p' := 143) (zi_50 rfl) rfl zl_1_132 (zpb_50 _) hx46 ?_
              refine zo_iconst (p' := 144) (v := 1) (zi_50 rfl) rfl rfl ?_
              cases g78
              exact zo_iret (zi_50 rfl) rfl ⟨rfl, rfl⟩
          · rw [if_neg hc22] at g65
            refine zo_ifF (p' := 63) (zi_50 rfl) rfl rfl hc22 ?_
            refine zo_aload_n (p' := 64) (zi_50 rfl) rfl rfl ?_
            refine zo_dup (p' := 65) (zi_50 rfl) rfl (zrf_cat _) ?_
            obtain ⟨x47, hx48, g79⟩ := zb_of g65
            refine zo_getI (p' := 68) (zi_50 rfl) rfl zl_1_132 hx48 ?_
            refine zo_iconst (p' := 69) (v := 1) (zi_50 rfl) rfl rfl ?_
            refine zo_iadd (p' := 70) (zi_50 rfl) rfl ?_
            obtain ⟨M49, hx50, g80⟩ := zb_of g79
            refine zo_putI (p' := 73) (zi_50 rfl) rfl zl_1_132 (zpb_50 _) hx50 ?_
            refine zo_aload_n (p' := 74) (zi_50 rfl) rfl rfl ?_
            refine zo_iload_n (p' := 75) (zi_50 rfl) rfl rfl ?_
            refine zo_iload (p' := 77) (zi_50 rfl) rfl rfl ?_
            refine zo_iload_n (p' := 78) (zi_50 rfl) rfl rfl ?_
            refine zo_isub (p' := 79) (zi_50 rfl) rfl ?_
            obtain ⟨x51, hx52, g81⟩ := zb_of g80
            refine zo_callSi (p' := 82) (as := [.int a1, .int ((x11 - a1))]) (r := [zrf (some q9)]) (zi_50 rfl) rfl (Or.inl zl_1_190) rfl rfl (Nat.le_of_ble_eq_true rfl) (Nat.le_of_ble_eq_true rfl) (k_24 _ hx52) ?_
            obtain ⟨M53, hx54, g82⟩ := zb_of g81
            refine zo_putI (p' := 85) (zi_50 rfl) rfl zl_1_126 (zpb_50 _) hx54 ?_
            refine zo_iconst (p' := 86) (v := 0) (zi_50 rfl) rfl rfl ?_
            cases g82
            exact zo_iret (zi_50 rfl) rfl ⟨rfl, rfl⟩
        · rw [if_neg hc18] at g64
          refine zo_icF (p' := 49) (zi_50 rfl) rfl rfl hc18 ?_
          refine zo_bipush (p' := 51) (v := (-3)) (zi_50 rfl) rfl rfl ?_
          cases g64
          exact zo_iret (zi_50 rfl) rfl ⟨rfl, rfl⟩
      · rw [if_neg hc15] at g63
        refine zo_ifF (p' := 36) (zi_50 rfl) rfl rfl hc15 ?_
        refine zo_bipush (p' := 38) (v := (-2)) (zi_50 rfl) rfl rfl ?_
        cases g63
        exact zo_iret (zi_50 rfl) rfl ⟨rfl, rfl⟩
  · rw [if_neg hok] at h; cases h
/-- SlateHalves.isBlow(II)Z -/
def f_55 (M : ZMem) (a0 : Int32) (a1 : Int32) : Option (Int32) := zb (f_14 M a0 2 60) fun x1 => if x1 = 0 then (some 0) else (zb (f_14 M a1 1 ((a0 - 1))) fun x4 => if x4 = 0 then (some 0) else (some 1))
set_option maxRecDepth 4000 in
theorem k_55 (d : Nat) {M : ZMem} {a0 : Int32} {a1 : Int32} {out : Int32} (h : f_55 M a0 a1 = some out) : zrn (d + 1) 55 [.int a0, .int a1] M (some (.int out), M) := by
  unfold f_55 at h
  refine zrn_of (L := [(0, .int a0), (1, .int a1)]) rfl ?_
  refine zo_iload_n (p' := 1) (zi_55 rfl) rfl rfl ?_
  refine zo_iconst (p' := 2) (v := 2) (zi_55 rfl) rfl rfl ?_
  refine zo_bipush (p' := 4) (v := 60) (zi_55 rfl) rfl rfl ?_
  obtain ⟨x1, hx2, g7⟩ := zb_of h
  refine zo_callSi (p' := 7) (as := [.int a0, .int 2, .int 60]) (r := []) (zi_55 rfl) rfl (Or.inl zl_1_96) rfl rfl (Nat.le_of_ble_eq_true rfl) (Nat.le_of_ble_eq_true rfl) (k_14 _ hx2) ?_
  by_cases hc3 : x1 = 0
  · rw [if_pos hc3] at g7
    refine zo_ifT (p' := 25) (zi_55 rfl) rfl hc3 ?_
    refine zo_iconst (p' := 26) (v := 0) (zi_55 rfl) rfl rfl ?_
    cases g7
    exact zo_iret (zi_55 rfl) rfl ⟨rfl, rfl⟩
  · rw [if_neg hc3] at g7
    refine zo_ifF (p' := 10) (zi_55 rfl) rfl rfl hc3 ?_
    refine zo_iload_n (p' := 11) (zi_55 rfl) rfl rfl ?_
    refine zo_iconst (p' := 12) (v := 1) (zi_55 rfl) rfl rfl ?_
    refine zo_iload_n (p' := 13) (zi_55 rfl) rfl rfl ?_
    refine zo_iconst (p' := 14) (v := 1) (zi_55 rfl) rfl rfl ?_
    refine zo_isub (p' := 15) (zi_55 rfl) rfl ?_
    obtain ⟨x4, hx5, g8⟩ := zb_of g7
    refine zo_callSi (p' := 18) (as := [.int a1, .int 1, .int ((a0 - 1))]) (r := []) (zi_55 rfl) rfl (Or.inl zl_1_96) rfl rfl (Nat.le_of_ble_eq_true rfl) (Nat.le_of_ble_eq_true rfl) (k_14 _ hx5) ?_
    by_cases hc6 : x4 = 0
    · rw [if_pos hc6] at g8
      refine zo_ifT (p' := 25) (zi_55 rfl) rfl hc6 ?_
      refine zo_iconst (p' := 26) (v := 0) (zi_55 rfl) rfl rfl ?_
      cases g8
      exact zo_iret (zi_55 rfl) rfl ⟨rfl, rfl⟩
    · rw [if_neg hc6] at g8
      refine zo_ifF (p' := 21) (zi_55 rfl) rfl rfl hc6 ?_
      refine zo_iconst (p' := 22) (v := 1) (zi_55 rfl) rfl rfl ?_
      refine zo_goto (p' := 26) (zi_55 rfl) rfl ?_
      cases g8
      exact zo_iret (zi_55 rfl) rfl ⟨rfl, rfl⟩
/-- SlateHalves.clean(III)I -/
def f_54 (M : ZMem) (o : Nat) (a0 : Int32) (a1 : Int32) (a2 : Int32) : Option (Int32 × ZMem) := if zok M 11 o = true then (zb (zgr M 11 0 o) fun r1 => zb r1 fun q3 => zb (zgr M 7 0 q3) fun r4 => zb r4 fun q6 => zb (f_19 M q6 a0) fun r7 => zcs r7 (some ((-1), M)) (fun q9 => zb (f_55 M a1 a2) fun x11 => if ¬ x11 = 0 then (zbd (f_51 M o (some q9) a1 a2) fun x14 M16 => if x14 = 0 then (some (0, M16)) else (some (1, M16))) else (some ((-2), M)))) else none
theorem f_54_ok {M : ZMem} {o : Nat} {a0 : Int32} {a1 : Int32} {a2 : Int32} {out : Int32 × ZMem} (h : f_54 M o a0 a1 a2 = some out) : zok M 11 o = true := by
  unfold f_54 at h
  by_cases hok : zok M 11 o = true
  · exact hok
  · rw [if_neg hok] at h; cases h
set_option maxRecDepth 4000 in
theorem k_54 (d : Nat) {M : ZMem} {o : Nat} {a0 : Int32} {a1 : Int32} {a2 : Int32} {out : Int32 × ZMem} (h : f_54 M o a0 a1 a2 = some out) : zrn (d + 5) 54 [zrf (some o), .int a0, .int a1, .int a2] M (some (.int out.1), out.2) := by
  unfold f_54 at h
  by_cases hok : zok M 11 o = true
  · rw [if_pos hok] at h
    refine zrn_of (L := [(0, zrf (some o)), (1, .int a0), (2, .int a1), (3, .int a2)]) rfl ?_
    refine zo_aload_n (p' := 1) (zi_54 rfl) rfl rfl ?_
    obtain ⟨r1, hx2, g18⟩ := zb_of h
    refine zo_getR (p' := 4) (zi_54 rfl) rfl zl_1_12 hx2 ?_
    obtain ⟨q3, h0, g19⟩ := zb_of g18
    subst h0
    obtain ⟨r4, hx5, g20⟩ := zb_of g19
    refine zo_getR (p' := 7) (zi_54 rfl) rfl zl_1_100 hx5 ?_
    refine zo_iload_n (p' := 8) (zi_54 rfl) rfl rfl ?_
    obtain ⟨q6, h0, g21⟩ := zb_of g20
    subst h0
    obtain ⟨r7, hx8, g22⟩ := zb_of g21
    refine zo_callVa (p' := 11) (t := 10) (as := [.int a0]) (r := []) (zi_54 rfl) rfl zl_1_116 rfl rfl (Or.inl ⟨by decide, rfl⟩) (Nat.le_of_ble_eq_true rfl) (Nat.le_of_ble_eq_true rfl) (f_19_ok hx8) (k_19 _ hx8) ?_
    refine zo_astore (p' := 13) (L' := [(0, zrf (some o)), (1, .int a0), (2, .int a1), (3, .int a2), (4, zrf r7)]) (zi_54 rfl) rfl zm_54_4 ⟨Or.inr ⟨by decide, rfl, fun q => absurd q (by decide)⟩, ⟨Or.inr ⟨by decide, rfl, fun q => absurd q (by decide)⟩, ⟨Or.inr ⟨by decide, rfl, fun q => absurd q (by decide)⟩, ⟨Or.inr ⟨by decide, rfl, fun _ => rfl⟩, ⟨Or.inl ⟨rfl, rfl⟩, trivial⟩⟩⟩⟩⟩ ?_
    refine zo_aload (p' := 15) (zi_54 rfl) rfl rfl ?_
    rcases r7 with _ | q9
    · have g23 := zcs_none g22
      refine zo_nonnullF (p' := 18) (zi_54 rfl) rfl ?_
      refine zo_iconst (p' := 19) (v := (-1)) (zi_54 rfl) rfl rfl ?_
      cases g23
      exact zo_iret (zi_54 rfl) rfl ⟨rfl, rfl⟩
    · obtain ⟨hq10, g24⟩ := zcs_some g22
      refine zo_nonnullT (p' := 20) (zi_54 rfl) rfl hq10 ?_
      refine zo_iload_n (p' := 21) (zi_54 rfl) rfl rfl ?_
      refine zo_iload_n (p' := 22) (zi_54 rfl) rfl rfl ?_
      obtain ⟨x11, hx12, g25⟩ := zb_of g24
      refine zo_callSi (p' := 25) (as := [.int a1, .int a2]) (r := []) (zi_54 rfl) rfl (Or.inl zl_1_200) rfl rfl (Nat.le_of_ble_eq_true rfl) (Nat.le_of_ble_eq_true rfl) (k_55 _ hx12) ?_
      by_cases hc13 : ¬ x11 = 0
      · rw [if_pos hc13] at g25
        refine zo_ifT (p' := 31) (zi_54 rfl) rfl hc13 ?_
        refine zo_aload_n (p' := 32) (zi_54 rfl) rfl rfl ?_
        refine zo_aload (p' := 34) (zi_54 rfl) rfl rfl ?_
        refine zo_iload_n (p' := 35) (zi_54 rfl) rfl rfl ?_
        refine zo_iload_n (p' := 36) (zi_54 rfl) rfl rfl ?_
        obtain ⟨x14, M16, hx15, g26⟩ := zbd_of g25
        refine zo_callVi (p' := 39) (t := 11) (as := [zrf (some q9), .int a1, .int a2]) (r := []) (zi_54 rfl) rfl zl_1_186 rfl rfl (Or.inl ⟨by decide, rfl⟩) (Nat.le_of_ble_eq_true rfl) (Nat.le_of_ble_eq_true rfl) (f_51_ok hx15) (k_51 _ hx15) ?_
        by_cases hc17 : x14 = 0
        · rw [if_pos hc17] at g26
          refine zo_ifT (p' := 46) (zi_54 rfl) rfl hc17 ?_
          refine zo_iconst (p' := 47) (v := 0) (zi_54 rfl) rfl rfl ?_
          cases g26
          exact zo_iret (zi_54 rfl) rfl ⟨rfl, rfl⟩
        · rw [if_neg hc17] at g26
          refine zo_ifF (p' := 42) (zi_54 rfl) rfl rfl hc17 ?_
          refine zo_iconst (p' := 43) (v := 1) (zi_54 rfl) rfl rfl ?_
          refine zo_goto (p' := 47) (zi_54 rfl) rfl ?_
          cases g26
          exact zo_iret (zi_54 rfl) rfl ⟨rfl, rfl⟩
      · rw [if_neg hc13] at g25
        refine zo_ifF (p' := 28) (zi_54 rfl) rfl rfl hc13 ?_
        refine zo_bipush (p' := 30) (v := (-2)) (zi_54 rfl) rfl rfl ?_
        cases g25
        exact zo_iret (zi_54 rfl) rfl ⟨rfl, rfl⟩
  · rw [if_neg hok] at h; cases h
/-- SlateHalves$Block.isGone()Z -/
def f_57 (M : ZMem) (o : Nat) : Option (Int32) := if zok M 1 o = true then (zb (zgi M 1 3 o) fun x1 => if ¬ x1 = 0 then (some 0) else (some 1)) else none
theorem f_57_ok {M : ZMem} {o : Nat} {out : Int32} (h : f_57 M o = some out) : zok M 1 o = true := by
  unfold f_57 at h
  by_cases hok : zok M 1 o = true
  · exact hok
  · rw [if_neg hok] at h; cases h
set_option maxRecDepth 4000 in
theorem k_57 (d : Nat) {M : ZMem} {o : Nat} {out : Int32} (h : f_57 M o = some out) : zrn (d) 57 [zrf (some o)] M (some (.int out), M) := by
  unfold f_57 at h
  by_cases hok : zok M 1 o = true
  · rw [if_pos hok] at h
    refine zrn_of (L := [(0, zrf (some o))]) rfl ?_
    refine zo_aload_n (p' := 1) (zi_57 rfl) rfl rfl ?_
    obtain ⟨x1, hx2, g4⟩ := zb_of h
    refine zo_getI (p' := 4) (zi_57 rfl) rfl zl_4_19 hx2 ?_
    by_cases hc3 : ¬ x1 = 0
    · rw [if_pos hc3] at g4
      refine zo_ifT (p' := 11) (zi_57 rfl) rfl hc3 ?_
      refine zo_iconst (p' := 12) (v := 0) (zi_57 rfl) rfl rfl ?_
      cases g4
      exact zo_iret (zi_57 rfl) rfl ⟨rfl, rfl⟩
    · rw [if_neg hc3] at g4
      refine zo_ifF (p' := 7) (zi_57 rfl) rfl rfl hc3 ?_
      refine zo_iconst (p' := 8) (v := 1) (zi_57 rfl) rfl rfl ?_
      refine zo_goto (p' := 12) (zi_57 rfl) rfl ?_
      cases g4
      exact zo_iret (zi_57 rfl) rfl ⟨rfl, rfl⟩
  · rw [if_neg hok] at h; cases h
/-- SlateHalves.worthIn(LSlateHalves$Yard;LSlateHalves$Block;)I -/
def f_58 (M : ZMem) (o : Nat) (a0 : Option Nat) (a1 : Option Nat) : Option (Int32 × ZMem) := if zok M 11 o = true then (zb (zgr M 11 11 o) fun r1 => zb a0 fun q3 => zb (zgi M 10 3 q3) fun x4 => zb (f_20 M o) fun r6 => zb r1 fun q8 => zb (f_28 M q8 a1 x4 r6) fun M11 => zb (zgr M11 11 11 o) fun r12 => zb a1 fun q14 => zb (zgi M11 1 3 q14) fun x15 => zb r12 fun q17 => zb (f_33 M11 q17 x15) fun x18 => some (x18, M11)) else none
theorem f_58_ok {M : ZMem} {o : Nat} {a0 : Option Nat} {a1 : Option Nat} {out : Int32 × ZMem} (h : f_58 M o a0 a1 = some out) : zok M 11 o = true := by
  unfold f_58 at h
  by_cases hok : zok M 11 o = true
  · exact hok
  · rw [if_neg hok] at h; cases h
set_option maxRecDepth 4000 in
theorem k_58 (d : Nat) {M : ZMem} {o : Nat} {a0 : Option Nat} {a1 : Option Nat} {out : Int32 × ZMem} (h : f_58 M o a0 a1 = some out) : zrn (d + 4) 58 [zrf (some o), zrf a0, zrf a1] M (some (.int out.1), out.2) := by
  unfold f_58 at h
  by_cases hok : zok M 11 o = true
  · rw [if_pos hok] at h
    refine zrn_of (L := [(0, zrf (some o)), (1, zrf a0), (2, zrf a1)]) (by simp [lv_args, zrf_cat, zcat_i, zcat_l, zcat_r]) ?_
    refine zo_aload_n (p' := 1) (zi_58 rfl) rfl rfl ?_
    obtain ⟨r1, hx2, g20⟩ := zb_of h
    refine zo_getR (p' := 4) (zi_58 rfl) rfl zl_1_71 hx2 ?_
    refine zo_aload_n (p' := 5) (zi_58 rfl) rfl rfl ?_
    refine zo_aload_n (p' := 6) (zi_58 rfl) rfl rfl ?_
    obtain ⟨q3, h0, g21⟩ := zb_of g20
    subst h0
    obtain ⟨x4, hx5, g22⟩ := zb_of g21
    refine zo_getI (p' := 9) (zi_58 rfl) rfl zl_1_139 hx5 ?_
    refine zo_aload_n (p' := 10) (zi_58 rfl) rfl rfl ?_
    obtain ⟨r6, hx7, g23⟩ := zb_of g22
    refine zo_callVa (p' := 13) (t := 11) (as := []) (r := [.int x4, zrf a1, zrf r1]) (zi_58 rfl) rfl zl_1_135 rfl rfl (Or.inl ⟨by decide, rfl⟩) (by simp [zrf_cat, zcat_i, zcat_l, zcat_r]) (Nat.le_of_ble_eq_true rfl) (f_20_ok hx7) (k_20 _ hx7) ?_
    obtain ⟨q8, h0, g24⟩ := zb_of g23
    subst h0
    obtain ⟨M11, hx10, g25⟩ := zb_of g24
    refine zo_callVv (p' := 16) (t := 9) (as := [zrf a1, .int x4, zrf r6]) (r := []) (zi_58 rfl) rfl zl_1_159 rfl rfl (Or.inl ⟨by decide, rfl⟩) (Nat.le_of_ble_eq_true rfl) (by rw [zml_28]; simp [lg_sl, zrf_cat, zcat_i, zcat_l, zcat_r]; done) (f_28_ok hx10) (k_28 _ hx10) ?_
    refine zo_aload_n (p' := 17) (zi_58 rfl) rfl rfl ?_
    obtain ⟨r12, hx13, g26⟩ := zb_of g25
    refine zo_getR (p' := 20) (zi_58 rfl) rfl zl_1_71 hx13 ?_
    refine zo_aload_n (p' := 21) (zi_58 rfl) rfl rfl ?_
    obtain ⟨q14, h0, g27⟩ := zb_of g26
    subst h0
    obtain ⟨x15, hx16, g28⟩ := zb_of g27
    refine zo_getI (p' := 24) (zi_58 rfl) rfl zl_1_126 hx16 ?_
    obtain ⟨q17, h0, g29⟩ := zb_of g28
    subst h0
    obtain ⟨x18, hx19, g30⟩ := zb_of g29
    refine zo_callVi (p' := 27) (t := 9) (as := [.int x15]) (r := []) (zi_58 rfl) rfl zl_1_163 rfl rfl (Or.inl ⟨by decide, rfl⟩) (Nat.le_of_ble_eq_true rfl) (Nat.le_of_ble_eq_true rfl) (f_33_ok hx19) (k_33 _ hx19) ?_
    cases g30
    exact zo_iret (zi_58 rfl) rfl ⟨rfl, rfl⟩
  · rw [if_neg hok] at h; cases h
end
