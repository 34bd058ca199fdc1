/-! each code word among the words -/
theorem zch_t {w : Jvm.Cond} (h : w ∈ tables_1) (hg : goodWord w = true) : w ∈ zG := List.mem_filter.mpr ⟨List.mem_append_right _ h, hg⟩
theorem zch_1 {w : Jvm.Cond} (h : w ∈ tables_1_1) (hg : goodWord w = true) : w ∈ zG := zch_t (List.mem_append_left _ h) hg
theorem zch_2 {w : Jvm.Cond} (h : w ∈ tables_1_2) (hg : goodWord w = true) : w ∈ zG := zch_t (List.mem_append_right _ (List.mem_append_left _ h)) hg
theorem zch_3 {w : Jvm.Cond} (h : w ∈ tables_1_3) (hg : goodWord w = true) : w ∈ zG := zch_t (List.mem_append_right _ (List.mem_append_right _ (List.mem_append_left _ h))) hg
theorem zch_4 {w : Jvm.Cond} (h : w ∈ tables_1_4) (hg : goodWord w = true) : w ∈ zG := zch_t (List.mem_append_right _ (List.mem_append_right _ (List.mem_append_right _ (List.mem_append_left _ h)))) hg
theorem zch_5 {w : Jvm.Cond} (h : w ∈ tables_1_5) (hg : goodWord w = true) : w ∈ zG := zch_t (List.mem_append_right _ (List.mem_append_right _ (List.mem_append_right _ (List.mem_append_right _ (List.mem_append_left _ h))))) hg
theorem zch_6 {w : Jvm.Cond} (h : w ∈ tables_1_6) (hg : goodWord w = true) : w ∈ zG := zch_t (List.mem_append_right _ (List.mem_append_right _ (List.mem_append_right _ (List.mem_append_right _ (List.mem_append_right _ (List.mem_append_left _ h)))))) hg
theorem zch_7 {w : Jvm.Cond} (h : w ∈ tables_1_7) (hg : goodWord w = true) : w ∈ zG := zch_t (List.mem_append_right _ (List.mem_append_right _ (List.mem_append_right _ (List.mem_append_right _ (List.mem_append_right _ (List.mem_append_right _ (h))))))) hg
set_option maxRecDepth 8000 in
theorem zcd_1 : Jvm.Cond.code ⟨"SlateHalves", "<init>", "()V"⟩ prog_1_method_1_code 2 none ∈ zG := zch_1 (List.mem_of_getElem? (i := 27) rfl) rfl
set_option maxRecDepth 8000 in
theorem zcd_2 : Jvm.Cond.code ⟨"SlateHalves$Scene", "<init>", "()V"⟩ prog_9_method_1_code 1 none ∈ zG := zch_1 (List.mem_of_getElem? (i := 35) rfl) rfl
set_option maxRecDepth 8000 in
theorem zcd_3 : Jvm.Cond.code ⟨"SlateHalves$Yard", "<init>", "()V"⟩ prog_12_method_1_code 2 none ∈ zG := zch_1 (List.mem_of_getElem? (i := 41) rfl) rfl
set_option maxRecDepth 8000 in
theorem zcd_4 : Jvm.Cond.code ⟨"SlateHalves$Block", "<init>", "(I)V"⟩ prog_3_method_1_code 2 none ∈ zG := zch_1 (List.mem_of_getElem? (i := 48) rfl) rfl
set_option maxRecDepth 8000 in
theorem zcd_5 : Jvm.Cond.code ⟨"SlateHalves$Rows", "<init>", "(I)V"⟩ prog_8_method_1_code 2 none ∈ zG := zch_1 (List.mem_of_getElem? (i := 120) rfl) rfl
set_option maxRecDepth 8000 in
theorem zcd_6 : Jvm.Cond.code ⟨"SlateHalves$Hill", "<init>", "()V"⟩ prog_5_method_1_code 1 none ∈ zG := zch_1 (List.mem_of_getElem? (i := 166) rfl) rfl
set_option maxRecDepth 8000 in
theorem zcd_7 : Jvm.Cond.code ⟨"SlateHalves$HillReader", "<init>", "()V"⟩ prog_6_method_1_code 1 none ∈ zG := zch_1 (List.mem_of_getElem? (i := 193) rfl) rfl
set_option maxRecDepth 8000 in
theorem zcd_8 : Jvm.Cond.code ⟨"SlateHalves$Blows", "<init>", "()V"⟩ prog_4_method_1_code 1 none ∈ zG := zch_1 (List.mem_of_getElem? (i := 214) rfl) rfl
set_option maxRecDepth 8000 in
theorem zcd_9 : Jvm.Cond.code ⟨"SlateHalves$Valuer", "<init>", "()V"⟩ prog_11_method_1_code 1 none ∈ zG := zch_1 (List.mem_of_getElem? (i := 234) rfl) rfl
set_option maxRecDepth 8000 in
theorem zcd_10 : Jvm.Cond.code ⟨"SlateHalves$Planner", "<init>", "()V"⟩ prog_7_method_1_code 1 none ∈ zG := zch_2 (List.mem_of_getElem? (i := 24) rfl) rfl
set_option maxRecDepth 8000 in
theorem zcd_11 : Jvm.Cond.code ⟨"SlateHalves$Acts", "<init>", "()V"⟩ prog_2_method_1_code 1 none ∈ zG := zch_2 (List.mem_of_getElem? (i := 50) rfl) rfl
set_option maxRecDepth 8000 in
theorem zcd_12 : Jvm.Cond.code ⟨"SlateHalves$Tape", "<init>", "()V"⟩ prog_10_method_1_code 1 none ∈ zG := zch_2 (List.mem_of_getElem? (i := 75) rfl) rfl
set_option maxRecDepth 8000 in
theorem zcd_13 : Jvm.Cond.code ⟨"SlateHalves", "block", "(III)I"⟩ prog_1_method_2_code 5 (Option.some FieldType.int) ∈ zG := zch_2 (List.mem_of_getElem? (i := 140) rfl) rfl
set_option maxRecDepth 8000 in
theorem zcd_14 : Jvm.Cond.code ⟨"SlateHalves", "isWithin", "(III)Z"⟩ prog_1_method_44_code 3 (Option.some FieldType.boolean) ∈ zG := zch_2 (List.mem_of_getElem? (i := 143) rfl) rfl
set_option maxRecDepth 8000 in
theorem zcd_15 : Jvm.Cond.code ⟨"SlateHalves$Yard", "addBlock", "()LSlateHalves$Block;"⟩ prog_12_method_3_code 1 (some (FieldType.object "SlateHalves$Block")) ∈ zG := zch_2 (List.mem_of_getElem? (i := 147) rfl) rfl
set_option maxRecDepth 8000 in
theorem zcd_16 : Jvm.Cond.code ⟨"SlateHalves$Block", "become", "(III)V"⟩ prog_3_method_3_code 4 none ∈ zG := zch_2 (List.mem_of_getElem? (i := 151) rfl) rfl
set_option maxRecDepth 8000 in
theorem zcd_17 : Jvm.Cond.code ⟨"java/util/Arrays", "fill", "([II)V"⟩ prog_22_method_103_code 4 none ∈ zG := zch_2 (List.mem_of_getElem? (i := 154) rfl) rfl
set_option maxRecDepth 8000 in
theorem zcd_18 : Jvm.Cond.code ⟨"SlateHalves", "of", "(II)I"⟩ prog_1_method_3_code 4 (Option.some FieldType.int) ∈ zG := zch_2 (List.mem_of_getElem? (i := 158) rfl) rfl
set_option maxRecDepth 8000 in
theorem zcd_19 : Jvm.Cond.code ⟨"SlateHalves$Yard", "find", "(I)LSlateHalves$Block;"⟩ prog_12_method_2_code 2 (some (FieldType.object "SlateHalves$Block")) ∈ zG := zch_2 (List.mem_of_getElem? (i := 162) rfl) rfl
set_option maxRecDepth 8000 in
theorem zcd_20 : Jvm.Cond.code ⟨"SlateHalves", "holding", "()LSlateHalves$Hill;"⟩ prog_1_method_49_code 2 (some (FieldType.object "SlateHalves$Hill")) ∈ zG := zch_2 (List.mem_of_getElem? (i := 167) rfl) rfl
set_option maxRecDepth 8000 in
theorem zcd_21 : Jvm.Cond.code ⟨"SlateHalves$Hill", "priceOf", "(LSlateHalves$Block;I)I"⟩ prog_5_method_6_code 7 (Option.some FieldType.int) ∈ zG := zch_2 (List.mem_of_getElem? (i := 171) rfl) rfl
set_option maxRecDepth 8000 in
theorem zcd_22 : Jvm.Cond.code ⟨"SlateHalves$Hill", "holdsTest", "(ILSlateHalves$Block;I)Z"⟩ prog_5_method_7_code 5 (Option.some FieldType.boolean) ∈ zG := zch_2 (List.mem_of_getElem? (i := 174) rfl) rfl
set_option maxRecDepth 8000 in
theorem zcd_23 : Jvm.Cond.code ⟨"SlateHalves$Hill", "looksAt", "(ILSlateHalves$Block;I)I"⟩ prog_5_method_8_code 3 (Option.some FieldType.int) ∈ zG := zch_2 (List.mem_of_getElem? (i := 177) rfl) rfl
set_option maxRecDepth 8000 in
theorem zcd_24 : Jvm.Cond.code ⟨"java/lang/Math", "max", "(II)I"⟩ prog_17_method_65_code 2 (Option.some FieldType.int) ∈ zG := zch_2 (List.mem_of_getElem? (i := 180) rfl) rfl
set_option maxRecDepth 8000 in
theorem zcd_25 : Jvm.Cond.code ⟨"SlateHalves", "gripOf", "(III)I"⟩ prog_1_method_46_code 4 (Option.some FieldType.int) ∈ zG := zch_2 (List.mem_of_getElem? (i := 183) rfl) rfl
set_option maxRecDepth 8000 in
theorem zcd_26 : Jvm.Cond.code ⟨"SlateHalves", "driesOf", "(LSlateHalves$Block;I)I"⟩ prog_1_method_47_code 2 (Option.some FieldType.int) ∈ zG := zch_2 (List.mem_of_getElem? (i := 187) rfl) rfl
set_option maxRecDepth 8000 in
theorem zcd_27 : Jvm.Cond.code ⟨"SlateHalves", "valueOf", "(LSlateHalves$Block;I)I"⟩ prog_1_method_4_code 3 (Option.some FieldType.int) ∈ zG := zch_2 (List.mem_of_getElem? (i := 191) rfl) rfl
set_option maxRecDepth 8000 in
theorem zcd_28 : Jvm.Cond.code ⟨"SlateHalves$Valuer", "setBy", "(LSlateHalves$Block;ILSlateHalves$Hill;)V"⟩ prog_11_method_2_code 4 none ∈ zG := zch_2 (List.mem_of_getElem? (i := 195) rfl) rfl
set_option maxRecDepth 8000 in
theorem zcd_29 : Jvm.Cond.code ⟨"SlateHalves$Blows", "setAs", "(LSlateHalves$Block;III)V"⟩ prog_4_method_3_code 5 none ∈ zG := zch_2 (List.mem_of_getElem? (i := 199) rfl) rfl
set_option maxRecDepth 8000 in
theorem zcd_30 : Jvm.Cond.code ⟨"java/lang/Math", "floorMod", "(II)I"⟩ prog_17_method_50_code 3 (Option.some FieldType.int) ∈ zG := zch_2 (List.mem_of_getElem? (i := 203) rfl) rfl
set_option maxRecDepth 8000 in
theorem zcd_31 : Jvm.Cond.code ⟨"SlateHalves$Hill", "thinnest", "()I"⟩ prog_5_method_3_code 1 (Option.some FieldType.int) ∈ zG := zch_2 (List.mem_of_getElem? (i := 207) rfl) rfl
set_option maxRecDepth 8000 in
theorem zcd_32 : Jvm.Cond.code ⟨"SlateHalves$Hill", "thickest", "()I"⟩ prog_5_method_4_code 1 (Option.some FieldType.int) ∈ zG := zch_2 (List.mem_of_getElem? (i := 211) rfl) rfl
set_option maxRecDepth 8000 in
theorem zcd_33 : Jvm.Cond.code ⟨"SlateHalves$Valuer", "worthOf", "(I)I"⟩ prog_11_method_3_code 2 (Option.some FieldType.int) ∈ zG := zch_2 (List.mem_of_getElem? (i := 217) rfl) rfl
set_option maxRecDepth 8000 in
theorem zcd_34 : Jvm.Cond.code ⟨"SlateHalves$Valuer", "bestOf", "(I)I"⟩ prog_11_method_4_code 2 (Option.some FieldType.int) ∈ zG := zch_2 (List.mem_of_getElem? (i := 221) rfl) rfl
set_option maxRecDepth 8000 in
theorem zcd_35 : Jvm.Cond.code ⟨"SlateHalves$Valuer", "fillBest", "(I)V"⟩ prog_11_method_10_code 7 none ∈ zG := zch_2 (List.mem_of_getElem? (i := 225) rfl) rfl
set_option maxRecDepth 8000 in
theorem zcd_36 : Jvm.Cond.code ⟨"SlateHalves$Valuer", "limited", "(I)I"⟩ prog_11_method_13_code 1 (Option.some FieldType.int) ∈ zG := zch_2 (List.mem_of_getElem? (i := 228) rfl) rfl
set_option maxRecDepth 8000 in
theorem zcd_37 : Jvm.Cond.code ⟨"java/lang/Math", "min", "(II)I"⟩ prog_17_method_69_code 2 (Option.some FieldType.int) ∈ zG := zch_2 (List.mem_of_getElem? (i := 231) rfl) rfl
set_option maxRecDepth 8000 in
theorem zcd_38 : Jvm.Cond.code ⟨"SlateHalves$Blows", "greatestNear", "(I)I"⟩ prog_4_method_6_code 2 (Option.some FieldType.int) ∈ zG := zch_2 (List.mem_of_getElem? (i := 237) rfl) rfl
set_option maxRecDepth 8000 in
theorem zcd_39 : Jvm.Cond.code ⟨"SlateHalves$Blows", "leastNear", "(I)I"⟩ prog_4_method_5_code 2 (Option.some FieldType.int) ∈ zG := zch_3 (List.mem_of_getElem? (i := 2) rfl) rfl
set_option maxRecDepth 8000 in
theorem zcd_40 : Jvm.Cond.code ⟨"SlateHalves$Valuer", "cleanSum", "(II)I"⟩ prog_11_method_11_code 3 (Option.some FieldType.int) ∈ zG := zch_3 (List.mem_of_getElem? (i := 7) rfl) rfl
set_option maxRecDepth 8000 in
theorem zcd_41 : Jvm.Cond.code ⟨"SlateHalves$Blows", "isCleanAt", "(II)Z"⟩ prog_4_method_4_code 5 (Option.some FieldType.boolean) ∈ zG := zch_3 (List.mem_of_getElem? (i := 12) rfl) rfl
set_option maxRecDepth 8000 in
theorem zcd_42 : Jvm.Cond.code ⟨"SlateHalves$Valuer", "fewOf", "(I)I"⟩ prog_11_method_6_code 4 (Option.some FieldType.int) ∈ zG := zch_3 (List.mem_of_getElem? (i := 16) rfl) rfl
set_option maxRecDepth 8000 in
theorem zcd_43 : Jvm.Cond.code ⟨"SlateHalves$Valuer", "fewestBehind", "(I)I"⟩ prog_11_method_7_code 4 (Option.some FieldType.int) ∈ zG := zch_3 (List.mem_of_getElem? (i := 20) rfl) rfl
set_option maxRecDepth 8000 in
theorem zcd_44 : Jvm.Cond.code ⟨"SlateHalves$Valuer", "behind", "([III)I"⟩ prog_11_method_12_code 4 (Option.some FieldType.int) ∈ zG := zch_3 (List.mem_of_getElem? (i := 24) rfl) rfl
set_option maxRecDepth 8000 in
theorem zcd_45 : Jvm.Cond.code ⟨"SlateHalves$Valuer", "manyOf", "(I)I"⟩ prog_11_method_5_code 2 (Option.some FieldType.int) ∈ zG := zch_3 (List.mem_of_getElem? (i := 28) rfl) rfl
set_option maxRecDepth 8000 in
theorem zcd_46 : Jvm.Cond.code ⟨"SlateHalves$Valuer", "halvesOf", "(I)I"⟩ prog_11_method_8_code 4 (Option.some FieldType.int) ∈ zG := zch_3 (List.mem_of_getElem? (i := 33) rfl) rfl
set_option maxRecDepth 8000 in
theorem zcd_47 : Jvm.Cond.code ⟨"SlateHalves$Valuer", "blowOf", "(I)I"⟩ prog_11_method_9_code 4 (Option.some FieldType.int) ∈ zG := zch_3 (List.mem_of_getElem? (i := 37) rfl) rfl
set_option maxRecDepth 8000 in
theorem zcd_48 : Jvm.Cond.code ⟨"SlateHalves", "dry", "(II)I"⟩ prog_1_method_5_code 5 (Option.some FieldType.int) ∈ zG := zch_3 (List.mem_of_getElem? (i := 41) rfl) rfl
set_option maxRecDepth 8000 in
theorem zcd_49 : Jvm.Cond.code ⟨"SlateHalves", "row", "(III)I"⟩ prog_1_method_6_code 6 (Option.some FieldType.int) ∈ zG := zch_3 (List.mem_of_getElem? (i := 45) rfl) rfl
set_option maxRecDepth 8000 in
theorem zcd_50 : Jvm.Cond.code ⟨"SlateHalves", "strike", "(II)I"⟩ prog_1_method_7_code 6 (Option.some FieldType.int) ∈ zG := zch_3 (List.mem_of_getElem? (i := 49) rfl) rfl
set_option maxRecDepth 8000 in
theorem zcd_51 : Jvm.Cond.code ⟨"SlateHalves", "isCleanBlow", "(LSlateHalves$Block;II)Z"⟩ prog_1_method_50_code 4 (Option.some FieldType.boolean) ∈ zG := zch_3 (List.mem_of_getElem? (i := 53) rfl) rfl
set_option maxRecDepth 8000 in
theorem zcd_52 : Jvm.Cond.code ⟨"SlateHalves$Blows", "setBy", "(LSlateHalves$Block;I)V"⟩ prog_4_method_2_code 3 none ∈ zG := zch_3 (List.mem_of_getElem? (i := 57) rfl) rfl
set_option maxRecDepth 8000 in
theorem zcd_53 : Jvm.Cond.code ⟨"SlateHalves$Block", "copyFrom", "(LSlateHalves$Block;)V"⟩ prog_3_method_4_code 2 none ∈ zG := zch_3 (List.mem_of_getElem? (i := 63) rfl) rfl
set_option maxRecDepth 8000 in
theorem zcd_54 : Jvm.Cond.code ⟨"SlateHalves", "clean", "(III)I"⟩ prog_1_method_8_code 5 (Option.some FieldType.int) ∈ zG := zch_3 (List.mem_of_getElem? (i := 70) rfl) rfl
set_option maxRecDepth 8000 in
theorem zcd_55 : Jvm.Cond.code ⟨"SlateHalves", "isBlow", "(II)Z"⟩ prog_1_method_45_code 2 (Option.some FieldType.boolean) ∈ zG := zch_3 (List.mem_of_getElem? (i := 73) rfl) rfl
set_option maxRecDepth 8000 in
theorem zcd_56 : Jvm.Cond.code ⟨"SlateHalves", "sell", "(I)I"⟩ prog_1_method_9_code 4 (Option.some FieldType.int) ∈ zG := zch_3 (List.mem_of_getElem? (i := 77) rfl) rfl
set_option maxRecDepth 8000 in
theorem zcd_57 : Jvm.Cond.code ⟨"SlateHalves$Block", "isGone", "()Z"⟩ prog_3_method_2_code 1 (Option.some FieldType.boolean) ∈ zG := zch_3 (List.mem_of_getElem? (i := 81) rfl) rfl
set_option maxRecDepth 8000 in
theorem zcd_58 : Jvm.Cond.code ⟨"SlateHalves", "worthIn", "(LSlateHalves$Yard;LSlateHalves$Block;)I"⟩ prog_1_method_51_code 3 (Option.some FieldType.int) ∈ zG := zch_3 (List.mem_of_getElem? (i := 85) rfl) rfl
set_option maxRecDepth 8000 in
theorem zcd_59 : Jvm.Cond.code ⟨"SlateHalves", "feed", "(I)I"⟩ prog_1_method_10_code 2 (Option.some FieldType.int) ∈ zG := zch_3 (List.mem_of_getElem? (i := 91) rfl) rfl
set_option maxRecDepth 8000 in
theorem zcd_60 : Jvm.Cond.code ⟨"SlateHalves", "hill", "()I"⟩ prog_1_method_11_code 2 (Option.some FieldType.int) ∈ zG := zch_3 (List.mem_of_getElem? (i := 95) rfl) rfl
set_option maxRecDepth 8000 in
theorem zcd_61 : Jvm.Cond.code ⟨"SlateHalves$HillReader", "fillHill", "(LSlateHalves$Hill;[BI)I"⟩ prog_6_method_2_code 5 (Option.some FieldType.int) ∈ zG := zch_3 (List.mem_of_getElem? (i := 99) rfl) rfl
set_option maxRecDepth 8000 in
theorem zcd_62 : Jvm.Cond.code ⟨"SlateHalves$Hill", "clear", "()V"⟩ prog_5_method_2_code 1 none ∈ zG := zch_3 (List.mem_of_getElem? (i := 104) rfl) rfl
set_option maxRecDepth 8000 in
theorem zcd_63 : Jvm.Cond.code ⟨"SlateHalves$HillReader", "takeClause", "()Z"⟩ prog_6_method_5_code 3 (Option.some FieldType.boolean) ∈ zG := zch_3 (List.mem_of_getElem? (i := 108) rfl) rfl
set_option maxRecDepth 8000 in
theorem zcd_64 : Jvm.Cond.code ⟨"SlateHalves$HillReader", "takeWord", "()I"⟩ prog_6_method_7_code 4 (Option.some FieldType.int) ∈ zG := zch_3 (List.mem_of_getElem? (i := 112) rfl) rfl
set_option maxRecDepth 8000 in
theorem zcd_65 : Jvm.Cond.code ⟨"SlateHalves$HillReader", "wordOf", "(I)Ljava/lang/String;"⟩ prog_6_method_6_code 1 (some (FieldType.object "java/lang/String")) ∈ zG := zch_3 (List.mem_of_getElem? (i := 115) rfl) rfl
set_option maxRecDepth 8000 in
theorem zcd_66 : Jvm.Cond.code ⟨"SlateHalves$HillReader", "sameSigns", "(Ljava/lang/String;)I"⟩ prog_6_method_8_code 4 (Option.some FieldType.int) ∈ zG := zch_3 (List.mem_of_getElem? (i := 124) rfl) rfl
set_option maxRecDepth 8000 in
theorem zcd_67 : Jvm.Cond.code ⟨"java/lang/String", "length", "()I"⟩ prog_18_method_54_code 1 (Option.some FieldType.int) ∈ zG := zch_3 (List.mem_of_getElem? (i := 128) rfl) rfl
set_option maxRecDepth 8000 in
theorem zcd_68 : Jvm.Cond.code ⟨"java/lang/String", "coder", "()B"⟩ prog_18_method_152_code 1 (Option.some FieldType.byte) ∈ zG := zch_3 (List.mem_of_getElem? (i := 132) rfl) rfl
set_option maxRecDepth 8000 in
theorem zcd_69 : Jvm.Cond.code ⟨"java/lang/String", "charAt", "(I)C"⟩ prog_18_method_56_code 2 (Option.some FieldType.char) ∈ zG := zch_3 (List.mem_of_getElem? (i := 138) rfl) rfl
set_option maxRecDepth 8000 in
theorem zcd_70 : Jvm.Cond.code ⟨"java/lang/String", "isLatin1", "()Z"⟩ prog_18_method_154_code 1 (Option.some FieldType.boolean) ∈ zG := zch_3 (List.mem_of_getElem? (i := 142) rfl) rfl
set_option maxRecDepth 8000 in
theorem zcd_71 : Jvm.Cond.code ⟨"java/lang/StringLatin1", "charAt", "([BI)C"⟩ prog_19_method_2_code 2 (Option.some FieldType.char) ∈ zG := zch_3 (List.mem_of_getElem? (i := 145) rfl) rfl
set_option maxRecDepth 8000 in
theorem zcd_72 : Jvm.Cond.code ⟨"java/lang/String", "checkIndex", "(II)V"⟩ prog_18_method_155_code 2 none ∈ zG := zch_3 (List.mem_of_getElem? (i := 148) rfl) rfl
set_option maxRecDepth 8000 in
theorem zcd_73 : Jvm.Cond.code ⟨"jdk/internal/util/Preconditions", "checkIndex", "(IILjava/util/function/BiFunction;)I"⟩ prog_23_method_11_code 3 (Option.some FieldType.int) ∈ zG := zch_3 (List.mem_of_getElem? (i := 153) rfl) rfl
set_option maxRecDepth 8000 in
theorem zcd_74 : Jvm.Cond.code ⟨"SlateHalves$HillReader", "takeSign", "(I)Z"⟩ prog_6_method_4_code 2 (Option.some FieldType.boolean) ∈ zG := zch_3 (List.mem_of_getElem? (i := 177) rfl) rfl
set_option maxRecDepth 8000 in
theorem zcd_75 : Jvm.Cond.code ⟨"SlateHalves$HillReader", "sign", "()I"⟩ prog_6_method_3_code 1 (Option.some FieldType.int) ∈ zG := zch_3 (List.mem_of_getElem? (i := 181) rfl) rfl
set_option maxRecDepth 8000 in
theorem zcd_76 : Jvm.Cond.code ⟨"SlateHalves$HillReader", "takeNumber", "()I"⟩ prog_6_method_9_code 3 (Option.some FieldType.int) ∈ zG := zch_3 (List.mem_of_getElem? (i := 185) rfl) rfl
set_option maxRecDepth 8000 in
theorem zcd_77 : Jvm.Cond.code ⟨"SlateHalves$HillReader", "takeEither", "(I)Z"⟩ prog_6_method_10_code 3 (Option.some FieldType.boolean) ∈ zG := zch_3 (List.mem_of_getElem? (i := 190) rfl) rfl
set_option maxRecDepth 8000 in
theorem zcd_78 : Jvm.Cond.code ⟨"SlateHalves$HillReader", "takeBoth", "(I)Z"⟩ prog_6_method_11_code 3 (Option.some FieldType.boolean) ∈ zG := zch_3 (List.mem_of_getElem? (i := 194) rfl) rfl
set_option maxRecDepth 8000 in
theorem zcd_79 : Jvm.Cond.code ⟨"SlateHalves$HillReader", "takePart", "(I)Z"⟩ prog_6_method_12_code 2 (Option.some FieldType.boolean) ∈ zG := zch_3 (List.mem_of_getElem? (i := 198) rfl) rfl
set_option maxRecDepth 8000 in
theorem zcd_80 : Jvm.Cond.code ⟨"SlateHalves$HillReader", "takeTest", "()Z"⟩ prog_6_method_13_code 4 (Option.some FieldType.boolean) ∈ zG := zch_3 (List.mem_of_getElem? (i := 202) rfl) rfl
set_option maxRecDepth 8000 in
theorem zcd_81 : Jvm.Cond.code ⟨"SlateHalves$HillReader", "takeOneOf", "(Ljava/lang/String;)I"⟩ prog_6_method_14_code 3 (Option.some FieldType.int) ∈ zG := zch_3 (List.mem_of_getElem? (i := 207) rfl) rfl
set_option maxRecDepth 8000 in
theorem zcd_82 : Jvm.Cond.code ⟨"java/lang/String", "indexOf", "(I)I"⟩ prog_18_method_79_code 2 (Option.some FieldType.int) ∈ zG := zch_3 (List.mem_of_getElem? (i := 211) rfl) rfl
set_option maxRecDepth 8000 in
theorem zcd_83 : Jvm.Cond.code ⟨"java/lang/String", "indexOf", "(II)I"⟩ prog_18_method_80_code 3 (Option.some FieldType.int) ∈ zG := zch_3 (List.mem_of_getElem? (i := 215) rfl) rfl
set_option maxRecDepth 8000 in
theorem zcd_84 : Jvm.Cond.code ⟨"java/lang/StringLatin1", "indexOf", "([BIII)I"⟩ prog_19_method_22_code 4 (Option.some FieldType.int) ∈ zG := zch_3 (List.mem_of_getElem? (i := 219) rfl) rfl
set_option maxRecDepth 8000 in
theorem zcd_85 : Jvm.Cond.code ⟨"java/lang/StringLatin1", "canEncode", "(I)Z"⟩ prog_19_method_4_code 1 (Option.some FieldType.boolean) ∈ zG := zch_3 (List.mem_of_getElem? (i := 222) rfl) rfl
set_option maxRecDepth 8000 in
theorem zcd_86 : Jvm.Cond.code ⟨"java/lang/StringLatin1", "indexOfChar", "([BIII)I"⟩ prog_19_method_23_code 6 (Option.some FieldType.int) ∈ zG := zch_3 (List.mem_of_getElem? (i := 227) rfl) rfl
set_option maxRecDepth 8000 in
theorem zcd_87 : Jvm.Cond.code ⟨"SlateHalves$Hill", "addStep", "(IIII)V"⟩ prog_5_method_5_code 5 none ∈ zG := zch_4 (List.mem_of_getElem? (i := 27) rfl) rfl
set_option maxRecDepth 8000 in
theorem zcd_88 : Jvm.Cond.code ⟨"SlateHalves", "told", "(I)I"⟩ prog_1_method_12_code 2 (Option.some FieldType.int) ∈ zG := zch_4 (List.mem_of_getElem? (i := 31) rfl) rfl
set_option maxRecDepth 8000 in
theorem zcd_89 : Jvm.Cond.code ⟨"SlateHalves", "bestOfAll", "(LSlateHalves$Yard;)I"⟩ prog_1_method_53_code 4 (Option.some FieldType.int) ∈ zG := zch_4 (List.mem_of_getElem? (i := 37) rfl) rfl
set_option maxRecDepth 8000 in
theorem zcd_90 : Jvm.Cond.code ⟨"SlateHalves", "bestIn", "(LSlateHalves$Yard;LSlateHalves$Block;)I"⟩ prog_1_method_52_code 3 (Option.some FieldType.int) ∈ zG := zch_4 (List.mem_of_getElem? (i := 41) rfl) rfl
set_option maxRecDepth 8000 in
theorem zcd_91 : Jvm.Cond.code ⟨"SlateHalves", "pass", "(I)I"⟩ prog_1_method_13_code 2 (Option.some FieldType.int) ∈ zG := zch_4 (List.mem_of_getElem? (i := 45) rfl) rfl
set_option maxRecDepth 8000 in
theorem zcd_92 : Jvm.Cond.code ⟨"SlateHalves$Yard", "goDays", "(II)V"⟩ prog_12_method_5_code 5 none ∈ zG := zch_4 (List.mem_of_getElem? (i := 49) rfl) rfl
set_option maxRecDepth 8000 in
theorem zcd_93 : Jvm.Cond.code ⟨"SlateHalves", "on", "(II)I"⟩ prog_1_method_14_code 5 (Option.some FieldType.int) ∈ zG := zch_4 (List.mem_of_getElem? (i := 56) rfl) rfl
set_option maxRecDepth 8000 in
theorem zcd_94 : Jvm.Cond.code ⟨"SlateHalves", "lookAhead", "(I)V"⟩ prog_1_method_54_code 2 none ∈ zG := zch_4 (List.mem_of_getElem? (i := 60) rfl) rfl
set_option maxRecDepth 8000 in
theorem zcd_95 : Jvm.Cond.code ⟨"SlateHalves$Yard", "copyFrom", "(LSlateHalves$Yard;)V"⟩ prog_12_method_6_code 3 none ∈ zG := zch_4 (List.mem_of_getElem? (i := 64) rfl) rfl
set_option maxRecDepth 8000 in
theorem zcd_96 : Jvm.Cond.code ⟨"SlateHalves", "lasts", "(I)I"⟩ prog_1_method_15_code 3 (Option.some FieldType.int) ∈ zG := zch_4 (List.mem_of_getElem? (i := 69) rfl) rfl
set_option maxRecDepth 8000 in
theorem zcd_97 : Jvm.Cond.code ⟨"SlateHalves", "order", "(I)I"⟩ prog_1_method_16_code 2 (Option.some FieldType.int) ∈ zG := zch_4 (List.mem_of_getElem? (i := 74) rfl) rfl
set_option maxRecDepth 8000 in
theorem zcd_98 : Jvm.Cond.code ⟨"SlateHalves", "planOrder", "()V"⟩ prog_1_method_17_code 5 none ∈ zG := zch_4 (List.mem_of_getElem? (i := 78) rfl) rfl
set_option maxRecDepth 8000 in
theorem zcd_99 : Jvm.Cond.code ⟨"java/lang/Integer", "bitCount", "(I)I"⟩ prog_16_method_49_code 1 (Option.some FieldType.int) ∈ zG := zch_4 (List.mem_of_getElem? (i := 81) rfl) rfl
set_option maxRecDepth 8000 in
theorem zcd_100 : Jvm.Cond.code ⟨"SlateHalves$Planner", "plan", "(I)V"⟩ prog_7_method_2_code 4 none ∈ zG := zch_4 (List.mem_of_getElem? (i := 88) rfl) rfl
set_option maxRecDepth 8000 in
theorem zcd_101 : Jvm.Cond.code ⟨"SlateHalves$Planner", "mostOf", "(I)I"⟩ prog_7_method_3_code 4 (Option.some FieldType.int) ∈ zG := zch_4 (List.mem_of_getElem? (i := 94) rfl) rfl
set_option maxRecDepth 8000 in
theorem zcd_102 : Jvm.Cond.code ⟨"SlateHalves$Planner", "sumWith", "(II)I"⟩ prog_7_method_5_code 5 (Option.some FieldType.int) ∈ zG := zch_4 (List.mem_of_getElem? (i := 98) rfl) rfl
set_option maxRecDepth 8000 in
theorem zcd_103 : Jvm.Cond.code ⟨"SlateHalves$Planner", "firstOf", "(I)I"⟩ prog_7_method_4_code 3 (Option.some FieldType.int) ∈ zG := zch_4 (List.mem_of_getElem? (i := 104) rfl) rfl
set_option maxRecDepth 8000 in
theorem zcd_104 : Jvm.Cond.code ⟨"SlateHalves", "loses", "(I)I"⟩ prog_1_method_18_code 3 (Option.some FieldType.int) ∈ zG := zch_4 (List.mem_of_getElem? (i := 108) rfl) rfl
set_option maxRecDepth 8000 in
theorem zcd_105 : Jvm.Cond.code ⟨"SlateHalves", "lossOf", "(LSlateHalves$Block;)I"⟩ prog_1_method_19_code 4 (Option.some FieldType.int) ∈ zG := zch_4 (List.mem_of_getElem? (i := 112) rfl) rfl
set_option maxRecDepth 8000 in
theorem zcd_106 : Jvm.Cond.code ⟨"SlateHalves", "worst", "()I"⟩ prog_1_method_20_code 6 (Option.some FieldType.int) ∈ zG := zch_4 (List.mem_of_getElem? (i := 116) rfl) rfl
set_option maxRecDepth 8000 in
theorem zcd_107 : Jvm.Cond.code ⟨"SlateHalves", "see", "(IIZ)I"⟩ prog_1_method_21_code 4 (Option.some FieldType.int) ∈ zG := zch_4 (List.mem_of_getElem? (i := 120) rfl) rfl
set_option maxRecDepth 8000 in
theorem zcd_108 : Jvm.Cond.code ⟨"SlateHalves$Rows", "addRow", "(III)I"⟩ prog_8_method_2_code 4 (Option.some FieldType.int) ∈ zG := zch_4 (List.mem_of_getElem? (i := 124) rfl) rfl
set_option maxRecDepth 8000 in
theorem zcd_109 : Jvm.Cond.code ⟨"SlateHalves", "dryness", "(II)I"⟩ prog_1_method_22_code 3 (Option.some FieldType.int) ∈ zG := zch_4 (List.mem_of_getElem? (i := 128) rfl) rfl
set_option maxRecDepth 8000 in
theorem zcd_110 : Jvm.Cond.code ⟨"SlateHalves", "fitting", "(IIIZ)I"⟩ prog_1_method_24_code 9 (Option.some FieldType.int) ∈ zG := zch_4 (List.mem_of_getElem? (i := 132) rfl) rfl
set_option maxRecDepth 8000 in
theorem zcd_111 : Jvm.Cond.code ⟨"SlateHalves", "isAllSeenSo", "()Z"⟩ prog_1_method_25_code 3 (Option.some FieldType.boolean) ∈ zG := zch_4 (List.mem_of_getElem? (i := 137) rfl) rfl
set_option maxRecDepth 8000 in
theorem zcd_112 : Jvm.Cond.code ⟨"SlateHalves", "can", "(II)I"⟩ prog_1_method_23_code 3 (Option.some FieldType.int) ∈ zG := zch_4 (List.mem_of_getElem? (i := 141) rfl) rfl
set_option maxRecDepth 8000 in
theorem zcd_113 : Jvm.Cond.code ⟨"SlateHalves", "odds", "(II)J"⟩ prog_1_method_26_code 6 (Option.some FieldType.long) ∈ zG := zch_4 (List.mem_of_getElem? (i := 145) rfl) rfl
set_option maxRecDepth 8000 in
theorem zcd_114 : Jvm.Cond.code ⟨"SlateHalves", "partOf", "(III)J"⟩ prog_1_method_48_code 7 (Option.some FieldType.long) ∈ zG := zch_4 (List.mem_of_getElem? (i := 149) rfl) rfl
set_option maxRecDepth 8000 in
theorem zcd_115 : Jvm.Cond.code ⟨"SlateHalves", "mean", "(I)J"⟩ prog_1_method_27_code 5 (Option.some FieldType.long) ∈ zG := zch_4 (List.mem_of_getElem? (i := 153) rfl) rfl
set_option maxRecDepth 8000 in
theorem zcd_116 : Jvm.Cond.code ⟨"SlateHalves", "week", "(II)I"⟩ prog_1_method_28_code 3 (Option.some FieldType.int) ∈ zG := zch_4 (List.mem_of_getElem? (i := 157) rfl) rfl
set_option maxRecDepth 8000 in
theorem zcd_117 : Jvm.Cond.code ⟨"SlateHalves", "ends", "(I)I"⟩ prog_1_method_29_code 4 (Option.some FieldType.int) ∈ zG := zch_4 (List.mem_of_getElem? (i := 161) rfl) rfl
set_option maxRecDepth 8000 in
theorem zcd_118 : Jvm.Cond.code ⟨"SlateHalves", "goRow", "(ILSlateHalves$Block;)I"⟩ prog_1_method_30_code 4 (Option.some FieldType.int) ∈ zG := zch_4 (List.mem_of_getElem? (i := 165) rfl) rfl
set_option maxRecDepth 8000 in
theorem zcd_119 : Jvm.Cond.code ⟨"SlateHalves$Yard", "countPresent", "()I"⟩ prog_12_method_4_code 3 (Option.some FieldType.int) ∈ zG := zch_4 (List.mem_of_getElem? (i := 169) rfl) rfl
set_option maxRecDepth 8000 in
theorem zcd_120 : Jvm.Cond.code ⟨"SlateHalves", "book", "(II)I"⟩ prog_1_method_31_code 3 (Option.some FieldType.int) ∈ zG := zch_4 (List.mem_of_getElem? (i := 173) rfl) rfl
set_option maxRecDepth 8000 in
theorem zcd_121 : Jvm.Cond.code ⟨"SlateHalves", "looked", "()I"⟩ prog_1_method_32_code 3 (Option.some FieldType.int) ∈ zG := zch_4 (List.mem_of_getElem? (i := 177) rfl) rfl
set_option maxRecDepth 8000 in
theorem zcd_122 : Jvm.Cond.code ⟨"SlateHalves", "judge", "(II)I"⟩ prog_1_method_33_code 5 (Option.some FieldType.int) ∈ zG := zch_4 (List.mem_of_getElem? (i := 181) rfl) rfl
set_option maxRecDepth 8000 in
theorem zcd_123 : Jvm.Cond.code ⟨"SlateHalves$Tape", "isNothing", "()Z"⟩ prog_10_method_2_code 1 (Option.some FieldType.boolean) ∈ zG := zch_4 (List.mem_of_getElem? (i := 185) rfl) rfl
set_option maxRecDepth 8000 in
theorem zcd_124 : Jvm.Cond.code ⟨"SlateHalves", "image", "()I"⟩ prog_1_method_34_code 1 (Option.some FieldType.int) ∈ zG := zch_4 (List.mem_of_getElem? (i := 189) rfl) rfl
set_option maxRecDepth 8000 in
theorem zcd_125 : Jvm.Cond.code ⟨"SlateHalves$Scene", "copyFrom", "(LSlateHalves$Scene;)V"⟩ prog_9_method_2_code 2 none ∈ zG := zch_4 (List.mem_of_getElem? (i := 193) rfl) rfl
set_option maxRecDepth 8000 in
theorem zcd_126 : Jvm.Cond.code ⟨"SlateHalves$Rows", "copyFrom", "(LSlateHalves$Rows;)V"⟩ prog_8_method_3_code 2 none ∈ zG := zch_4 (List.mem_of_getElem? (i := 198) rfl) rfl
set_option maxRecDepth 8000 in
theorem zcd_127 : Jvm.Cond.code ⟨"SlateHalves", "undo", "()I"⟩ prog_1_method_35_code 1 (Option.some FieldType.int) ∈ zG := zch_4 (List.mem_of_getElem? (i := 204) rfl) rfl
set_option maxRecDepth 8000 in
theorem zcd_128 : Jvm.Cond.code ⟨"SlateHalves", "act", "(III)I"⟩ prog_1_method_36_code 5 (Option.some FieldType.int) ∈ zG := zch_4 (List.mem_of_getElem? (i := 208) rfl) rfl
set_option maxRecDepth 8000 in
theorem zcd_129 : Jvm.Cond.code ⟨"SlateHalves$Acts", "perform", "(LSlateHalves$Block;II)I"⟩ prog_2_method_2_code 4 (Option.some FieldType.int) ∈ zG := zch_4 (List.mem_of_getElem? (i := 212) rfl) rfl
set_option maxRecDepth 8000 in
theorem zcd_130 : Jvm.Cond.code ⟨"SlateHalves$Acts", "ringsFrom", "(II)I"⟩ prog_2_method_4_code 3 (Option.some FieldType.int) ∈ zG := zch_4 (List.mem_of_getElem? (i := 216) rfl) rfl
set_option maxRecDepth 8000 in
theorem zcd_131 : Jvm.Cond.code ⟨"SlateHalves$Acts", "begin", "(I)V"⟩ prog_2_method_3_code 2 none ∈ zG := zch_4 (List.mem_of_getElem? (i := 220) rfl) rfl
set_option maxRecDepth 8000 in
theorem zcd_132 : Jvm.Cond.code ⟨"SlateHalves$Acts", "splitsFrom", "(II)I"⟩ prog_2_method_5_code 3 (Option.some FieldType.int) ∈ zG := zch_4 (List.mem_of_getElem? (i := 224) rfl) rfl
set_option maxRecDepth 8000 in
theorem zcd_133 : Jvm.Cond.code ⟨"SlateHalves$Acts", "tellsFrom", "(II)I"⟩ prog_2_method_6_code 3 (Option.some FieldType.int) ∈ zG := zch_4 (List.mem_of_getElem? (i := 228) rfl) rfl
set_option maxRecDepth 8000 in
theorem zcd_134 : Jvm.Cond.code ⟨"SlateHalves", "trace", "(I)I"⟩ prog_1_method_37_code 2 (Option.some FieldType.int) ∈ zG := zch_4 (List.mem_of_getElem? (i := 232) rfl) rfl
set_option maxRecDepth 8000 in
theorem zcd_135 : Jvm.Cond.code ⟨"SlateHalves", "taken", "(II)I"⟩ prog_1_method_38_code 6 (Option.some FieldType.int) ∈ zG := zch_4 (List.mem_of_getElem? (i := 236) rfl) rfl
set_option maxRecDepth 8000 in
theorem zcd_136 : Jvm.Cond.code ⟨"SlateHalves", "count", "(I)I"⟩ prog_1_method_39_code 2 (Option.some FieldType.int) ∈ zG := zch_5 (List.mem_of_getElem? (i := 2) rfl) rfl
set_option maxRecDepth 8000 in
theorem zcd_137 : Jvm.Cond.code ⟨"SlateHalves", "tape", "(III)I"⟩ prog_1_method_40_code 4 (Option.some FieldType.int) ∈ zG := zch_5 (List.mem_of_getElem? (i := 6) rfl) rfl
set_option maxRecDepth 8000 in
theorem zcd_138 : Jvm.Cond.code ⟨"SlateHalves$Tape", "becomeNothing", "()V"⟩ prog_10_method_3_code 1 none ∈ zG := zch_5 (List.mem_of_getElem? (i := 10) rfl) rfl
set_option maxRecDepth 8000 in
theorem zcd_139 : Jvm.Cond.code ⟨"SlateHalves$Tape", "become", "(II)V"⟩ prog_10_method_4_code 3 none ∈ zG := zch_5 (List.mem_of_getElem? (i := 14) rfl) rfl
set_option maxRecDepth 8000 in
theorem zcd_140 : Jvm.Cond.code ⟨"java/util/Arrays", "fill", "([JJ)V"⟩ prog_22_method_101_code 5 none ∈ zG := zch_5 (List.mem_of_getElem? (i := 17) rfl) rfl
set_option maxRecDepth 8000 in
theorem zcd_141 : Jvm.Cond.code ⟨"SlateHalves", "item", "(IIJ)I"⟩ prog_1_method_41_code 6 (Option.some FieldType.int) ∈ zG := zch_5 (List.mem_of_getElem? (i := 21) rfl) rfl
set_option maxRecDepth 8000 in
theorem zcd_142 : Jvm.Cond.code ⟨"SlateHalves$Tape", "fit", "(J)J"⟩ prog_10_method_5_code 3 (Option.some FieldType.long) ∈ zG := zch_5 (List.mem_of_getElem? (i := 25) rfl) rfl
set_option maxRecDepth 8000 in
theorem zcd_143 : Jvm.Cond.code ⟨"SlateHalves", "read", "(II)J"⟩ prog_1_method_42_code 3 (Option.some FieldType.long) ∈ zG := zch_5 (List.mem_of_getElem? (i := 29) rfl) rfl
set_option maxRecDepth 8000 in
theorem zcd_144 : Jvm.Cond.code ⟨"SlateHalves", "shift", "(IIIII)I"⟩ prog_1_method_43_code 8 (Option.some FieldType.int) ∈ zG := zch_5 (List.mem_of_getElem? (i := 33) rfl) rfl
set_option maxRecDepth 8000 in
theorem zcd_145 : Jvm.Cond.code ⟨"SlateHalvesModel", "<init>", "()V"⟩ prog_14_method_1_code 1 none ∈ zG := zch_5 (List.mem_of_getElem? (i := 39) rfl) rfl
set_option maxRecDepth 8000 in
theorem zcd_146 : Jvm.Cond.code ⟨"SlateHalvesModel", "block", "(III)I"⟩ prog_14_method_8_code 5 (Option.some FieldType.int) ∈ zG := zch_6 (List.mem_of_getElem? (i := 31) rfl) rfl
set_option maxRecDepth 8000 in
theorem zcd_147 : Jvm.Cond.code ⟨"SlateHalvesModel", "in", "(III)Z"⟩ prog_14_method_2_code 4 (Option.some FieldType.boolean) ∈ zG := zch_6 (List.mem_of_getElem? (i := 35) rfl) rfl
set_option maxRecDepth 8000 in
theorem zcd_148 : Jvm.Cond.code ⟨"SlateHalvesModel", "dry", "(II)I"⟩ prog_14_method_9_code 4 (Option.some FieldType.int) ∈ zG := zch_6 (List.mem_of_getElem? (i := 39) rfl) rfl
set_option maxRecDepth 8000 in
theorem zcd_149 : Jvm.Cond.code ⟨"SlateHalvesModel", "isBlock", "(I)Z"⟩ prog_14_method_6_code 2 (Option.some FieldType.boolean) ∈ zG := zch_6 (List.mem_of_getElem? (i := 43) rfl) rfl
set_option maxRecDepth 8000 in
theorem zcd_150 : Jvm.Cond.code ⟨"SlateHalvesModel", "row", "(III)I"⟩ prog_14_method_10_code 5 (Option.some FieldType.int) ∈ zG := zch_6 (List.mem_of_getElem? (i := 47) rfl) rfl
set_option maxRecDepth 8000 in
theorem zcd_151 : Jvm.Cond.code ⟨"SlateHalvesModel", "feed", "(I)I"⟩ prog_14_method_11_code 2 (Option.some FieldType.int) ∈ zG := zch_6 (List.mem_of_getElem? (i := 51) rfl) rfl
set_option maxRecDepth 8000 in
theorem zcd_152 : Jvm.Cond.code ⟨"SlateHalvesModel", "hill", "()I"⟩ prog_14_method_26_code 2 (Option.some FieldType.int) ∈ zG := zch_6 (List.mem_of_getElem? (i := 55) rfl) rfl
set_option maxRecDepth 8000 in
theorem zcd_153 : Jvm.Cond.code ⟨"SlateHalvesModel", "goesText", "(I)Z"⟩ prog_14_method_25_code 3 (Option.some FieldType.boolean) ∈ zG := zch_6 (List.mem_of_getElem? (i := 59) rfl) rfl
set_option maxRecDepth 8000 in
theorem zcd_154 : Jvm.Cond.code ⟨"SlateHalvesModel", "takesClause", "(I)Z"⟩ prog_14_method_24_code 2 (Option.some FieldType.boolean) ∈ zG := zch_6 (List.mem_of_getElem? (i := 63) rfl) rfl
set_option maxRecDepth 8000 in
theorem zcd_155 : Jvm.Cond.code ⟨"SlateHalvesModel", "takesHead", "(I)Z"⟩ prog_14_method_23_code 2 (Option.some FieldType.boolean) ∈ zG := zch_6 (List.mem_of_getElem? (i := 67) rfl) rfl
set_option maxRecDepth 8000 in
theorem zcd_156 : Jvm.Cond.code ⟨"SlateHalvesModel", "next", "()I"⟩ prog_14_method_12_code 1 (Option.some FieldType.int) ∈ zG := zch_6 (List.mem_of_getElem? (i := 71) rfl) rfl
set_option maxRecDepth 8000 in
theorem zcd_157 : Jvm.Cond.code ⟨"SlateHalvesModel", "takesWord", "(II)Z"⟩ prog_14_method_14_code 4 (Option.some FieldType.boolean) ∈ zG := zch_6 (List.mem_of_getElem? (i := 75) rfl) rfl
set_option maxRecDepth 8000 in
theorem zcd_158 : Jvm.Cond.code ⟨"SlateHalvesModel", "takes", "(I)Z"⟩ prog_14_method_13_code 2 (Option.some FieldType.boolean) ∈ zG := zch_6 (List.mem_of_getElem? (i := 79) rfl) rfl
set_option maxRecDepth 8000 in
theorem zcd_159 : Jvm.Cond.code ⟨"SlateHalvesModel", "takesNumber", "()Z"⟩ prog_14_method_16_code 2 (Option.some FieldType.boolean) ∈ zG := zch_6 (List.mem_of_getElem? (i := 83) rfl) rfl
set_option maxRecDepth 8000 in
theorem zcd_160 : Jvm.Cond.code ⟨"SlateHalvesModel", "isDigit", "()Z"⟩ prog_14_method_15_code 1 (Option.some FieldType.boolean) ∈ zG := zch_6 (List.mem_of_getElem? (i := 87) rfl) rfl
set_option maxRecDepth 8000 in
theorem zcd_161 : Jvm.Cond.code ⟨"SlateHalvesModel", "takesE", "(I)Z"⟩ prog_14_method_22_code 4 (Option.some FieldType.boolean) ∈ zG := zch_6 (List.mem_of_getElem? (i := 91) rfl) rfl
set_option maxRecDepth 8000 in
theorem zcd_162 : Jvm.Cond.code ⟨"SlateHalvesModel", "takesTest", "()Z"⟩ prog_14_method_21_code 3 (Option.some FieldType.boolean) ∈ zG := zch_6 (List.mem_of_getElem? (i := 95) rfl) rfl
set_option maxRecDepth 8000 in
theorem zcd_163 : Jvm.Cond.code ⟨"SlateHalvesModel", "place", "(I)I"⟩ prog_14_method_20_code 2 (Option.some FieldType.int) ∈ zG := zch_6 (List.mem_of_getElem? (i := 99) rfl) rfl
set_option maxRecDepth 8000 in
theorem zcd_164 : Jvm.Cond.code ⟨"SlateHalvesModel", "emits", "(I)V"⟩ prog_14_method_17_code 2 none ∈ zG := zch_6 (List.mem_of_getElem? (i := 103) rfl) rfl
set_option maxRecDepth 8000 in
theorem zcd_165 : Jvm.Cond.code ⟨"SlateHalvesModel", "whole", "()V"⟩ prog_14_method_18_code 1 none ∈ zG := zch_6 (List.mem_of_getElem? (i := 107) rfl) rfl
set_option maxRecDepth 8000 in
theorem zcd_166 : Jvm.Cond.code ⟨"SlateHalvesModel", "settle", "(I)V"⟩ prog_14_method_19_code 2 none ∈ zG := zch_6 (List.mem_of_getElem? (i := 111) rfl) rfl
set_option maxRecDepth 8000 in
theorem zcd_167 : Jvm.Cond.code ⟨"SlateHalvesModel", "of", "(II)I"⟩ prog_14_method_45_code 3 (Option.some FieldType.int) ∈ zG := zch_6 (List.mem_of_getElem? (i := 115) rfl) rfl
set_option maxRecDepth 8000 in
theorem zcd_168 : Jvm.Cond.code ⟨"SlateHalvesModel", "price", "(I)I"⟩ prog_14_method_34_code 4 (Option.some FieldType.int) ∈ zG := zch_6 (List.mem_of_getElem? (i := 119) rfl) rfl
set_option maxRecDepth 8000 in
theorem zcd_169 : Jvm.Cond.code ⟨"SlateHalvesModel", "begin", "()I"⟩ prog_14_method_27_code 1 (Option.some FieldType.int) ∈ zG := zch_6 (List.mem_of_getElem? (i := 123) rfl) rfl
set_option maxRecDepth 8000 in
theorem zcd_170 : Jvm.Cond.code ⟨"SlateHalvesModel", "behind", "()I"⟩ prog_14_method_28_code 1 (Option.some FieldType.int) ∈ zG := zch_6 (List.mem_of_getElem? (i := 127) rfl) rfl
set_option maxRecDepth 8000 in
theorem zcd_171 : Jvm.Cond.code ⟨"SlateHalvesModel", "holds", "(II)Z"⟩ prog_14_method_33_code 8 (Option.some FieldType.boolean) ∈ zG := zch_6 (List.mem_of_getElem? (i := 131) rfl) rfl
set_option maxRecDepth 8000 in
theorem zcd_172 : Jvm.Cond.code ⟨"SlateHalvesModel", "factOf", "(II)I"⟩ prog_14_method_32_code 3 (Option.some FieldType.int) ∈ zG := zch_6 (List.mem_of_getElem? (i := 135) rfl) rfl
set_option maxRecDepth 8000 in
theorem zcd_173 : Jvm.Cond.code ⟨"SlateHalvesModel", "least0", "(I)I"⟩ prog_14_method_4_code 2 (Option.some FieldType.int) ∈ zG := zch_6 (List.mem_of_getElem? (i := 139) rfl) rfl
set_option maxRecDepth 8000 in
theorem zcd_174 : Jvm.Cond.code ⟨"SlateHalvesModel", "grip", "(I)I"⟩ prog_14_method_35_code 3 (Option.some FieldType.int) ∈ zG := zch_6 (List.mem_of_getElem? (i := 143) rfl) rfl
set_option maxRecDepth 8000 in
theorem zcd_175 : Jvm.Cond.code ⟨"SlateHalvesModel", "dries", "(I)I"⟩ prog_14_method_38_code 3 (Option.some FieldType.int) ∈ zG := zch_6 (List.mem_of_getElem? (i := 147) rfl) rfl
set_option maxRecDepth 8000 in
theorem zcd_176 : Jvm.Cond.code ⟨"SlateHalvesModel", "lastOf", "(II)I"⟩ prog_14_method_29_code 5 (Option.some FieldType.int) ∈ zG := zch_6 (List.mem_of_getElem? (i := 151) rfl) rfl
set_option maxRecDepth 8000 in
theorem zcd_177 : Jvm.Cond.code ⟨"SlateHalvesModel", "worthOf", "(II)I"⟩ prog_14_method_39_code 3 (Option.some FieldType.int) ∈ zG := zch_6 (List.mem_of_getElem? (i := 155) rfl) rfl
set_option maxRecDepth 8000 in
theorem zcd_178 : Jvm.Cond.code ⟨"SlateHalvesModel", "thin", "()I"⟩ prog_14_method_30_code 1 (Option.some FieldType.int) ∈ zG := zch_6 (List.mem_of_getElem? (i := 159) rfl) rfl
set_option maxRecDepth 8000 in
theorem zcd_179 : Jvm.Cond.code ⟨"SlateHalvesModel", "greater", "(II)I"⟩ prog_14_method_5_code 3 (Option.some FieldType.int) ∈ zG := zch_6 (List.mem_of_getElem? (i := 163) rfl) rfl
set_option maxRecDepth 8000 in
theorem zcd_180 : Jvm.Cond.code ⟨"SlateHalvesModel", "most", "()I"⟩ prog_14_method_31_code 1 (Option.some FieldType.int) ∈ zG := zch_6 (List.mem_of_getElem? (i := 167) rfl) rfl
set_option maxRecDepth 8000 in
theorem zcd_181 : Jvm.Cond.code ⟨"SlateHalvesModel", "laid", "(II)I"⟩ prog_14_method_44_code 4 (Option.some FieldType.int) ∈ zG := zch_6 (List.mem_of_getElem? (i := 171) rfl) rfl
set_option maxRecDepth 8000 in
theorem zcd_182 : Jvm.Cond.code ⟨"SlateHalvesModel", "lay", "(I)V"⟩ prog_14_method_41_code 9 none ∈ zG := zch_6 (List.mem_of_getElem? (i := 175) rfl) rfl
set_option maxRecDepth 8000 in
theorem zcd_183 : Jvm.Cond.code ⟨"SlateHalvesModel", "isClean", "(III)Z"⟩ prog_14_method_37_code 5 (Option.some FieldType.boolean) ∈ zG := zch_6 (List.mem_of_getElem? (i := 179) rfl) rfl
set_option maxRecDepth 8000 in
theorem zcd_184 : Jvm.Cond.code ⟨"SlateHalvesModel", "isNear", "(III)Z"⟩ prog_14_method_36_code 5 (Option.some FieldType.boolean) ∈ zG := zch_6 (List.mem_of_getElem? (i := 183) rfl) rfl
set_option maxRecDepth 8000 in
theorem zcd_185 : Jvm.Cond.code ⟨"SlateHalvesModel", "layBlow", "(III)V"⟩ prog_14_method_40_code 9 none ∈ zG := zch_6 (List.mem_of_getElem? (i := 187) rfl) rfl
set_option maxRecDepth 8000 in
theorem zcd_186 : Jvm.Cond.code ⟨"SlateHalvesModel", "blow", "(I)I"⟩ prog_14_method_43_code 4 (Option.some FieldType.int) ∈ zG := zch_6 (List.mem_of_getElem? (i := 191) rfl) rfl
set_option maxRecDepth 8000 in
theorem zcd_187 : Jvm.Cond.code ⟨"SlateHalvesModel", "told", "(I)I"⟩ prog_14_method_47_code 2 (Option.some FieldType.int) ∈ zG := zch_6 (List.mem_of_getElem? (i := 195) rfl) rfl
set_option maxRecDepth 8000 in
theorem zcd_188 : Jvm.Cond.code ⟨"SlateHalvesModel", "allBest", "()I"⟩ prog_14_method_46_code 3 (Option.some FieldType.int) ∈ zG := zch_6 (List.mem_of_getElem? (i := 199) rfl) rfl
set_option maxRecDepth 8000 in
theorem zcd_189 : Jvm.Cond.code ⟨"SlateHalvesModel", "best", "(I)I"⟩ prog_14_method_42_code 2 (Option.some FieldType.int) ∈ zG := zch_6 (List.mem_of_getElem? (i := 203) rfl) rfl
set_option maxRecDepth 8000 in
theorem zcd_190 : Jvm.Cond.code ⟨"SlateHalvesModel", "strike", "(II)I"⟩ prog_14_method_48_code 6 (Option.some FieldType.int) ∈ zG := zch_6 (List.mem_of_getElem? (i := 207) rfl) rfl
set_option maxRecDepth 8000 in
theorem zcd_191 : Jvm.Cond.code ⟨"SlateHalvesModel", "clean", "(III)I"⟩ prog_14_method_49_code 4 (Option.some FieldType.int) ∈ zG := zch_6 (List.mem_of_getElem? (i := 211) rfl) rfl
set_option maxRecDepth 8000 in
theorem zcd_192 : Jvm.Cond.code ⟨"SlateHalvesModel", "sell", "(I)I"⟩ prog_14_method_50_code 3 (Option.some FieldType.int) ∈ zG := zch_6 (List.mem_of_getElem? (i := 215) rfl) rfl
set_option maxRecDepth 8000 in
theorem zcd_193 : Jvm.Cond.code ⟨"SlateHalvesModel", "pass", "(I)I"⟩ prog_14_method_53_code 2 (Option.some FieldType.int) ∈ zG := zch_6 (List.mem_of_getElem? (i := 220) rfl) rfl
set_option maxRecDepth 8000 in
theorem zcd_194 : Jvm.Cond.code ⟨"SlateHalvesModel", "isDays", "(I)Z"⟩ prog_14_method_7_code 2 (Option.some FieldType.boolean) ∈ zG := zch_6 (List.mem_of_getElem? (i := 224) rfl) rfl
set_option maxRecDepth 8000 in
theorem zcd_195 : Jvm.Cond.code ⟨"SlateHalvesModel", "goDays", "(I)V"⟩ prog_14_method_52_code 3 none ∈ zG := zch_6 (List.mem_of_getElem? (i := 228) rfl) rfl
set_option maxRecDepth 8000 in
theorem zcd_196 : Jvm.Cond.code ⟨"SlateHalvesModel", "goDay", "()V"⟩ prog_14_method_51_code 3 none ∈ zG := zch_6 (List.mem_of_getElem? (i := 232) rfl) rfl
set_option maxRecDepth 8000 in
theorem zcd_197 : Jvm.Cond.code ⟨"SlateHalvesModel", "on", "(II)I"⟩ prog_14_method_56_code 4 (Option.some FieldType.int) ∈ zG := zch_6 (List.mem_of_getElem? (i := 236) rfl) rfl
set_option maxRecDepth 8000 in
theorem zcd_198 : Jvm.Cond.code ⟨"SlateHalvesModel", "save", "()V"⟩ prog_14_method_54_code 2 none ∈ zG := zch_7 (List.mem_of_getElem? (i := 0) rfl) rfl
set_option maxRecDepth 8000 in
theorem zcd_199 : Jvm.Cond.code ⟨"SlateHalvesModel", "putBack", "()V"⟩ prog_14_method_55_code 2 none ∈ zG := zch_7 (List.mem_of_getElem? (i := 4) rfl) rfl
set_option maxRecDepth 8000 in
theorem zcd_200 : Jvm.Cond.code ⟨"SlateHalvesModel", "lasts", "(I)I"⟩ prog_14_method_57_code 4 (Option.some FieldType.int) ∈ zG := zch_7 (List.mem_of_getElem? (i := 8) rfl) rfl
set_option maxRecDepth 8000 in
theorem zcd_201 : Jvm.Cond.code ⟨"SlateHalvesModel", "order", "(I)I"⟩ prog_14_method_60_code 7 (Option.some FieldType.int) ∈ zG := zch_7 (List.mem_of_getElem? (i := 13) rfl) rfl
set_option maxRecDepth 8000 in
theorem zcd_202 : Jvm.Cond.code ⟨"SlateHalvesModel", "layThen", "()V"⟩ prog_14_method_58_code 3 none ∈ zG := zch_7 (List.mem_of_getElem? (i := 17) rfl) rfl
set_option maxRecDepth 8000 in
theorem zcd_203 : Jvm.Cond.code ⟨"SlateHalvesModel", "layTurn", "(I)Z"⟩ prog_14_method_59_code 5 (Option.some FieldType.boolean) ∈ zG := zch_7 (List.mem_of_getElem? (i := 21) rfl) rfl
set_option maxRecDepth 8000 in
theorem zcd_204 : Jvm.Cond.code ⟨"SlateHalvesModel", "has", "(II)Z"⟩ prog_14_method_3_code 3 (Option.some FieldType.boolean) ∈ zG := zch_7 (List.mem_of_getElem? (i := 25) rfl) rfl
set_option maxRecDepth 8000 in
theorem zcd_205 : Jvm.Cond.code ⟨"SlateHalvesModel", "loses", "(I)I"⟩ prog_14_method_61_code 2 (Option.some FieldType.int) ∈ zG := zch_7 (List.mem_of_getElem? (i := 29) rfl) rfl
set_option maxRecDepth 8000 in
theorem zcd_206 : Jvm.Cond.code ⟨"SlateHalvesModel", "worst", "()I"⟩ prog_14_method_62_code 5 (Option.some FieldType.int) ∈ zG := zch_7 (List.mem_of_getElem? (i := 34) rfl) rfl
set_option maxRecDepth 8000 in
theorem zcd_207 : Jvm.Cond.code ⟨"SlateHalvesModel", "see", "(IIZ)I"⟩ prog_14_method_63_code 4 (Option.some FieldType.int) ∈ zG := zch_7 (List.mem_of_getElem? (i := 39) rfl) rfl
set_option maxRecDepth 8000 in
theorem zcd_208 : Jvm.Cond.code ⟨"SlateHalvesModel", "dryness", "(II)I"⟩ prog_14_method_65_code 7 (Option.some FieldType.int) ∈ zG := zch_7 (List.mem_of_getElem? (i := 43) rfl) rfl
set_option maxRecDepth 8000 in
theorem zcd_209 : Jvm.Cond.code ⟨"SlateHalvesModel", "isSeen", "(I)Z"⟩ prog_14_method_64_code 3 (Option.some FieldType.boolean) ∈ zG := zch_7 (List.mem_of_getElem? (i := 47) rfl) rfl
set_option maxRecDepth 8000 in
theorem zcd_210 : Jvm.Cond.code ⟨"SlateHalvesModel", "can", "(II)I"⟩ prog_14_method_66_code 7 (Option.some FieldType.int) ∈ zG := zch_7 (List.mem_of_getElem? (i := 51) rfl) rfl
set_option maxRecDepth 8000 in
theorem zcd_211 : Jvm.Cond.code ⟨"SlateHalvesModel", "odds", "(II)J"⟩ prog_14_method_69_code 5 (Option.some FieldType.long) ∈ zG := zch_7 (List.mem_of_getElem? (i := 55) rfl) rfl
set_option maxRecDepth 8000 in
theorem zcd_212 : Jvm.Cond.code ⟨"SlateHalvesModel", "lowest", "(III)J"⟩ prog_14_method_68_code 5 (Option.some FieldType.long) ∈ zG := zch_7 (List.mem_of_getElem? (i := 60) rfl) rfl
set_option maxRecDepth 8000 in
theorem zcd_213 : Jvm.Cond.code ⟨"SlateHalvesModel", "divisor", "(II)I"⟩ prog_14_method_67_code 6 (Option.some FieldType.int) ∈ zG := zch_7 (List.mem_of_getElem? (i := 64) rfl) rfl
set_option maxRecDepth 8000 in
theorem zcd_214 : Jvm.Cond.code ⟨"SlateHalvesModel", "mean", "(I)J"⟩ prog_14_method_70_code 5 (Option.some FieldType.long) ∈ zG := zch_7 (List.mem_of_getElem? (i := 68) rfl) rfl
set_option maxRecDepth 8000 in
theorem zcd_215 : Jvm.Cond.code ⟨"SlateHalvesModel", "week", "(II)I"⟩ prog_14_method_71_code 3 (Option.some FieldType.int) ∈ zG := zch_7 (List.mem_of_getElem? (i := 72) rfl) rfl
set_option maxRecDepth 8000 in
theorem zcd_216 : Jvm.Cond.code ⟨"SlateHalvesModel", "ends", "(I)I"⟩ prog_14_method_72_code 5 (Option.some FieldType.int) ∈ zG := zch_7 (List.mem_of_getElem? (i := 76) rfl) rfl
set_option maxRecDepth 8000 in
theorem zcd_217 : Jvm.Cond.code ⟨"SlateHalvesModel", "book", "(II)I"⟩ prog_14_method_73_code 3 (Option.some FieldType.int) ∈ zG := zch_7 (List.mem_of_getElem? (i := 80) rfl) rfl
set_option maxRecDepth 8000 in
theorem zcd_218 : Jvm.Cond.code ⟨"SlateHalvesModel", "looked", "()I"⟩ prog_14_method_74_code 2 (Option.some FieldType.int) ∈ zG := zch_7 (List.mem_of_getElem? (i := 84) rfl) rfl
set_option maxRecDepth 8000 in
theorem zcd_219 : Jvm.Cond.code ⟨"SlateHalvesModel", "judge", "(II)I"⟩ prog_14_method_75_code 4 (Option.some FieldType.int) ∈ zG := zch_7 (List.mem_of_getElem? (i := 88) rfl) rfl
set_option maxRecDepth 8000 in
theorem zcd_220 : Jvm.Cond.code ⟨"SlateHalvesModel", "isTape", "(I)Z"⟩ prog_14_method_90_code 2 (Option.some FieldType.boolean) ∈ zG := zch_7 (List.mem_of_getElem? (i := 92) rfl) rfl
set_option maxRecDepth 8000 in
theorem zcd_221 : Jvm.Cond.code ⟨"SlateHalvesModel", "image", "()I"⟩ prog_14_method_76_code 2 (Option.some FieldType.int) ∈ zG := zch_7 (List.mem_of_getElem? (i := 96) rfl) rfl
set_option maxRecDepth 8000 in
theorem zcd_222 : Jvm.Cond.code ⟨"SlateHalvesModel", "undo", "()I"⟩ prog_14_method_77_code 2 (Option.some FieldType.int) ∈ zG := zch_7 (List.mem_of_getElem? (i := 100) rfl) rfl
set_option maxRecDepth 8000 in
theorem zcd_223 : Jvm.Cond.code ⟨"SlateHalvesModel", "act", "(III)I"⟩ prog_14_method_86_code 4 (Option.some FieldType.int) ∈ zG := zch_7 (List.mem_of_getElem? (i := 104) rfl) rfl
set_option maxRecDepth 8000 in
theorem zcd_224 : Jvm.Cond.code ⟨"SlateHalvesModel", "ringsAct", "(II)I"⟩ prog_14_method_80_code 3 (Option.some FieldType.int) ∈ zG := zch_7 (List.mem_of_getElem? (i := 108) rfl) rfl
set_option maxRecDepth 8000 in
theorem zcd_225 : Jvm.Cond.code ⟨"SlateHalvesModel", "body", "(I)V"⟩ prog_14_method_78_code 2 none ∈ zG := zch_7 (List.mem_of_getElem? (i := 112) rfl) rfl
set_option maxRecDepth 8000 in
theorem zcd_226 : Jvm.Cond.code ⟨"SlateHalvesModel", "blockRings", "(II)I"⟩ prog_14_method_79_code 3 (Option.some FieldType.int) ∈ zG := zch_7 (List.mem_of_getElem? (i := 116) rfl) rfl
set_option maxRecDepth 8000 in
theorem zcd_227 : Jvm.Cond.code ⟨"SlateHalvesModel", "splitsAct", "(II)I"⟩ prog_14_method_83_code 4 (Option.some FieldType.int) ∈ zG := zch_7 (List.mem_of_getElem? (i := 120) rfl) rfl
set_option maxRecDepth 8000 in
theorem zcd_228 : Jvm.Cond.code ⟨"SlateHalvesModel", "fineSplits", "(II)I"⟩ prog_14_method_82_code 3 (Option.some FieldType.int) ∈ zG := zch_7 (List.mem_of_getElem? (i := 124) rfl) rfl
set_option maxRecDepth 8000 in
theorem zcd_229 : Jvm.Cond.code ⟨"SlateHalvesModel", "blockSplits", "(II)I"⟩ prog_14_method_81_code 3 (Option.some FieldType.int) ∈ zG := zch_7 (List.mem_of_getElem? (i := 128) rfl) rfl
set_option maxRecDepth 8000 in
theorem zcd_230 : Jvm.Cond.code ⟨"SlateHalvesModel", "tellsAct", "(II)I"⟩ prog_14_method_85_code 4 (Option.some FieldType.int) ∈ zG := zch_7 (List.mem_of_getElem? (i := 132) rfl) rfl
set_option maxRecDepth 8000 in
theorem zcd_231 : Jvm.Cond.code ⟨"SlateHalvesModel", "blockTells", "(II)I"⟩ prog_14_method_84_code 3 (Option.some FieldType.int) ∈ zG := zch_7 (List.mem_of_getElem? (i := 136) rfl) rfl
set_option maxRecDepth 8000 in
theorem zcd_232 : Jvm.Cond.code ⟨"SlateHalvesModel", "trace", "(I)I"⟩ prog_14_method_87_code 2 (Option.some FieldType.int) ∈ zG := zch_7 (List.mem_of_getElem? (i := 140) rfl) rfl
set_option maxRecDepth 8000 in
theorem zcd_233 : Jvm.Cond.code ⟨"SlateHalvesModel", "taken", "(II)I"⟩ prog_14_method_88_code 4 (Option.some FieldType.int) ∈ zG := zch_7 (List.mem_of_getElem? (i := 144) rfl) rfl
set_option maxRecDepth 8000 in
theorem zcd_234 : Jvm.Cond.code ⟨"SlateHalvesModel", "count", "(I)I"⟩ prog_14_method_89_code 2 (Option.some FieldType.int) ∈ zG := zch_7 (List.mem_of_getElem? (i := 148) rfl) rfl
set_option maxRecDepth 8000 in
theorem zcd_235 : Jvm.Cond.code ⟨"SlateHalvesModel", "tape", "(III)I"⟩ prog_14_method_91_code 5 (Option.some FieldType.int) ∈ zG := zch_7 (List.mem_of_getElem? (i := 152) rfl) rfl
set_option maxRecDepth 8000 in
theorem zcd_236 : Jvm.Cond.code ⟨"SlateHalvesModel", "item", "(IIJ)I"⟩ prog_14_method_93_code 5 (Option.some FieldType.int) ∈ zG := zch_7 (List.mem_of_getElem? (i := 156) rfl) rfl
set_option maxRecDepth 8000 in
theorem zcd_237 : Jvm.Cond.code ⟨"SlateHalvesModel", "narrow", "(IJ)J"⟩ prog_14_method_92_code 4 (Option.some FieldType.long) ∈ zG := zch_7 (List.mem_of_getElem? (i := 160) rfl) rfl
set_option maxRecDepth 8000 in
theorem zcd_238 : Jvm.Cond.code ⟨"SlateHalvesModel", "read", "(II)J"⟩ prog_14_method_94_code 3 (Option.some FieldType.long) ∈ zG := zch_7 (List.mem_of_getElem? (i := 164) rfl) rfl
set_option maxRecDepth 8000 in
theorem zcd_239 : Jvm.Cond.code ⟨"SlateHalvesModel", "shift", "(IIIII)I"⟩ prog_14_method_95_code 7 (Option.some FieldType.int) ∈ zG := zch_7 (List.mem_of_getElem? (i := 168) rfl) rfl
theorem zcd_all : ∀ k, 0 < k → k < 240 → Jvm.Cond.code (zmeth k).1 (zmeth k).2.1 (zml k) (zret k) ∈ zG := by
  intro k h0 hk
  match k, h0, hk with
  | 0, h, _ => exact absurd h (by omega)
  | 1, _, _ => exact zcd_1
  | 2, _, _ => exact zcd_2
  | 3, _, _ => exact zcd_3
  | 4, _, _ => exact zcd_4
  | 5, _, _ => exact zcd_5
  | 6, _, _ => exact zcd_6
  | 7, _, _ => exact zcd_7
  | 8, _, _ => exact zcd_8
  | 9, _, _ => exact zcd_9
  | 10, _, _ => exact zcd_10
  | 11, _, _ => exact zcd_11
  | 12, _, _ => exact zcd_12
  | 13, _, _ => exact zcd_13
  | 14, _, _ => exact zcd_14
  | 15, _, _ => exact zcd_15
  | 16, _, _ => exact zcd_16
  | 17, _, _ => exact zcd_17
  | 18, _, _ => exact zcd_18
  | 19, _, _ => exact zcd_19
  | 20, _, _ => exact zcd_20
  | 21, _, _ => exact zcd_21
  | 22, _, _ => exact zcd_22
  | 23, _, _ => exact zcd_23
  | 24, _, _ => exact zcd_24
  | 25, _, _ => exact zcd_25
  | 26, _, _ => exact zcd_26
  | 27, _, _ => exact zcd_27
  | 28, _, _ => exact zcd_28
  | 29, _, _ => exact zcd_29
  | 30, _, _ => exact zcd_30
  | 31, _, _ => exact zcd_31
  | 32, _, _ => exact zcd_32
  | 33, _, _ => exact zcd_33
  | 34, _, _ => exact zcd_34
  | 35, _, _ => exact zcd_35
  | 36, _, _ => exact zcd_36
  | 37, _, _ => exact zcd_37
  | 38, _, _ => exact zcd_38
  | 39, _, _ => exact zcd_39
  | 40, _, _ => exact zcd_40
  | 41, _, _ => exact zcd_41
  | 42, _, _ => exact zcd_42
  | 43, _, _ => exact zcd_43
  | 44, _, _ => exact zcd_44
  | 45, _, _ => exact zcd_45
  | 46, _, _ => exact zcd_46
  | 47, _, _ => exact zcd_47
  | 48, _, _ => exact zcd_48
  | 49, _, _ => exact zcd_49
  | 50, _, _ => exact zcd_50
  | 51, _, _ => exact zcd_51
  | 52, _, _ => exact zcd_52
  | 53, _, _ => exact zcd_53
  | 54, _, _ => exact zcd_54
  | 55, _, _ => exact zcd_55
  | 56, _, _ => exact zcd_56
  | 57, _, _ => exact zcd_57
  | 58, _, _ => exact zcd_58
  | 59, _, _ => exact zcd_59
  | 60, _, _ => exact zcd_60
  | 61, _, _ => exact zcd_61
  | 62, _, _ => exact zcd_62
  | 63, _, _ => exact zcd_63
  | 64, _, _ => exact zcd_64
  | 65, _, _ => exact zcd_65
  | 66, _, _ => exact zcd_66
  | 67, _, _ => exact zcd_67
  | 68, _, _ => exact zcd_68
  | 69, _, _ => exact zcd_69
  | 70, _, _ => exact zcd_70
  | 71, _, _ => exact zcd_71
  | 72, _, _ => exact zcd_72
  | 73, _, _ => exact zcd_73
  | 74, _, _ => exact zcd_74
  | 75, _, _ => exact zcd_75
  | 76, _, _ => exact zcd_76
  | 77, _, _ => exact zcd_77
  | 78, _, _ => exact zcd_78
  | 79, _, _ => exact zcd_79
  | 80, _, _ => exact zcd_80
  | 81, _, _ => exact zcd_81
  | 82, _, _ => exact zcd_82
  | 83, _, _ => exact zcd_83
  | 84, _, _ => exact zcd_84
  | 85, _, _ => exact zcd_85
  | 86, _, _ => exact zcd_86
  | 87, _, _ => exact zcd_87
  | 88, _, _ => exact zcd_88
  | 89, _, _ => exact zcd_89
  | 90, _, _ => exact zcd_90
  | 91, _, _ => exact zcd_91
  | 92, _, _ => exact zcd_92
  | 93, _, _ => exact zcd_93
  | 94, _, _ => exact zcd_94
  | 95, _, _ => exact zcd_95
  | 96, _, _ => exact zcd_96
  | 97, _, _ => exact zcd_97
  | 98, _, _ => exact zcd_98
  | 99, _, _ => exact zcd_99
  | 100, _, _ => exact zcd_100
  | 101, _, _ => exact zcd_101
  | 102, _, _ => exact zcd_102
  | 103, _, _ => exact zcd_103
  | 104, _, _ => exact zcd_104
  | 105, _, _ => exact zcd_105
  | 106, _, _ => exact zcd_106
  | 107, _, _ => exact zcd_107
  | 108, _, _ => exact zcd_108
  | 109, _, _ => exact zcd_109
  | 110, _, _ => exact zcd_110
  | 111, _, _ => exact zcd_111
  | 112, _, _ => exact zcd_112
  | 113, _, _ => exact zcd_113
  | 114, _, _ => exact zcd_114
  | 115, _, _ => exact zcd_115
  | 116, _, _ => exact zcd_116
  | 117, _, _ => exact zcd_117
  | 118, _, _ => exact zcd_118
  | 119, _, _ => exact zcd_119
  | 120, _, _ => exact zcd_120
  | 121, _, _ => exact zcd_121
  | 122, _, _ => exact zcd_122
  | 123, _, _ => exact zcd_123
  | 124, _, _ => exact zcd_124
  | 125, _, _ => exact zcd_125
  | 126, _, _ => exact zcd_126
  | 127, _, _ => exact zcd_127
  | 128, _, _ => exact zcd_128
  | 129, _, _ => exact zcd_129
  | 130, _, _ => exact zcd_130
  | 131, _, _ => exact zcd_131
  | 132, _, _ => exact zcd_132
  | 133, _, _ => exact zcd_133
  | 134, _, _ => exact zcd_134
  | 135, _, _ => exact zcd_135
  | 136, _, _ => exact zcd_136
  | 137, _, _ => exact zcd_137
  | 138, _, _ => exact zcd_138
  | 139, _, _ => exact zcd_139
  | 140, _, _ => exact zcd_140
  | 141, _, _ => exact zcd_141
  | 142, _, _ => exact zcd_142
  | 143, _, _ => exact zcd_143
  | 144, _, _ => exact zcd_144
  | 145, _, _ => exact zcd_145
  | 146, _, _ => exact zcd_146
  | 147, _, _ => exact zcd_147
  | 148, _, _ => exact zcd_148
  | 149, _, _ => exact zcd_149
  | 150, _, _ => exact zcd_150
  | 151, _, _ => exact zcd_151
  | 152, _, _ => exact zcd_152
  | 153, _, _ => exact zcd_153
  | 154, _, _ => exact zcd_154
  | 155, _, _ => exact zcd_155
  | 156, _, _ => exact zcd_156
  | 157, _, _ => exact zcd_157
  | 158, _, _ => exact zcd_158
  | 159, _, _ => exact zcd_159
  | 160, _, _ => exact zcd_160
  | 161, _, _ => exact zcd_161
  | 162, _, _ => exact zcd_162
  | 163, _, _ => exact zcd_163
  | 164, _, _ => exact zcd_164
  | 165, _, _ => exact zcd_165
  | 166, _, _ => exact zcd_166
  | 167, _, _ => exact zcd_167
  | 168, _, _ => exact zcd_168
  | 169, _, _ => exact zcd_169
  | 170, _, _ => exact zcd_170
  | 171, _, _ => exact zcd_171
  | 172, _, _ => exact zcd_172
  | 173, _, _ => exact zcd_173
  | 174, _, _ => exact zcd_174
  | 175, _, _ => exact zcd_175
  | 176, _, _ => exact zcd_176
  | 177, _, _ => exact zcd_177
  | 178, _, _ => exact zcd_178
  | 179, _, _ => exact zcd_179
  | 180, _, _ => exact zcd_180
  | 181, _, _ => exact zcd_181
  | 182, _, _ => exact zcd_182
  | 183, _, _ => exact zcd_183
  | 184, _, _ => exact zcd_184
  | 185, _, _ => exact zcd_185
  | 186, _, _ => exact zcd_186
  | 187, _, _ => exact zcd_187
  | 188, _, _ => exact zcd_188
  | 189, _, _ => exact zcd_189
  | 190, _, _ => exact zcd_190
  | 191, _, _ => exact zcd_191
  | 192, _, _ => exact zcd_192
  | 193, _, _ => exact zcd_193
  | 194, _, _ => exact zcd_194
  | 195, _, _ => exact zcd_195
  | 196, _, _ => exact zcd_196
  | 197, _, _ => exact zcd_197
  | 198, _, _ => exact zcd_198
  | 199, _, _ => exact zcd_199
  | 200, _, _ => exact zcd_200
  | 201, _, _ => exact zcd_201
  | 202, _, _ => exact zcd_202
  | 203, _, _ => exact zcd_203
  | 204, _, _ => exact zcd_204
  | 205, _, _ => exact zcd_205
  | 206, _, _ => exact zcd_206
  | 207, _, _ => exact zcd_207
  | 208, _, _ => exact zcd_208
  | 209, _, _ => exact zcd_209
  | 210, _, _ => exact zcd_210
  | 211, _, _ => exact zcd_211
  | 212, _, _ => exact zcd_212
  | 213, _, _ => exact zcd_213
  | 214, _, _ => exact zcd_214
  | 215, _, _ => exact zcd_215
  | 216, _, _ => exact zcd_216
  | 217, _, _ => exact zcd_217
  | 218, _, _ => exact zcd_218
  | 219, _, _ => exact zcd_219
  | 220, _, _ => exact zcd_220
  | 221, _, _ => exact zcd_221
  | 222, _, _ => exact zcd_222
  | 223, _, _ => exact zcd_223
  | 224, _, _ => exact zcd_224
  | 225, _, _ => exact zcd_225
  | 226, _, _ => exact zcd_226
  | 227, _, _ => exact zcd_227
  | 228, _, _ => exact zcd_228
  | 229, _, _ => exact zcd_229
  | 230, _, _ => exact zcd_230
  | 231, _, _ => exact zcd_231
  | 232, _, _ => exact zcd_232
  | 233, _, _ => exact zcd_233
  | 234, _, _ => exact zcd_234
  | 235, _, _ => exact zcd_235
  | 236, _, _ => exact zcd_236
  | 237, _, _ => exact zcd_237
  | 238, _, _ => exact zcd_238
  | 239, _, _ => exact zcd_239
  | k + 240, _, h => exact absurd h (by omega)
