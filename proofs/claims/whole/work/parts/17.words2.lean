theorem w_0 : Cond.selects R_LT (⟨R_LT, "forget", "()V"⟩ : MethodName) (⟨R_LT, "forget", "()V"⟩ : MethodName) ∈ zws := List.mem_filter.mpr ⟨List.mem_of_getElem? (i := 0) (by decide +kernel), by decide +kernel⟩
theorem w_1 : Cond.selects R_Reach (⟨R_Reach, "start", "()Z"⟩ : MethodName) (⟨R_Reach, "start", "()Z"⟩ : MethodName) ∈ zws := List.mem_filter.mpr ⟨List.mem_of_getElem? (i := 1) (by decide +kernel), by decide +kernel⟩
theorem w_2 : Cond.selects R_Reach (⟨R_Reach, "advance", "(I)Z"⟩ : MethodName) (⟨R_Reach, "advance", "(I)Z"⟩ : MethodName) ∈ zws := List.mem_filter.mpr ⟨List.mem_of_getElem? (i := 2) (by decide +kernel), by decide +kernel⟩
theorem w_3 : Cond.selects R_Reach (⟨R_Reach, "widened", "(J)J"⟩ : MethodName) (⟨R_Reach, "widened", "(J)J"⟩ : MethodName) ∈ zws := List.mem_filter.mpr ⟨List.mem_of_getElem? (i := 3) (by decide +kernel), by decide +kernel⟩
theorem w_4 : Cond.selects R_Reach (⟨R_Reach, "canStep", "(III)Z"⟩ : MethodName) (⟨R_Reach, "canStep", "(III)Z"⟩ : MethodName) ∈ zws := List.mem_filter.mpr ⟨List.mem_of_getElem? (i := 4) (by decide +kernel), by decide +kernel⟩
theorem w_5 : Cond.selects R_LT (⟨R_LT, "bestSearch", "()LLevelTables$Search;"⟩ : MethodName) (⟨R_LT, "bestSearch", "()LLevelTables$Search;"⟩ : MethodName) ∈ zws := List.mem_filter.mpr ⟨List.mem_of_getElem? (i := 5) (by decide +kernel), by decide +kernel⟩
theorem w_6 : Cond.selects R_Search (⟨R_Search, "fillLayer", "(I)V"⟩ : MethodName) (⟨R_Search, "fillLayer", "(I)V"⟩ : MethodName) ∈ zws := List.mem_filter.mpr ⟨List.mem_of_getElem? (i := 6) (by decide +kernel), by decide +kernel⟩
theorem w_7 : Cond.selects R_Search (⟨R_Search, "slotOf", "(I)I"⟩ : MethodName) (⟨R_Search, "slotOf", "(I)I"⟩ : MethodName) ∈ zws := List.mem_filter.mpr ⟨List.mem_of_getElem? (i := 7) (by decide +kernel), by decide +kernel⟩
theorem w_8 : Cond.selects R_Search (⟨R_Search, "fillLast", "([JI)V"⟩ : MethodName) (⟨R_Search, "fillLast", "([JI)V"⟩ : MethodName) ∈ zws := List.mem_filter.mpr ⟨List.mem_of_getElem? (i := 8) (by decide +kernel), by decide +kernel⟩
theorem w_9 : Cond.selects R_Search (⟨R_Search, "earthValue", "(II)J"⟩ : MethodName) (⟨R_Search, "earthValue", "(II)J"⟩ : MethodName) ∈ zws := List.mem_filter.mpr ⟨List.mem_of_getElem? (i := 9) (by decide +kernel), by decide +kernel⟩
theorem w_10 : Cond.selects R_Search (⟨R_Search, "indexOf", "(II)I"⟩ : MethodName) (⟨R_Search, "indexOf", "(II)I"⟩ : MethodName) ∈ zws := List.mem_filter.mpr ⟨List.mem_of_getElem? (i := 10) (by decide +kernel), by decide +kernel⟩
theorem w_11 : Cond.selects R_Search (⟨R_Search, "fillLeaving", "(II)V"⟩ : MethodName) (⟨R_Search, "fillLeaving", "(II)V"⟩ : MethodName) ∈ zws := List.mem_filter.mpr ⟨List.mem_of_getElem? (i := 11) (by decide +kernel), by decide +kernel⟩
theorem w_12 : Cond.selects R_Search (⟨R_Search, "addStep", "(III)V"⟩ : MethodName) (⟨R_Search, "addStep", "(III)V"⟩ : MethodName) ∈ zws := List.mem_filter.mpr ⟨List.mem_of_getElem? (i := 12) (by decide +kernel), by decide +kernel⟩
theorem w_13 : Cond.selects R_Search (⟨R_Search, "merge", "([JI[JIJ)V"⟩ : MethodName) (⟨R_Search, "merge", "([JI[JIJ)V"⟩ : MethodName) ∈ zws := List.mem_filter.mpr ⟨List.mem_of_getElem? (i := 13) (by decide +kernel), by decide +kernel⟩
theorem w_14 : Cond.selects R_Search (⟨R_Search, "insert", "([JIJ)V"⟩ : MethodName) (⟨R_Search, "insert", "([JIJ)V"⟩ : MethodName) ∈ zws := List.mem_filter.mpr ⟨List.mem_of_getElem? (i := 14) (by decide +kernel), by decide +kernel⟩
theorem w_15 : Cond.selects R_Search (⟨R_Search, "addSpan", "(III)V"⟩ : MethodName) (⟨R_Search, "addSpan", "(III)V"⟩ : MethodName) ∈ zws := List.mem_filter.mpr ⟨List.mem_of_getElem? (i := 15) (by decide +kernel), by decide +kernel⟩
theorem w_16 : Cond.selects R_Search (⟨R_Search, "slotOfEnd", "(I)I"⟩ : MethodName) (⟨R_Search, "slotOfEnd", "(I)I"⟩ : MethodName) ∈ zws := List.mem_filter.mpr ⟨List.mem_of_getElem? (i := 16) (by decide +kernel), by decide +kernel⟩
theorem w_17 : Cond.selects R_Search (⟨R_Search, "fillStates", "([JI)V"⟩ : MethodName) (⟨R_Search, "fillStates", "([JI)V"⟩ : MethodName) ∈ zws := List.mem_filter.mpr ⟨List.mem_of_getElem? (i := 17) (by decide +kernel), by decide +kernel⟩
theorem w_18 : Cond.selects R_Search (⟨R_Search, "gather", "([JIII)V"⟩ : MethodName) (⟨R_Search, "gather", "([JIII)V"⟩ : MethodName) ∈ zws := List.mem_filter.mpr ⟨List.mem_of_getElem? (i := 18) (by decide +kernel), by decide +kernel⟩
theorem w_19 : Cond.selects R_Search (⟨R_Search, "keepLayer", "(I)V"⟩ : MethodName) (⟨R_Search, "keepLayer", "(I)V"⟩ : MethodName) ∈ zws := List.mem_filter.mpr ⟨List.mem_of_getElem? (i := 19) (by decide +kernel), by decide +kernel⟩
theorem w_20 : Cond.selects R_Search (⟨R_Search, "fillLeast", "()V"⟩ : MethodName) (⟨R_Search, "fillLeast", "()V"⟩ : MethodName) ∈ zws := List.mem_filter.mpr ⟨List.mem_of_getElem? (i := 20) (by decide +kernel), by decide +kernel⟩
theorem w_21 : Cond.selects R_Search (⟨R_Search, "traceFrom", "(LLevelTables$Table;I)I"⟩ : MethodName) (⟨R_Search, "traceFrom", "(LLevelTables$Table;I)I"⟩ : MethodName) ∈ zws := List.mem_filter.mpr ⟨List.mem_of_getElem? (i := 21) (by decide +kernel), by decide +kernel⟩
theorem w_22 : Cond.selects R_Search (⟨R_Search, "wantedAt", "(LLevelTables$Table;I)J"⟩ : MethodName) (⟨R_Search, "wantedAt", "(LLevelTables$Table;I)J"⟩ : MethodName) ∈ zws := List.mem_filter.mpr ⟨List.mem_of_getElem? (i := 22) (by decide +kernel), by decide +kernel⟩
theorem w_23 : Cond.selects R_Search (⟨R_Search, "mayFollow", "(LLevelTables$Table;II)Z"⟩ : MethodName) (⟨R_Search, "mayFollow", "(LLevelTables$Table;II)Z"⟩ : MethodName) ∈ zws := List.mem_filter.mpr ⟨List.mem_of_getElem? (i := 23) (by decide +kernel), by decide +kernel⟩
theorem w_24 : Cond.selects R_Search (⟨R_Search, "lay", "(LLevelTables$Table;IIII)I"⟩ : MethodName) (⟨R_Search, "lay", "(LLevelTables$Table;IIII)I"⟩ : MethodName) ∈ zws := List.mem_filter.mpr ⟨List.mem_of_getElem? (i := 24) (by decide +kernel), by decide +kernel⟩
theorem w_25 : Cond.selects R_LT (⟨R_LT, "curveRefusal", "(II)I"⟩ : MethodName) (⟨R_LT, "curveRefusal", "(II)I"⟩ : MethodName) ∈ zws := List.mem_filter.mpr ⟨List.mem_of_getElem? (i := 25) (by decide +kernel), by decide +kernel⟩
theorem w_26 : Cond.selects R_Lorry (⟨R_Lorry, "speedBehind", "(II)I"⟩ : MethodName) (⟨R_Lorry, "speedBehind", "(II)I"⟩ : MethodName) ∈ zws := List.mem_filter.mpr ⟨List.mem_of_getElem? (i := 26) (by decide +kernel), by decide +kernel⟩
theorem w_27 : Cond.selects R_LT (⟨R_LT, "toldOfTable", "(I)I"⟩ : MethodName) (⟨R_LT, "toldOfTable", "(I)I"⟩ : MethodName) ∈ zws := List.mem_filter.mpr ⟨List.mem_of_getElem? (i := 27) (by decide +kernel), by decide +kernel⟩
theorem w_28 : Cond.selects R_Table (⟨R_Table, "placesHold", "()Z"⟩ : MethodName) (⟨R_Table, "placesHold", "()Z"⟩ : MethodName) ∈ zws := List.mem_filter.mpr ⟨List.mem_of_getElem? (i := 28) (by decide +kernel), by decide +kernel⟩
theorem w_29 : Cond.selects R_Table (⟨R_Table, "slopesHold", "()Z"⟩ : MethodName) (⟨R_Table, "slopesHold", "()Z"⟩ : MethodName) ∈ zws := List.mem_filter.mpr ⟨List.mem_of_getElem? (i := 29) (by decide +kernel), by decide +kernel⟩
theorem w_30 : Cond.selects R_Table (⟨R_Table, "spansHold", "()Z"⟩ : MethodName) (⟨R_Table, "spansHold", "()Z"⟩ : MethodName) ∈ zws := List.mem_filter.mpr ⟨List.mem_of_getElem? (i := 30) (by decide +kernel), by decide +kernel⟩
theorem w_31 : Cond.selects R_Table (⟨R_Table, "spanHolds", "(I)Z"⟩ : MethodName) (⟨R_Table, "spanHolds", "(I)Z"⟩ : MethodName) ∈ zws := List.mem_filter.mpr ⟨List.mem_of_getElem? (i := 31) (by decide +kernel), by decide +kernel⟩
theorem w_57 : Cond.initialized R_LT ∈ zws := List.mem_filter.mpr ⟨List.mem_of_getElem? (i := 57) (by decide +kernel), by decide +kernel⟩
theorem w_58 : Cond.initialized R_Math ∈ zws := List.mem_filter.mpr ⟨List.mem_of_getElem? (i := 58) (by decide +kernel), by decide +kernel⟩
theorem w_59 : Cond.initialized R_Site ∈ zws := List.mem_filter.mpr ⟨List.mem_of_getElem? (i := 59) (by decide +kernel), by decide +kernel⟩
theorem w_60 : Cond.initialized R_Arrays ∈ zws := List.mem_filter.mpr ⟨List.mem_of_getElem? (i := 60) (by decide +kernel), by decide +kernel⟩
theorem w_61 : Cond.initialized R_Spans ∈ zws := List.mem_filter.mpr ⟨List.mem_of_getElem? (i := 61) (by decide +kernel), by decide +kernel⟩
theorem w_62 : Cond.initialized R_Reach ∈ zws := List.mem_filter.mpr ⟨List.mem_of_getElem? (i := 62) (by decide +kernel), by decide +kernel⟩
theorem w_63 : Cond.initialized R_Table ∈ zws := List.mem_filter.mpr ⟨List.mem_of_getElem? (i := 63) (by decide +kernel), by decide +kernel⟩
theorem w_64 : Cond.initialized R_Curves ∈ zws := List.mem_filter.mpr ⟨List.mem_of_getElem? (i := 64) (by decide +kernel), by decide +kernel⟩
theorem w_65 : Cond.initialized R_Lorry ∈ zws := List.mem_filter.mpr ⟨List.mem_of_getElem? (i := 65) (by decide +kernel), by decide +kernel⟩
theorem w_67 : Cond.initialized R_Search ∈ zws := List.mem_filter.mpr ⟨List.mem_of_getElem? (i := 67) (by decide +kernel), by decide +kernel⟩
theorem w_68 : Cond.initialized R_System ∈ zws := List.mem_filter.mpr ⟨List.mem_of_getElem? (i := 68) (by decide +kernel), by decide +kernel⟩
theorem w_69 : Cond.initialized R_Integer ∈ zws := List.mem_filter.mpr ⟨List.mem_of_getElem? (i := 69) (by decide +kernel), by decide +kernel⟩
theorem w_75 : Cond.methodLink R_LT 1 Lib.objectInit ∈ zws := List.mem_filter.mpr ⟨List.mem_of_getElem? (i := 75) (by decide +kernel), by decide +kernel⟩
theorem w_78 : Cond.methodLink R_LT 9 Lib.Math.min.name ∈ zws := List.mem_filter.mpr ⟨List.mem_of_getElem? (i := 78) (by decide +kernel), by decide +kernel⟩
theorem w_79 : Cond.static Lib.Math.min.name ∈ zws := List.mem_filter.mpr ⟨List.mem_of_getElem? (i := 79) (by decide +kernel), by decide +kernel⟩
theorem w_80 : Cond.code Lib.Math.min.name Lib.Math.min.code 2 (some .int) ∈ zws := List.mem_filter.mpr ⟨List.mem_of_getElem? (i := 80) (by decide +kernel), by decide +kernel⟩
theorem w_81 : Cond.methodLink R_LT 15 Lib.Math.max.name ∈ zws := List.mem_filter.mpr ⟨List.mem_of_getElem? (i := 81) (by decide +kernel), by decide +kernel⟩
theorem w_82 : Cond.static Lib.Math.max.name ∈ zws := List.mem_filter.mpr ⟨List.mem_of_getElem? (i := 82) (by decide +kernel), by decide +kernel⟩
theorem w_83 : Cond.code Lib.Math.max.name Lib.Math.max.code 2 (some .int) ∈ zws := List.mem_filter.mpr ⟨List.mem_of_getElem? (i := 83) (by decide +kernel), by decide +kernel⟩
theorem w_84 : Cond.classLink R_LT 18 R_Site ∈ zws := List.mem_filter.mpr ⟨List.mem_of_getElem? (i := 84) (by decide +kernel), by decide +kernel⟩
theorem w_85 : Cond.instantiable R_Site 10 ∈ zws := List.mem_filter.mpr ⟨List.mem_of_getElem? (i := 85) (by decide +kernel), by decide +kernel⟩
theorem w_86 : Cond.methodLink R_LT 20 (⟨R_Site, "<init>", "(II)V"⟩ : MethodName) ∈ zws := List.mem_filter.mpr ⟨List.mem_of_getElem? (i := 86) (by decide +kernel), by decide +kernel⟩
theorem w_87 : Cond.instanceMethod (⟨R_Site, "<init>", "(II)V"⟩ : MethodName) ∈ zws := List.mem_filter.mpr ⟨List.mem_of_getElem? (i := 87) (by decide +kernel), by decide +kernel⟩
theorem w_88 : Cond.code (⟨R_Site, "<init>", "(II)V"⟩ : MethodName) prog_6_method_1_code 3 none ∈ zws := List.mem_filter.mpr ⟨List.mem_of_getElem? (i := 88) (by decide +kernel), by decide +kernel⟩
theorem w_89 : Cond.methodLink R_Site 3 Lib.objectInit ∈ zws := List.mem_filter.mpr ⟨List.mem_of_getElem? (i := 89) (by decide +kernel), by decide +kernel⟩
theorem w_90 : Cond.methodLink R_Site 43 (⟨R_Arrays, "fill", "([II)V"⟩ : MethodName) ∈ zws := List.mem_filter.mpr ⟨List.mem_of_getElem? (i := 90) (by decide +kernel), by decide +kernel⟩
theorem w_91 : Cond.static (⟨R_Arrays, "fill", "([II)V"⟩ : MethodName) ∈ zws := List.mem_filter.mpr ⟨List.mem_of_getElem? (i := 91) (by decide +kernel), by decide +kernel⟩
theorem w_92 : Cond.code (⟨R_Arrays, "fill", "([II)V"⟩ : MethodName) prog_14_method_103_code 4 none ∈ zws := List.mem_filter.mpr ⟨List.mem_of_getElem? (i := 92) (by decide +kernel), by decide +kernel⟩
theorem w_93 : Cond.fieldLink R_Site 21 R_Site "last" "I" ∈ zws := List.mem_filter.mpr ⟨List.mem_of_getElem? (i := 93) (by decide +kernel), by decide +kernel⟩
theorem w_94 : Cond.fieldLink R_Table 31 R_Site "last" "I" ∈ zws := List.mem_filter.mpr ⟨List.mem_of_getElem? (i := 94) (by decide +kernel), by decide +kernel⟩
theorem w_95 : Cond.fieldLink R_Search 47 R_Site "last" "I" ∈ zws := List.mem_filter.mpr ⟨List.mem_of_getElem? (i := 95) (by decide +kernel), by decide +kernel⟩
theorem w_96 : Cond.fieldLink R_Reach 32 R_Site "last" "I" ∈ zws := List.mem_filter.mpr ⟨List.mem_of_getElem? (i := 96) (by decide +kernel), by decide +kernel⟩
theorem w_97 : Cond.fieldLink R_LT 183 R_Site "last" "I" ∈ zws := List.mem_filter.mpr ⟨List.mem_of_getElem? (i := 97) (by decide +kernel), by decide +kernel⟩
theorem w_98 : Cond.fieldLink R_Reach 15 R_Site "top" "I" ∈ zws := List.mem_filter.mpr ⟨List.mem_of_getElem? (i := 98) (by decide +kernel), by decide +kernel⟩
theorem w_99 : Cond.fieldLink R_Site 24 R_Site "top" "I" ∈ zws := List.mem_filter.mpr ⟨List.mem_of_getElem? (i := 99) (by decide +kernel), by decide +kernel⟩
theorem w_100 : Cond.fieldLink R_Search 26 R_Site "top" "I" ∈ zws := List.mem_filter.mpr ⟨List.mem_of_getElem? (i := 100) (by decide +kernel), by decide +kernel⟩
theorem w_101 : Cond.fieldLink R_Site 27 R_Site "ground" "[I" ∈ zws := List.mem_filter.mpr ⟨List.mem_of_getElem? (i := 101) (by decide +kernel), by decide +kernel⟩
theorem w_102 : Cond.fieldLink R_LT 75 R_Site "ground" "[I" ∈ zws := List.mem_filter.mpr ⟨List.mem_of_getElem? (i := 102) (by decide +kernel), by decide +kernel⟩
theorem w_103 : Cond.fieldLink R_Table 47 R_Site "ground" "[I" ∈ zws := List.mem_filter.mpr ⟨List.mem_of_getElem? (i := 103) (by decide +kernel), by decide +kernel⟩
theorem w_104 : Cond.fieldLink R_Spans 29 R_Site "ground" "[I" ∈ zws := List.mem_filter.mpr ⟨List.mem_of_getElem? (i := 104) (by decide +kernel), by decide +kernel⟩
theorem w_105 : Cond.fieldLink R_Site 31 R_Site "cut" "[I" ∈ zws := List.mem_filter.mpr ⟨List.mem_of_getElem? (i := 105) (by decide +kernel), by decide +kernel⟩
theorem w_106 : Cond.fieldLink R_LT 87 R_Site "cut" "[I" ∈ zws := List.mem_filter.mpr ⟨List.mem_of_getElem? (i := 106) (by decide +kernel), by decide +kernel⟩
theorem w_107 : Cond.fieldLink R_Site 34 R_Site "fill" "[I" ∈ zws := List.mem_filter.mpr ⟨List.mem_of_getElem? (i := 107) (by decide +kernel), by decide +kernel⟩
theorem w_108 : Cond.fieldLink R_LT 90 R_Site "fill" "[I" ∈ zws := List.mem_filter.mpr ⟨List.mem_of_getElem? (i := 108) (by decide +kernel), by decide +kernel⟩
theorem w_109 : Cond.fieldLink R_Site 37 R_Site "fixedAt" "[I" ∈ zws := List.mem_filter.mpr ⟨List.mem_of_getElem? (i := 109) (by decide +kernel), by decide +kernel⟩
theorem w_110 : Cond.fieldLink R_LT 112 R_Site "fixedAt" "[I" ∈ zws := List.mem_filter.mpr ⟨List.mem_of_getElem? (i := 110) (by decide +kernel), by decide +kernel⟩
theorem w_111 : Cond.fieldLink R_Site 40 R_Site "movedTo" "[I" ∈ zws := List.mem_filter.mpr ⟨List.mem_of_getElem? (i := 111) (by decide +kernel), by decide +kernel⟩
theorem w_112 : Cond.fieldLink R_LT 177 R_Site "movedTo" "[I" ∈ zws := List.mem_filter.mpr ⟨List.mem_of_getElem? (i := 112) (by decide +kernel), by decide +kernel⟩
theorem w_113 : Cond.fieldLink R_Site 9 R_Site "most" "I" ∈ zws := List.mem_filter.mpr ⟨List.mem_of_getElem? (i := 113) (by decide +kernel), by decide +kernel⟩
theorem w_114 : Cond.fieldLink R_LT 115 R_Site "most" "I" ∈ zws := List.mem_filter.mpr ⟨List.mem_of_getElem? (i := 114) (by decide +kernel), by decide +kernel⟩
theorem w_115 : Cond.fieldLink R_Site 15 R_Site "change" "I" ∈ zws := List.mem_filter.mpr ⟨List.mem_of_getElem? (i := 115) (by decide +kernel), by decide +kernel⟩
theorem w_116 : Cond.fieldLink R_Reach 69 R_Site "change" "I" ∈ zws := List.mem_filter.mpr ⟨List.mem_of_getElem? (i := 116) (by decide +kernel), by decide +kernel⟩
theorem w_117 : Cond.fieldLink R_LT 118 R_Site "change" "I" ∈ zws := List.mem_filter.mpr ⟨List.mem_of_getElem? (i := 117) (by decide +kernel), by decide +kernel⟩
theorem w_118 : Cond.fieldLink R_Search 130 R_Site "change" "I" ∈ zws := List.mem_filter.mpr ⟨List.mem_of_getElem? (i := 118) (by decide +kernel), by decide +kernel⟩
theorem w_119 : Cond.fieldLink R_Site 18 R_Site "falls" "I" ∈ zws := List.mem_filter.mpr ⟨List.mem_of_getElem? (i := 119) (by decide +kernel), by decide +kernel⟩
theorem w_120 : Cond.fieldLink R_LT 121 R_Site "falls" "I" ∈ zws := List.mem_filter.mpr ⟨List.mem_of_getElem? (i := 120) (by decide +kernel), by decide +kernel⟩
theorem w_143 : Cond.classLink R_LT 27 R_Spans ∈ zws := List.mem_filter.mpr ⟨List.mem_of_getElem? (i := 143) (by decide +kernel), by decide +kernel⟩
theorem w_144 : Cond.instantiable R_Spans 5 ∈ zws := List.mem_filter.mpr ⟨List.mem_of_getElem? (i := 144) (by decide +kernel), by decide +kernel⟩
theorem w_146 : Cond.instanceMethod (⟨R_Spans, "<init>", "()V"⟩ : MethodName) ∈ zws := List.mem_filter.mpr ⟨List.mem_of_getElem? (i := 146) (by decide +kernel), by decide +kernel⟩
theorem w_147 : Cond.code (⟨R_Spans, "<init>", "()V"⟩ : MethodName) prog_7_method_1_code 1 none ∈ zws := List.mem_filter.mpr ⟨List.mem_of_getElem? (i := 147) (by decide +kernel), by decide +kernel⟩
theorem w_148 : Cond.methodLink R_Spans 3 Lib.objectInit ∈ zws := List.mem_filter.mpr ⟨List.mem_of_getElem? (i := 148) (by decide +kernel), by decide +kernel⟩
theorem w_149 : Cond.fieldLink R_Spans 9 R_Spans "count" "I" ∈ zws := List.mem_filter.mpr ⟨List.mem_of_getElem? (i := 149) (by decide +kernel), by decide +kernel⟩
theorem w_150 : Cond.fieldLink R_LT 95 R_Spans "count" "I" ∈ zws := List.mem_filter.mpr ⟨List.mem_of_getElem? (i := 150) (by decide +kernel), by decide +kernel⟩
theorem w_151 : Cond.fieldLink R_Table 89 R_Spans "count" "I" ∈ zws := List.mem_filter.mpr ⟨List.mem_of_getElem? (i := 151) (by decide +kernel), by decide +kernel⟩
theorem w_152 : Cond.fieldLink R_Spans 15 R_Spans "from" "[I" ∈ zws := List.mem_filter.mpr ⟨List.mem_of_getElem? (i := 152) (by decide +kernel), by decide +kernel⟩
theorem w_153 : Cond.fieldLink R_Table 97 R_Spans "from" "[I" ∈ zws := List.mem_filter.mpr ⟨List.mem_of_getElem? (i := 153) (by decide +kernel), by decide +kernel⟩
theorem w_154 : Cond.fieldLink R_Search 169 R_Spans "from" "[I" ∈ zws := List.mem_filter.mpr ⟨List.mem_of_getElem? (i := 154) (by decide +kernel), by decide +kernel⟩
theorem w_155 : Cond.fieldLink R_Spans 19 R_Spans "to" "[I" ∈ zws := List.mem_filter.mpr ⟨List.mem_of_getElem? (i := 155) (by decide +kernel), by decide +kernel⟩
theorem w_156 : Cond.fieldLink R_Table 100 R_Spans "to" "[I" ∈ zws := List.mem_filter.mpr ⟨List.mem_of_getElem? (i := 156) (by decide +kernel), by decide +kernel⟩
theorem w_157 : Cond.fieldLink R_Search 165 R_Spans "to" "[I" ∈ zws := List.mem_filter.mpr ⟨List.mem_of_getElem? (i := 157) (by decide +kernel), by decide +kernel⟩
theorem w_158 : Cond.fieldLink R_Spans 22 R_Spans "kind" "[I" ∈ zws := List.mem_filter.mpr ⟨List.mem_of_getElem? (i := 158) (by decide +kernel), by decide +kernel⟩
theorem w_159 : Cond.fieldLink R_Spans 25 R_Spans "cents" "[J" ∈ zws := List.mem_filter.mpr ⟨List.mem_of_getElem? (i := 159) (by decide +kernel), by decide +kernel⟩
theorem w_160 : Cond.fieldLink R_Search 179 R_Spans "cents" "[J" ∈ zws := List.mem_filter.mpr ⟨List.mem_of_getElem? (i := 160) (by decide +kernel), by decide +kernel⟩
theorem w_173 : Cond.classLink R_LT 34 R_Reach ∈ zws := List.mem_filter.mpr ⟨List.mem_of_getElem? (i := 173) (by decide +kernel), by decide +kernel⟩
theorem w_174 : Cond.instantiable R_Reach 3 ∈ zws := List.mem_filter.mpr ⟨List.mem_of_getElem? (i := 174) (by decide +kernel), by decide +kernel⟩
theorem w_175 : Cond.methodLink R_LT 36 (⟨R_Reach, "<init>", "(LLevelTables$Site;)V"⟩ : MethodName) ∈ zws := List.mem_filter.mpr ⟨List.mem_of_getElem? (i := 175) (by decide +kernel), by decide +kernel⟩
theorem w_176 : Cond.instanceMethod (⟨R_Reach, "<init>", "(LLevelTables$Site;)V"⟩ : MethodName) ∈ zws := List.mem_filter.mpr ⟨List.mem_of_getElem? (i := 176) (by decide +kernel), by decide +kernel⟩
theorem w_177 : Cond.code (⟨R_Reach, "<init>", "(LLevelTables$Site;)V"⟩ : MethodName) prog_4_method_1_code 2 none ∈ zws := List.mem_filter.mpr ⟨List.mem_of_getElem? (i := 177) (by decide +kernel), by decide +kernel⟩
theorem w_178 : Cond.methodLink R_Reach 3 Lib.objectInit ∈ zws := List.mem_filter.mpr ⟨List.mem_of_getElem? (i := 178) (by decide +kernel), by decide +kernel⟩
theorem w_179 : Cond.fieldLink R_Reach 9 R_Reach "site" "LLevelTables$Site;" ∈ zws := List.mem_filter.mpr ⟨List.mem_of_getElem? (i := 179) (by decide +kernel), by decide +kernel⟩
theorem w_180 : Cond.fieldLink R_Reach 21 R_Reach "here" "[J" ∈ zws := List.mem_filter.mpr ⟨List.mem_of_getElem? (i := 180) (by decide +kernel), by decide +kernel⟩
theorem w_181 : Cond.fieldLink R_Reach 25 R_Reach "there" "[J" ∈ zws := List.mem_filter.mpr ⟨List.mem_of_getElem? (i := 181) (by decide +kernel), by decide +kernel⟩
theorem w_189 : Cond.classLink R_LT 43 R_Table ∈ zws := List.mem_filter.mpr ⟨List.mem_of_getElem? (i := 189) (by decide +kernel), by decide +kernel⟩
theorem w_190 : Cond.instantiable R_Table 7 ∈ zws := List.mem_filter.mpr ⟨List.mem_of_getElem? (i := 190) (by decide +kernel), by decide +kernel⟩
theorem w_191 : Cond.methodLink R_LT 45 (⟨R_Table, "<init>", "(LLevelTables$Site;LLevelTables$Spans;)V"⟩ : MethodName) ∈ zws := List.mem_filter.mpr ⟨List.mem_of_getElem? (i := 191) (by decide +kernel), by decide +kernel⟩
theorem w_192 : Cond.instanceMethod (⟨R_Table, "<init>", "(LLevelTables$Site;LLevelTables$Spans;)V"⟩ : MethodName) ∈ zws := List.mem_filter.mpr ⟨List.mem_of_getElem? (i := 192) (by decide +kernel), by decide +kernel⟩
theorem w_193 : Cond.code (⟨R_Table, "<init>", "(LLevelTables$Site;LLevelTables$Spans;)V"⟩ : MethodName) prog_8_method_1_code 3 none ∈ zws := List.mem_filter.mpr ⟨List.mem_of_getElem? (i := 193) (by decide +kernel), by decide +kernel⟩
theorem w_194 : Cond.methodLink R_Table 3 Lib.objectInit ∈ zws := List.mem_filter.mpr ⟨List.mem_of_getElem? (i := 194) (by decide +kernel), by decide +kernel⟩
theorem w_195 : Cond.fieldLink R_Table 23 R_Table "site" "LLevelTables$Site;" ∈ zws := List.mem_filter.mpr ⟨List.mem_of_getElem? (i := 195) (by decide +kernel), by decide +kernel⟩
theorem w_196 : Cond.fieldLink R_Table 27 R_Table "spans" "LLevelTables$Spans;" ∈ zws := List.mem_filter.mpr ⟨List.mem_of_getElem? (i := 196) (by decide +kernel), by decide +kernel⟩
theorem w_197 : Cond.fieldLink R_Table 36 R_Table "levels" "[I" ∈ zws := List.mem_filter.mpr ⟨List.mem_of_getElem? (i := 197) (by decide +kernel), by decide +kernel⟩
theorem w_198 : Cond.fieldLink R_Lorry 33 R_Table "levels" "[I" ∈ zws := List.mem_filter.mpr ⟨List.mem_of_getElem? (i := 198) (by decide +kernel), by decide +kernel⟩
theorem w_199 : Cond.fieldLink R_LT 154 R_Table "levels" "[I" ∈ zws := List.mem_filter.mpr ⟨List.mem_of_getElem? (i := 199) (by decide +kernel), by decide +kernel⟩
theorem w_200 : Cond.fieldLink R_Search 189 R_Table "levels" "[I" ∈ zws := List.mem_filter.mpr ⟨List.mem_of_getElem? (i := 200) (by decide +kernel), by decide +kernel⟩
theorem w_201 : Cond.fieldLink R_Table 40 R_Table "spanOfStep" "[I" ∈ zws := List.mem_filter.mpr ⟨List.mem_of_getElem? (i := 201) (by decide +kernel), by decide +kernel⟩
theorem w_202 : Cond.fieldLink R_Search 224 R_Table "spanOfStep" "[I" ∈ zws := List.mem_filter.mpr ⟨List.mem_of_getElem? (i := 202) (by decide +kernel), by decide +kernel⟩
theorem w_203 : Cond.fieldLink R_LT 241 R_Table "spanOfStep" "[I" ∈ zws := List.mem_filter.mpr ⟨List.mem_of_getElem? (i := 203) (by decide +kernel), by decide +kernel⟩
theorem w_204 : Cond.fieldLink R_Table 9 R_Table "atHand" "Z" ∈ zws := List.mem_filter.mpr ⟨List.mem_of_getElem? (i := 204) (by decide +kernel), by decide +kernel⟩
theorem w_205 : Cond.fieldLink R_LT 150 R_Table "atHand" "Z" ∈ zws := List.mem_filter.mpr ⟨List.mem_of_getElem? (i := 205) (by decide +kernel), by decide +kernel⟩
theorem w_206 : Cond.fieldLink R_Search 199 R_Table "atHand" "Z" ∈ zws := List.mem_filter.mpr ⟨List.mem_of_getElem? (i := 206) (by decide +kernel), by decide +kernel⟩
theorem w_207 : Cond.fieldLink R_Table 15 R_Table "usedBits" "I" ∈ zws := List.mem_filter.mpr ⟨List.mem_of_getElem? (i := 207) (by decide +kernel), by decide +kernel⟩
theorem w_208 : Cond.fieldLink R_LT 141 R_Table "usedBits" "I" ∈ zws := List.mem_filter.mpr ⟨List.mem_of_getElem? (i := 208) (by decide +kernel), by decide +kernel⟩
theorem w_209 : Cond.fieldLink R_Search 194 R_Table "usedBits" "I" ∈ zws := List.mem_filter.mpr ⟨List.mem_of_getElem? (i := 209) (by decide +kernel), by decide +kernel⟩
theorem w_210 : Cond.fieldLink R_Table 19 R_Table "cents" "J" ∈ zws := List.mem_filter.mpr ⟨List.mem_of_getElem? (i := 210) (by decide +kernel), by decide +kernel⟩
theorem w_211 : Cond.fieldLink R_LT 157 R_Table "cents" "J" ∈ zws := List.mem_filter.mpr ⟨List.mem_of_getElem? (i := 211) (by decide +kernel), by decide +kernel⟩
theorem w_212 : Cond.fieldLink R_Search 197 R_Table "cents" "J" ∈ zws := List.mem_filter.mpr ⟨List.mem_of_getElem? (i := 212) (by decide +kernel), by decide +kernel⟩
theorem w_228 : Cond.classLink R_LT 52 R_Curves ∈ zws := List.mem_filter.mpr ⟨List.mem_of_getElem? (i := 228) (by decide +kernel), by decide +kernel⟩
theorem w_229 : Cond.instantiable R_Curves 2 ∈ zws := List.mem_filter.mpr ⟨List.mem_of_getElem? (i := 229) (by decide +kernel), by decide +kernel⟩
theorem w_230 : Cond.methodLink R_LT 54 (⟨R_Curves, "<init>", "(I)V"⟩ : MethodName) ∈ zws := List.mem_filter.mpr ⟨List.mem_of_getElem? (i := 230) (by decide +kernel), by decide +kernel⟩
theorem w_231 : Cond.instanceMethod (⟨R_Curves, "<init>", "(I)V"⟩ : MethodName) ∈ zws := List.mem_filter.mpr ⟨List.mem_of_getElem? (i := 231) (by decide +kernel), by decide +kernel⟩
theorem w_232 : Cond.code (⟨R_Curves, "<init>", "(I)V"⟩ : MethodName) prog_2_method_1_code 2 none ∈ zws := List.mem_filter.mpr ⟨List.mem_of_getElem? (i := 232) (by decide +kernel), by decide +kernel⟩
theorem w_233 : Cond.methodLink R_Curves 1 Lib.objectInit ∈ zws := List.mem_filter.mpr ⟨List.mem_of_getElem? (i := 233) (by decide +kernel), by decide +kernel⟩
theorem w_234 : Cond.fieldLink R_Curves 13 R_Curves "halves" "[I" ∈ zws := List.mem_filter.mpr ⟨List.mem_of_getElem? (i := 234) (by decide +kernel), by decide +kernel⟩
theorem w_235 : Cond.fieldLink R_LT 193 R_Curves "halves" "[I" ∈ zws := List.mem_filter.mpr ⟨List.mem_of_getElem? (i := 235) (by decide +kernel), by decide +kernel⟩
theorem w_236 : Cond.fieldLink R_Curves 7 R_Curves "count" "I" ∈ zws := List.mem_filter.mpr ⟨List.mem_of_getElem? (i := 236) (by decide +kernel), by decide +kernel⟩
theorem w_237 : Cond.fieldLink R_LT 192 R_Curves "count" "I" ∈ zws := List.mem_filter.mpr ⟨List.mem_of_getElem? (i := 237) (by decide +kernel), by decide +kernel⟩
theorem w_243 : Cond.classLink R_LT 61 R_Lorry ∈ zws := List.mem_filter.mpr ⟨List.mem_of_getElem? (i := 243) (by decide +kernel), by decide +kernel⟩
theorem w_244 : Cond.instantiable R_Lorry 4 ∈ zws := List.mem_filter.mpr ⟨List.mem_of_getElem? (i := 244) (by decide +kernel), by decide +kernel⟩
theorem w_246 : Cond.instanceMethod (⟨R_Lorry, "<init>", "()V"⟩ : MethodName) ∈ zws := List.mem_filter.mpr ⟨List.mem_of_getElem? (i := 246) (by decide +kernel), by decide +kernel⟩
theorem w_247 : Cond.code (⟨R_Lorry, "<init>", "()V"⟩ : MethodName) prog_3_method_1_code 1 none ∈ zws := List.mem_filter.mpr ⟨List.mem_of_getElem? (i := 247) (by decide +kernel), by decide +kernel⟩
theorem w_248 : Cond.methodLink R_Lorry 3 Lib.objectInit ∈ zws := List.mem_filter.mpr ⟨List.mem_of_getElem? (i := 248) (by decide +kernel), by decide +kernel⟩
theorem w_249 : Cond.fieldLink R_Lorry 9 R_Lorry "top" "I" ∈ zws := List.mem_filter.mpr ⟨List.mem_of_getElem? (i := 249) (by decide +kernel), by decide +kernel⟩
theorem w_250 : Cond.fieldLink R_LT 205 R_Lorry "top" "I" ∈ zws := List.mem_filter.mpr ⟨List.mem_of_getElem? (i := 250) (by decide +kernel), by decide +kernel⟩
theorem w_251 : Cond.fieldLink R_Lorry 15 R_Lorry "least" "I" ∈ zws := List.mem_filter.mpr ⟨List.mem_of_getElem? (i := 251) (by decide +kernel), by decide +kernel⟩
theorem w_252 : Cond.fieldLink R_LT 208 R_Lorry "least" "I" ∈ zws := List.mem_filter.mpr ⟨List.mem_of_getElem? (i := 252) (by decide +kernel), by decide +kernel⟩
theorem w_253 : Cond.fieldLink R_Lorry 18 R_Lorry "loss" "I" ∈ zws := List.mem_filter.mpr ⟨List.mem_of_getElem? (i := 253) (by decide +kernel), by decide +kernel⟩
theorem w_254 : Cond.fieldLink R_LT 211 R_Lorry "loss" "I" ∈ zws := List.mem_filter.mpr ⟨List.mem_of_getElem? (i := 254) (by decide +kernel), by decide +kernel⟩
theorem w_255 : Cond.fieldLink R_Lorry 21 R_Lorry "gain" "I" ∈ zws := List.mem_filter.mpr ⟨List.mem_of_getElem? (i := 255) (by decide +kernel), by decide +kernel⟩
theorem w_256 : Cond.fieldLink R_LT 214 R_Lorry "gain" "I" ∈ zws := List.mem_filter.mpr ⟨List.mem_of_getElem? (i := 256) (by decide +kernel), by decide +kernel⟩
theorem w_266 : Cond.fieldLink R_LT 23 R_LT "site" "LLevelTables$Site;" ∈ zws := List.mem_filter.mpr ⟨List.mem_of_getElem? (i := 266) (by decide +kernel), by decide +kernel⟩
theorem w_267 : Cond.fieldLink R_LT 30 R_LT "spans" "LLevelTables$Spans;" ∈ zws := List.mem_filter.mpr ⟨List.mem_of_getElem? (i := 267) (by decide +kernel), by decide +kernel⟩
theorem w_268 : Cond.fieldLink R_LT 39 R_LT "reach" "LLevelTables$Reach;" ∈ zws := List.mem_filter.mpr ⟨List.mem_of_getElem? (i := 268) (by decide +kernel), by decide +kernel⟩
theorem w_269 : Cond.fieldLink R_LT 48 R_LT "table" "LLevelTables$Table;" ∈ zws := List.mem_filter.mpr ⟨List.mem_of_getElem? (i := 269) (by decide +kernel), by decide +kernel⟩
theorem w_270 : Cond.fieldLink R_LT 57 R_LT "curves" "LLevelTables$Curves;" ∈ zws := List.mem_filter.mpr ⟨List.mem_of_getElem? (i := 270) (by decide +kernel), by decide +kernel⟩
theorem w_271 : Cond.fieldLink R_LT 64 R_LT "driven" "LLevelTables$Lorry;" ∈ zws := List.mem_filter.mpr ⟨List.mem_of_getElem? (i := 271) (by decide +kernel), by decide +kernel⟩
theorem w_272 : Cond.fieldLink R_LT 238 R_LT "best" "LLevelTables$Search;" ∈ zws := List.mem_filter.mpr ⟨List.mem_of_getElem? (i := 272) (by decide +kernel), by decide +kernel⟩
theorem w_273 : Cond.fieldLink R_LT 163 R_LT "cheapest" "LLevelTables$Search;" ∈ zws := List.mem_filter.mpr ⟨List.mem_of_getElem? (i := 273) (by decide +kernel), by decide +kernel⟩
theorem w_274 : Cond.fieldLink R_LT 170 R_LT "cheapestKnown" "Z" ∈ zws := List.mem_filter.mpr ⟨List.mem_of_getElem? (i := 274) (by decide +kernel), by decide +kernel⟩
theorem w_275 : Cond.fieldLink R_LT 180 R_LT "curveSpeed" "I" ∈ zws := List.mem_filter.mpr ⟨List.mem_of_getElem? (i := 275) (by decide +kernel), by decide +kernel⟩
theorem w_301 : Cond.methodLink R_LT 68 (⟨R_Site, "isPlace", "(I)Z"⟩ : MethodName) ∈ zws := List.mem_filter.mpr ⟨List.mem_of_getElem? (i := 301) (by decide +kernel), by decide +kernel⟩
theorem w_302 : Cond.instanceMethod (⟨R_Site, "isPlace", "(I)Z"⟩ : MethodName) ∈ zws := List.mem_filter.mpr ⟨List.mem_of_getElem? (i := 302) (by decide +kernel), by decide +kernel⟩
theorem w_303 : Cond.selects R_Site (⟨R_Site, "isPlace", "(I)Z"⟩ : MethodName) (⟨R_Site, "isPlace", "(I)Z"⟩ : MethodName) ∈ zws := List.mem_filter.mpr ⟨List.mem_of_getElem? (i := 303) (by decide +kernel), by decide +kernel⟩
theorem w_304 : Cond.code (⟨R_Site, "isPlace", "(I)Z"⟩ : MethodName) prog_6_method_2_code 2 (some .boolean) ∈ zws := List.mem_filter.mpr ⟨List.mem_of_getElem? (i := 304) (by decide +kernel), by decide +kernel⟩
theorem w_305 : Cond.methodLink R_LT 72 (⟨R_Site, "isLevel", "(I)Z"⟩ : MethodName) ∈ zws := List.mem_filter.mpr ⟨List.mem_of_getElem? (i := 305) (by decide +kernel), by decide +kernel⟩
theorem w_306 : Cond.instanceMethod (⟨R_Site, "isLevel", "(I)Z"⟩ : MethodName) ∈ zws := List.mem_filter.mpr ⟨List.mem_of_getElem? (i := 306) (by decide +kernel), by decide +kernel⟩
theorem w_307 : Cond.selects R_Site (⟨R_Site, "isLevel", "(I)Z"⟩ : MethodName) (⟨R_Site, "isLevel", "(I)Z"⟩ : MethodName) ∈ zws := List.mem_filter.mpr ⟨List.mem_of_getElem? (i := 307) (by decide +kernel), by decide +kernel⟩
theorem w_308 : Cond.code (⟨R_Site, "isLevel", "(I)Z"⟩ : MethodName) prog_6_method_3_code 2 (some .boolean) ∈ zws := List.mem_filter.mpr ⟨List.mem_of_getElem? (i := 308) (by decide +kernel), by decide +kernel⟩
theorem w_309 : Cond.methodLink R_LT 79 (⟨R_LT, "forget", "()V"⟩ : MethodName) ∈ zws := List.mem_filter.mpr ⟨List.mem_of_getElem? (i := 309) (by decide +kernel), by decide +kernel⟩
theorem w_311 : Cond.instanceMethod (⟨R_LT, "forget", "()V"⟩ : MethodName) ∈ zws := List.mem_filter.mpr ⟨List.mem_of_getElem? (i := 311) (by decide +kernel), by decide +kernel⟩
theorem w_312 : Cond.code (⟨R_LT, "forget", "()V"⟩ : MethodName) prog_1_method_22_code 1 none ∈ zws := List.mem_filter.mpr ⟨List.mem_of_getElem? (i := 312) (by decide +kernel), by decide +kernel⟩
theorem w_313 : Cond.methodLink R_LT 235 (⟨R_Curves, "removeAll", "()V"⟩ : MethodName) ∈ zws := List.mem_filter.mpr ⟨List.mem_of_getElem? (i := 313) (by decide +kernel), by decide +kernel⟩
theorem w_314 : Cond.instanceMethod (⟨R_Curves, "removeAll", "()V"⟩ : MethodName) ∈ zws := List.mem_filter.mpr ⟨List.mem_of_getElem? (i := 314) (by decide +kernel), by decide +kernel⟩
theorem w_315 : Cond.selects R_Curves (⟨R_Curves, "removeAll", "()V"⟩ : MethodName) (⟨R_Curves, "removeAll", "()V"⟩ : MethodName) ∈ zws := List.mem_filter.mpr ⟨List.mem_of_getElem? (i := 315) (by decide +kernel), by decide +kernel⟩
theorem w_316 : Cond.code (⟨R_Curves, "removeAll", "()V"⟩ : MethodName) prog_2_method_3_code 1 none ∈ zws := List.mem_filter.mpr ⟨List.mem_of_getElem? (i := 316) (by decide +kernel), by decide +kernel⟩
theorem w_317 : Cond.methodLink R_Curves 17 (⟨R_Arrays, "fill", "([II)V"⟩ : MethodName) ∈ zws := List.mem_filter.mpr ⟨List.mem_of_getElem? (i := 317) (by decide +kernel), by decide +kernel⟩
theorem w_322 : Jvm.Cond.constant R_LT 82 (1000000 : Int32) ∈ zws := List.mem_filter.mpr ⟨List.mem_of_getElem? (i := 322) (by decide +kernel), by decide +kernel⟩
theorem w_323 : Cond.methodLink R_LT 83 (⟨R_LT, "within", "(II)Z"⟩ : MethodName) ∈ zws := List.mem_filter.mpr ⟨List.mem_of_getElem? (i := 323) (by decide +kernel), by decide +kernel⟩
theorem w_324 : Cond.static (⟨R_LT, "within", "(II)Z"⟩ : MethodName) ∈ zws := List.mem_filter.mpr ⟨List.mem_of_getElem? (i := 324) (by decide +kernel), by decide +kernel⟩
theorem w_325 : Cond.code (⟨R_LT, "within", "(II)Z"⟩ : MethodName) prog_1_method_21_code 2 (some .boolean) ∈ zws := List.mem_filter.mpr ⟨List.mem_of_getElem? (i := 325) (by decide +kernel), by decide +kernel⟩
theorem w_330 : Jvm.Cond.constantLong R_LT 93 (1000000000 : Int64) ∈ zws := List.mem_filter.mpr ⟨List.mem_of_getElem? (i := 330) (by decide +kernel), by decide +kernel⟩
theorem w_331 : Cond.methodLink R_LT 99 (⟨R_Spans, "sharesStep", "(II)Z"⟩ : MethodName) ∈ zws := List.mem_filter.mpr ⟨List.mem_of_getElem? (i := 331) (by decide +kernel), by decide +kernel⟩
theorem w_332 : Cond.instanceMethod (⟨R_Spans, "sharesStep", "(II)Z"⟩ : MethodName) ∈ zws := List.mem_filter.mpr ⟨List.mem_of_getElem? (i := 332) (by decide +kernel), by decide +kernel⟩
theorem w_333 : Cond.selects R_Spans (⟨R_Spans, "sharesStep", "(II)Z"⟩ : MethodName) (⟨R_Spans, "sharesStep", "(II)Z"⟩ : MethodName) ∈ zws := List.mem_filter.mpr ⟨List.mem_of_getElem? (i := 333) (by decide +kernel), by decide +kernel⟩
theorem w_334 : Cond.code (⟨R_Spans, "sharesStep", "(II)Z"⟩ : MethodName) prog_7_method_2_code 4 (some .boolean) ∈ zws := List.mem_filter.mpr ⟨List.mem_of_getElem? (i := 334) (by decide +kernel), by decide +kernel⟩
theorem w_335 : Cond.methodLink R_LT 102 (⟨R_Spans, "append", "(IIIJ)I"⟩ : MethodName) ∈ zws := List.mem_filter.mpr ⟨List.mem_of_getElem? (i := 335) (by decide +kernel), by decide +kernel⟩
theorem w_336 : Cond.instanceMethod (⟨R_Spans, "append", "(IIIJ)I"⟩ : MethodName) ∈ zws := List.mem_filter.mpr ⟨List.mem_of_getElem? (i := 336) (by decide +kernel), by decide +kernel⟩
theorem w_337 : Cond.selects R_Spans (⟨R_Spans, "append", "(IIIJ)I"⟩ : MethodName) (⟨R_Spans, "append", "(IIIJ)I"⟩ : MethodName) ∈ zws := List.mem_filter.mpr ⟨List.mem_of_getElem? (i := 337) (by decide +kernel), by decide +kernel⟩
theorem w_338 : Cond.code (⟨R_Spans, "append", "(IIIJ)I"⟩ : MethodName) prog_7_method_3_code 6 (some .int) ∈ zws := List.mem_filter.mpr ⟨List.mem_of_getElem? (i := 338) (by decide +kernel), by decide +kernel⟩
theorem w_343 : Cond.methodLink R_LT 106 (⟨R_Spans, "takeOut", "(I)V"⟩ : MethodName) ∈ zws := List.mem_filter.mpr ⟨List.mem_of_getElem? (i := 343) (by decide +kernel), by decide +kernel⟩
theorem w_344 : Cond.instanceMethod (⟨R_Spans, "takeOut", "(I)V"⟩ : MethodName) ∈ zws := List.mem_filter.mpr ⟨List.mem_of_getElem? (i := 344) (by decide +kernel), by decide +kernel⟩
theorem w_345 : Cond.selects R_Spans (⟨R_Spans, "takeOut", "(I)V"⟩ : MethodName) (⟨R_Spans, "takeOut", "(I)V"⟩ : MethodName) ∈ zws := List.mem_filter.mpr ⟨List.mem_of_getElem? (i := 345) (by decide +kernel), by decide +kernel⟩
theorem w_346 : Cond.code (⟨R_Spans, "takeOut", "(I)V"⟩ : MethodName) prog_7_method_4_code 3 none ∈ zws := List.mem_filter.mpr ⟨List.mem_of_getElem? (i := 346) (by decide +kernel), by decide +kernel⟩
theorem w_351 : Cond.methodLink R_LT 109 (⟨R_Site, "isLevelOrNone", "(I)Z"⟩ : MethodName) ∈ zws := List.mem_filter.mpr ⟨List.mem_of_getElem? (i := 351) (by decide +kernel), by decide +kernel⟩
theorem w_352 : Cond.instanceMethod (⟨R_Site, "isLevelOrNone", "(I)Z"⟩ : MethodName) ∈ zws := List.mem_filter.mpr ⟨List.mem_of_getElem? (i := 352) (by decide +kernel), by decide +kernel⟩
theorem w_353 : Cond.selects R_Site (⟨R_Site, "isLevelOrNone", "(I)Z"⟩ : MethodName) (⟨R_Site, "isLevelOrNone", "(I)Z"⟩ : MethodName) ∈ zws := List.mem_filter.mpr ⟨List.mem_of_getElem? (i := 353) (by decide +kernel), by decide +kernel⟩
theorem w_354 : Cond.code (⟨R_Site, "isLevelOrNone", "(I)Z"⟩ : MethodName) prog_6_method_4_code 2 (some .boolean) ∈ zws := List.mem_filter.mpr ⟨List.mem_of_getElem? (i := 354) (by decide +kernel), by decide +kernel⟩
theorem w_355 : Cond.methodLink R_Site 48 (⟨R_Site, "isLevel", "(I)Z"⟩ : MethodName) ∈ zws := List.mem_filter.mpr ⟨List.mem_of_getElem? (i := 355) (by decide +kernel), by decide +kernel⟩
theorem w_364 : Cond.methodLink R_LT 124 (⟨R_Reach, "firstBarred", "()I"⟩ : MethodName) ∈ zws := List.mem_filter.mpr ⟨List.mem_of_getElem? (i := 364) (by decide +kernel), by decide +kernel⟩
theorem w_365 : Cond.instanceMethod (⟨R_Reach, "firstBarred", "()I"⟩ : MethodName) ∈ zws := List.mem_filter.mpr ⟨List.mem_of_getElem? (i := 365) (by decide +kernel), by decide +kernel⟩
theorem w_366 : Cond.selects R_Reach (⟨R_Reach, "firstBarred", "()I"⟩ : MethodName) (⟨R_Reach, "firstBarred", "()I"⟩ : MethodName) ∈ zws := List.mem_filter.mpr ⟨List.mem_of_getElem? (i := 366) (by decide +kernel), by decide +kernel⟩
theorem w_367 : Cond.code (⟨R_Reach, "firstBarred", "()I"⟩ : MethodName) prog_4_method_2_code 2 (some .int) ∈ zws := List.mem_filter.mpr ⟨List.mem_of_getElem? (i := 367) (by decide +kernel), by decide +kernel⟩
theorem w_368 : Cond.methodLink R_Reach 28 (⟨R_Reach, "start", "()Z"⟩ : MethodName) ∈ zws := List.mem_filter.mpr ⟨List.mem_of_getElem? (i := 368) (by decide +kernel), by decide +kernel⟩
theorem w_370 : Cond.instanceMethod (⟨R_Reach, "start", "()Z"⟩ : MethodName) ∈ zws := List.mem_filter.mpr ⟨List.mem_of_getElem? (i := 370) (by decide +kernel), by decide +kernel⟩
theorem w_371 : Cond.code (⟨R_Reach, "start", "()Z"⟩ : MethodName) prog_4_method_3_code 4 (some .boolean) ∈ zws := List.mem_filter.mpr ⟨List.mem_of_getElem? (i := 371) (by decide +kernel), by decide +kernel⟩
theorem w_372 : Cond.methodLink R_Reach 39 (⟨R_Site, "allows", "(II)Z"⟩ : MethodName) ∈ zws := List.mem_filter.mpr ⟨List.mem_of_getElem? (i := 372) (by decide +kernel), by decide +kernel⟩
theorem w_373 : Cond.instanceMethod (⟨R_Site, "allows", "(II)Z"⟩ : MethodName) ∈ zws := List.mem_filter.mpr ⟨List.mem_of_getElem? (i := 373) (by decide +kernel), by decide +kernel⟩
theorem w_374 : Cond.selects R_Site (⟨R_Site, "allows", "(II)Z"⟩ : MethodName) (⟨R_Site, "allows", "(II)Z"⟩ : MethodName) ∈ zws := List.mem_filter.mpr ⟨List.mem_of_getElem? (i := 374) (by decide +kernel), by decide +kernel⟩
theorem w_375 : Cond.code (⟨R_Site, "allows", "(II)Z"⟩ : MethodName) prog_6_method_6_code 4 (some .boolean) ∈ zws := List.mem_filter.mpr ⟨List.mem_of_getElem? (i := 375) (by decide +kernel), by decide +kernel⟩
theorem w_376 : Jvm.Cond.constantLong R_Reach 43 (-1 : Int64) ∈ zws := List.mem_filter.mpr ⟨List.mem_of_getElem? (i := 376) (by decide +kernel), by decide +kernel⟩
theorem w_377 : Cond.methodLink R_Reach 35 (⟨R_Reach, "advance", "(I)Z"⟩ : MethodName) ∈ zws := List.mem_filter.mpr ⟨List.mem_of_getElem? (i := 377) (by decide +kernel), by decide +kernel⟩
theorem w_379 : Cond.instanceMethod (⟨R_Reach, "advance", "(I)Z"⟩ : MethodName) ∈ zws := List.mem_filter.mpr ⟨List.mem_of_getElem? (i := 379) (by decide +kernel), by decide +kernel⟩
theorem w_380 : Cond.code (⟨R_Reach, "advance", "(I)Z"⟩ : MethodName) prog_4_method_4_code 10 (some .boolean) ∈ zws := List.mem_filter.mpr ⟨List.mem_of_getElem? (i := 380) (by decide +kernel), by decide +kernel⟩
theorem w_381 : Cond.methodLink R_Reach 45 (⟨R_Arrays, "fill", "([JJ)V"⟩ : MethodName) ∈ zws := List.mem_filter.mpr ⟨List.mem_of_getElem? (i := 381) (by decide +kernel), by decide +kernel⟩
theorem w_382 : Cond.static (⟨R_Arrays, "fill", "([JJ)V"⟩ : MethodName) ∈ zws := List.mem_filter.mpr ⟨List.mem_of_getElem? (i := 382) (by decide +kernel), by decide +kernel⟩
theorem w_383 : Cond.code (⟨R_Arrays, "fill", "([JJ)V"⟩ : MethodName) prog_14_method_101_code 5 none ∈ zws := List.mem_filter.mpr ⟨List.mem_of_getElem? (i := 383) (by decide +kernel), by decide +kernel⟩
theorem w_384 : Cond.methodLink R_Reach 51 (⟨R_Reach, "widened", "(J)J"⟩ : MethodName) ∈ zws := List.mem_filter.mpr ⟨List.mem_of_getElem? (i := 384) (by decide +kernel), by decide +kernel⟩
theorem w_386 : Cond.instanceMethod (⟨R_Reach, "widened", "(J)J"⟩ : MethodName) ∈ zws := List.mem_filter.mpr ⟨List.mem_of_getElem? (i := 386) (by decide +kernel), by decide +kernel⟩
theorem w_387 : Cond.code (⟨R_Reach, "widened", "(J)J"⟩ : MethodName) prog_4_method_6_code 6 (some .long) ∈ zws := List.mem_filter.mpr ⟨List.mem_of_getElem? (i := 387) (by decide +kernel), by decide +kernel⟩
theorem w_388 : Cond.methodLink R_Reach 55 (⟨R_Site, "highestNear", "(I)I"⟩ : MethodName) ∈ zws := List.mem_filter.mpr ⟨List.mem_of_getElem? (i := 388) (by decide +kernel), by decide +kernel⟩
theorem w_389 : Cond.instanceMethod (⟨R_Site, "highestNear", "(I)I"⟩ : MethodName) ∈ zws := List.mem_filter.mpr ⟨List.mem_of_getElem? (i := 389) (by decide +kernel), by decide +kernel⟩
theorem w_390 : Cond.selects R_Site (⟨R_Site, "highestNear", "(I)I"⟩ : MethodName) (⟨R_Site, "highestNear", "(I)I"⟩ : MethodName) ∈ zws := List.mem_filter.mpr ⟨List.mem_of_getElem? (i := 390) (by decide +kernel), by decide +kernel⟩
theorem w_391 : Cond.code (⟨R_Site, "highestNear", "(I)I"⟩ : MethodName) prog_6_method_9_code 2 (some .int) ∈ zws := List.mem_filter.mpr ⟨List.mem_of_getElem? (i := 391) (by decide +kernel), by decide +kernel⟩
theorem w_392 : Cond.methodLink R_Site 62 Lib.Math.min.name ∈ zws := List.mem_filter.mpr ⟨List.mem_of_getElem? (i := 392) (by decide +kernel), by decide +kernel⟩
theorem w_393 : Cond.methodLink R_Reach 59 (⟨R_Site, "lowestNear", "(I)I"⟩ : MethodName) ∈ zws := List.mem_filter.mpr ⟨List.mem_of_getElem? (i := 393) (by decide +kernel), by decide +kernel⟩
theorem w_394 : Cond.instanceMethod (⟨R_Site, "lowestNear", "(I)I"⟩ : MethodName) ∈ zws := List.mem_filter.mpr ⟨List.mem_of_getElem? (i := 394) (by decide +kernel), by decide +kernel⟩
theorem w_395 : Cond.selects R_Site (⟨R_Site, "lowestNear", "(I)I"⟩ : MethodName) (⟨R_Site, "lowestNear", "(I)I"⟩ : MethodName) ∈ zws := List.mem_filter.mpr ⟨List.mem_of_getElem? (i := 395) (by decide +kernel), by decide +kernel⟩
theorem w_396 : Cond.code (⟨R_Site, "lowestNear", "(I)I"⟩ : MethodName) prog_6_method_8_code 2 (some .int) ∈ zws := List.mem_filter.mpr ⟨List.mem_of_getElem? (i := 396) (by decide +kernel), by decide +kernel⟩
theorem w_397 : Cond.methodLink R_Site 58 Lib.Math.max.name ∈ zws := List.mem_filter.mpr ⟨List.mem_of_getElem? (i := 397) (by decide +kernel), by decide +kernel⟩
theorem w_398 : Cond.methodLink R_Reach 62 (⟨R_Reach, "canStep", "(III)Z"⟩ : MethodName) ∈ zws := List.mem_filter.mpr ⟨List.mem_of_getElem? (i := 398) (by decide +kernel), by decide +kernel⟩
theorem w_400 : Cond.instanceMethod (⟨R_Reach, "canStep", "(III)Z"⟩ : MethodName) ∈ zws := List.mem_filter.mpr ⟨List.mem_of_getElem? (i := 400) (by decide +kernel), by decide +kernel⟩
theorem w_401 : Cond.code (⟨R_Reach, "canStep", "(III)Z"⟩ : MethodName) prog_4_method_5_code 4 (some .boolean) ∈ zws := List.mem_filter.mpr ⟨List.mem_of_getElem? (i := 401) (by decide +kernel), by decide +kernel⟩
theorem w_402 : Cond.methodLink R_Reach 66 (⟨R_Site, "slopeFits", "(I)Z"⟩ : MethodName) ∈ zws := List.mem_filter.mpr ⟨List.mem_of_getElem? (i := 402) (by decide +kernel), by decide +kernel⟩
theorem w_403 : Cond.instanceMethod (⟨R_Site, "slopeFits", "(I)Z"⟩ : MethodName) ∈ zws := List.mem_filter.mpr ⟨List.mem_of_getElem? (i := 403) (by decide +kernel), by decide +kernel⟩
theorem w_404 : Cond.selects R_Site (⟨R_Site, "slopeFits", "(I)Z"⟩ : MethodName) (⟨R_Site, "slopeFits", "(I)Z"⟩ : MethodName) ∈ zws := List.mem_filter.mpr ⟨List.mem_of_getElem? (i := 404) (by decide +kernel), by decide +kernel⟩
theorem w_405 : Cond.code (⟨R_Site, "slopeFits", "(I)Z"⟩ : MethodName) prog_6_method_7_code 3 (some .boolean) ∈ zws := List.mem_filter.mpr ⟨List.mem_of_getElem? (i := 405) (by decide +kernel), by decide +kernel⟩
theorem w_406 : Cond.methodLink R_Site 52 Lib.Math.abs.name ∈ zws := List.mem_filter.mpr ⟨List.mem_of_getElem? (i := 406) (by decide +kernel), by decide +kernel⟩
theorem w_407 : Cond.static Lib.Math.abs.name ∈ zws := List.mem_filter.mpr ⟨List.mem_of_getElem? (i := 407) (by decide +kernel), by decide +kernel⟩
theorem w_408 : Cond.code Lib.Math.abs.name Lib.Math.abs.code 1 (some .int) ∈ zws := List.mem_filter.mpr ⟨List.mem_of_getElem? (i := 408) (by decide +kernel), by decide +kernel⟩
theorem w_409 : Cond.methodLink R_LT 128 (⟨R_LT, "bestSearch", "()LLevelTables$Search;"⟩ : MethodName) ∈ zws := List.mem_filter.mpr ⟨List.mem_of_getElem? (i := 409) (by decide +kernel), by decide +kernel⟩
theorem w_411 : Cond.instanceMethod (⟨R_LT, "bestSearch", "()LLevelTables$Search;"⟩ : MethodName) ∈ zws := List.mem_filter.mpr ⟨List.mem_of_getElem? (i := 411) (by decide +kernel), by decide +kernel⟩
theorem w_412 : Cond.code (⟨R_LT, "bestSearch", "()LLevelTables$Search;"⟩ : MethodName) prog_1_method_23_code 1 (some (.object "LevelTables$Search")) ∈ zws := List.mem_filter.mpr ⟨List.mem_of_getElem? (i := 412) (by decide +kernel), by decide +kernel⟩
theorem w_413 : Cond.classLink R_LT 133 R_Search ∈ zws := List.mem_filter.mpr ⟨List.mem_of_getElem? (i := 413) (by decide +kernel), by decide +kernel⟩
theorem w_414 : Cond.instantiable R_Search 11 ∈ zws := List.mem_filter.mpr ⟨List.mem_of_getElem? (i := 414) (by decide +kernel), by decide +kernel⟩
theorem w_415 : Cond.methodLink R_LT 167 (⟨R_Search, "<init>", "(LLevelTables$Site;LLevelTables$Spans;I)V"⟩ : MethodName) ∈ zws := List.mem_filter.mpr ⟨List.mem_of_getElem? (i := 415) (by decide +kernel), by decide +kernel⟩
theorem w_416 : Cond.instanceMethod (⟨R_Search, "<init>", "(LLevelTables$Site;LLevelTables$Spans;I)V"⟩ : MethodName) ∈ zws := List.mem_filter.mpr ⟨List.mem_of_getElem? (i := 416) (by decide +kernel), by decide +kernel⟩
theorem w_417 : Cond.code (⟨R_Search, "<init>", "(LLevelTables$Site;LLevelTables$Spans;I)V"⟩ : MethodName) prog_5_method_1_code 4 none ∈ zws := List.mem_filter.mpr ⟨List.mem_of_getElem? (i := 417) (by decide +kernel), by decide +kernel⟩
theorem w_418 : Cond.methodLink R_Search 3 Lib.objectInit ∈ zws := List.mem_filter.mpr ⟨List.mem_of_getElem? (i := 418) (by decide +kernel), by decide +kernel⟩
theorem w_419 : Jvm.Cond.constantLong R_Search 38 (1024 : Int64) ∈ zws := List.mem_filter.mpr ⟨List.mem_of_getElem? (i := 419) (by decide +kernel), by decide +kernel⟩
theorem w_420 : Cond.classLink R_Search 50 "[[J" ∈ zws := List.mem_filter.mpr ⟨List.mem_of_getElem? (i := 420) (by decide +kernel), by decide +kernel⟩
theorem w_422 : Cond.fieldLink R_Search 15 R_Search "site" "LLevelTables$Site;" ∈ zws := List.mem_filter.mpr ⟨List.mem_of_getElem? (i := 422) (by decide +kernel), by decide +kernel⟩
theorem w_423 : Cond.fieldLink R_Search 19 R_Search "spans" "LLevelTables$Spans;" ∈ zws := List.mem_filter.mpr ⟨List.mem_of_getElem? (i := 423) (by decide +kernel), by decide +kernel⟩
theorem w_424 : Cond.fieldLink R_Search 31 R_Search "width" "I" ∈ zws := List.mem_filter.mpr ⟨List.mem_of_getElem? (i := 424) (by decide +kernel), by decide +kernel⟩
theorem w_425 : Cond.fieldLink R_Search 23 R_Search "ways" "I" ∈ zws := List.mem_filter.mpr ⟨List.mem_of_getElem? (i := 425) (by decide +kernel), by decide +kernel⟩
theorem w_426 : Cond.fieldLink R_Search 34 R_Search "traced" "Z" ∈ zws := List.mem_filter.mpr ⟨List.mem_of_getElem? (i := 426) (by decide +kernel), by decide +kernel⟩
theorem w_427 : Cond.fieldLink R_Search 40 R_Search "costUnit" "J" ∈ zws := List.mem_filter.mpr ⟨List.mem_of_getElem? (i := 427) (by decide +kernel), by decide +kernel⟩
theorem w_428 : Cond.fieldLink R_Search 44 R_Search "sizeUnit" "J" ∈ zws := List.mem_filter.mpr ⟨List.mem_of_getElem? (i := 428) (by decide +kernel), by decide +kernel⟩
theorem w_429 : Cond.fieldLink R_Search 52 R_Search "layers" "[[J" ∈ zws := List.mem_filter.mpr ⟨List.mem_of_getElem? (i := 429) (by decide +kernel), by decide +kernel⟩
theorem w_430 : Cond.fieldLink R_Search 55 R_Search "leaving" "[J" ∈ zws := List.mem_filter.mpr ⟨List.mem_of_getElem? (i := 430) (by decide +kernel), by decide +kernel⟩
theorem w_431 : Cond.fieldLink R_Search 59 R_Search "least" "[J" ∈ zws := List.mem_filter.mpr ⟨List.mem_of_getElem? (i := 431) (by decide +kernel), by decide +kernel⟩
theorem w_432 : Cond.fieldLink R_Search 9 R_Search "startLevel" "I" ∈ zws := List.mem_filter.mpr ⟨List.mem_of_getElem? (i := 432) (by decide +kernel), by decide +kernel⟩
theorem w_456 : Cond.methodLink R_LT 132 (⟨R_Search, "fillLayers", "()V"⟩ : MethodName) ∈ zws := List.mem_filter.mpr ⟨List.mem_of_getElem? (i := 456) (by decide +kernel), by decide +kernel⟩
theorem w_457 : Cond.instanceMethod (⟨R_Search, "fillLayers", "()V"⟩ : MethodName) ∈ zws := List.mem_filter.mpr ⟨List.mem_of_getElem? (i := 457) (by decide +kernel), by decide +kernel⟩
theorem w_458 : Cond.selects R_Search (⟨R_Search, "fillLayers", "()V"⟩ : MethodName) (⟨R_Search, "fillLayers", "()V"⟩ : MethodName) ∈ zws := List.mem_filter.mpr ⟨List.mem_of_getElem? (i := 458) (by decide +kernel), by decide +kernel⟩
theorem w_459 : Cond.code (⟨R_Search, "fillLayers", "()V"⟩ : MethodName) prog_5_method_2_code 2 none ∈ zws := List.mem_filter.mpr ⟨List.mem_of_getElem? (i := 459) (by decide +kernel), by decide +kernel⟩
theorem w_460 : Cond.methodLink R_Search 62 (⟨R_Search, "fillLayer", "(I)V"⟩ : MethodName) ∈ zws := List.mem_filter.mpr ⟨List.mem_of_getElem? (i := 460) (by decide +kernel), by decide +kernel⟩
theorem w_462 : Cond.instanceMethod (⟨R_Search, "fillLayer", "(I)V"⟩ : MethodName) ∈ zws := List.mem_filter.mpr ⟨List.mem_of_getElem? (i := 462) (by decide +kernel), by decide +kernel⟩
theorem w_463 : Cond.code (⟨R_Search, "fillLayer", "(I)V"⟩ : MethodName) prog_5_method_8_code 4 none ∈ zws := List.mem_filter.mpr ⟨List.mem_of_getElem? (i := 463) (by decide +kernel), by decide +kernel⟩
theorem w_464 : Cond.methodLink R_Search 82 (⟨R_Search, "slotOf", "(I)I"⟩ : MethodName) ∈ zws := List.mem_filter.mpr ⟨List.mem_of_getElem? (i := 464) (by decide +kernel), by decide +kernel⟩
theorem w_466 : Cond.instanceMethod (⟨R_Search, "slotOf", "(I)I"⟩ : MethodName) ∈ zws := List.mem_filter.mpr ⟨List.mem_of_getElem? (i := 466) (by decide +kernel), by decide +kernel⟩
theorem w_467 : Cond.code (⟨R_Search, "slotOf", "(I)I"⟩ : MethodName) prog_5_method_4_code 2 (some .int) ∈ zws := List.mem_filter.mpr ⟨List.mem_of_getElem? (i := 467) (by decide +kernel), by decide +kernel⟩
theorem w_468 : Jvm.Cond.constantLong R_Search 78 (1152921504606846976 : Int64) ∈ zws := List.mem_filter.mpr ⟨List.mem_of_getElem? (i := 468) (by decide +kernel), by decide +kernel⟩
theorem w_469 : Cond.methodLink R_Search 92 (⟨R_Arrays, "fill", "([JJ)V"⟩ : MethodName) ∈ zws := List.mem_filter.mpr ⟨List.mem_of_getElem? (i := 469) (by decide +kernel), by decide +kernel⟩
theorem w_470 : Cond.methodLink R_Search 98 (⟨R_Site, "allows", "(II)Z"⟩ : MethodName) ∈ zws := List.mem_filter.mpr ⟨List.mem_of_getElem? (i := 470) (by decide +kernel), by decide +kernel⟩
theorem w_471 : Cond.methodLink R_Search 102 (⟨R_Search, "fillLast", "([JI)V"⟩ : MethodName) ∈ zws := List.mem_filter.mpr ⟨List.mem_of_getElem? (i := 471) (by decide +kernel), by decide +kernel⟩
theorem w_473 : Cond.instanceMethod (⟨R_Search, "fillLast", "([JI)V"⟩ : MethodName) ∈ zws := List.mem_filter.mpr ⟨List.mem_of_getElem? (i := 473) (by decide +kernel), by decide +kernel⟩
theorem w_474 : Cond.code (⟨R_Search, "fillLast", "([JI)V"⟩ : MethodName) prog_5_method_9_code 7 none ∈ zws := List.mem_filter.mpr ⟨List.mem_of_getElem? (i := 474) (by decide +kernel), by decide +kernel⟩
theorem w_475 : Cond.methodLink R_Search 113 (⟨R_Search, "earthValue", "(II)J"⟩ : MethodName) ∈ zws := List.mem_filter.mpr ⟨List.mem_of_getElem? (i := 475) (by decide +kernel), by decide +kernel⟩
theorem w_477 : Cond.instanceMethod (⟨R_Search, "earthValue", "(II)J"⟩ : MethodName) ∈ zws := List.mem_filter.mpr ⟨List.mem_of_getElem? (i := 477) (by decide +kernel), by decide +kernel⟩
theorem w_478 : Cond.code (⟨R_Search, "earthValue", "(II)J"⟩ : MethodName) prog_5_method_14_code 3 (some .long) ∈ zws := List.mem_filter.mpr ⟨List.mem_of_getElem? (i := 478) (by decide +kernel), by decide +kernel⟩
theorem w_479 : Cond.methodLink R_Search 159 (⟨R_Site, "earthCents", "(II)J"⟩ : MethodName) ∈ zws := List.mem_filter.mpr ⟨List.mem_of_getElem? (i := 479) (by decide +kernel), by decide +kernel⟩
theorem w_480 : Cond.instanceMethod (⟨R_Site, "earthCents", "(II)J"⟩ : MethodName) ∈ zws := List.mem_filter.mpr ⟨List.mem_of_getElem? (i := 480) (by decide +kernel), by decide +kernel⟩
theorem w_481 : Cond.selects R_Site (⟨R_Site, "earthCents", "(II)J"⟩ : MethodName) (⟨R_Site, "earthCents", "(II)J"⟩ : MethodName) ∈ zws := List.mem_filter.mpr ⟨List.mem_of_getElem? (i := 481) (by decide +kernel), by decide +kernel⟩
theorem w_482 : Cond.code (⟨R_Site, "earthCents", "(II)J"⟩ : MethodName) prog_6_method_11_code 4 (some .long) ∈ zws := List.mem_filter.mpr ⟨List.mem_of_getElem? (i := 482) (by decide +kernel), by decide +kernel⟩
theorem w_483 : Cond.methodLink R_Search 117 (⟨R_Site, "highestNear", "(I)I"⟩ : MethodName) ∈ zws := List.mem_filter.mpr ⟨List.mem_of_getElem? (i := 483) (by decide +kernel), by decide +kernel⟩
theorem w_484 : Cond.methodLink R_Search 120 (⟨R_Site, "lowestNear", "(I)I"⟩ : MethodName) ∈ zws := List.mem_filter.mpr ⟨List.mem_of_getElem? (i := 484) (by decide +kernel), by decide +kernel⟩
theorem w_485 : Cond.methodLink R_Search 123 (⟨R_Site, "slopeFits", "(I)Z"⟩ : MethodName) ∈ zws := List.mem_filter.mpr ⟨List.mem_of_getElem? (i := 485) (by decide +kernel), by decide +kernel⟩
theorem w_486 : Cond.methodLink R_Search 126 (⟨R_Search, "indexOf", "(II)I"⟩ : MethodName) ∈ zws := List.mem_filter.mpr ⟨List.mem_of_getElem? (i := 486) (by decide +kernel), by decide +kernel⟩
theorem w_488 : Cond.instanceMethod (⟨R_Search, "indexOf", "(II)I"⟩ : MethodName) ∈ zws := List.mem_filter.mpr ⟨List.mem_of_getElem? (i := 488) (by decide +kernel), by decide +kernel⟩
theorem w_489 : Cond.code (⟨R_Search, "indexOf", "(II)I"⟩ : MethodName) prog_5_method_7_code 3 (some .int) ∈ zws := List.mem_filter.mpr ⟨List.mem_of_getElem? (i := 489) (by decide +kernel), by decide +kernel⟩
theorem w_490 : Cond.methodLink R_Search 106 (⟨R_Search, "fillLeaving", "(II)V"⟩ : MethodName) ∈ zws := List.mem_filter.mpr ⟨List.mem_of_getElem? (i := 490) (by decide +kernel), by decide +kernel⟩
theorem w_492 : Cond.instanceMethod (⟨R_Search, "fillLeaving", "(II)V"⟩ : MethodName) ∈ zws := List.mem_filter.mpr ⟨List.mem_of_getElem? (i := 492) (by decide +kernel), by decide +kernel⟩
theorem w_493 : Cond.code (⟨R_Search, "fillLeaving", "(II)V"⟩ : MethodName) prog_5_method_13_code 6 none ∈ zws := List.mem_filter.mpr ⟨List.mem_of_getElem? (i := 493) (by decide +kernel), by decide +kernel⟩
theorem w_494 : Cond.methodLink R_Search 149 (⟨R_Spans, "startingAt", "(I)I"⟩ : MethodName) ∈ zws := List.mem_filter.mpr ⟨List.mem_of_getElem? (i := 494) (by decide +kernel), by decide +kernel⟩
theorem w_495 : Cond.instanceMethod (⟨R_Spans, "startingAt", "(I)I"⟩ : MethodName) ∈ zws := List.mem_filter.mpr ⟨List.mem_of_getElem? (i := 495) (by decide +kernel), by decide +kernel⟩
theorem w_496 : Cond.selects R_Spans (⟨R_Spans, "startingAt", "(I)I"⟩ : MethodName) (⟨R_Spans, "startingAt", "(I)I"⟩ : MethodName) ∈ zws := List.mem_filter.mpr ⟨List.mem_of_getElem? (i := 496) (by decide +kernel), by decide +kernel⟩
theorem w_497 : Cond.code (⟨R_Spans, "startingAt", "(I)I"⟩ : MethodName) prog_7_method_5_code 3 (some .int) ∈ zws := List.mem_filter.mpr ⟨List.mem_of_getElem? (i := 497) (by decide +kernel), by decide +kernel⟩
theorem w_498 : Cond.methodLink R_Search 152 (⟨R_Search, "addStep", "(III)V"⟩ : MethodName) ∈ zws := List.mem_filter.mpr ⟨List.mem_of_getElem? (i := 498) (by decide +kernel), by decide +kernel⟩
theorem w_500 : Cond.instanceMethod (⟨R_Search, "addStep", "(III)V"⟩ : MethodName) ∈ zws := List.mem_filter.mpr ⟨List.mem_of_getElem? (i := 500) (by decide +kernel), by decide +kernel⟩
theorem w_501 : Cond.code (⟨R_Search, "addStep", "(III)V"⟩ : MethodName) prog_5_method_15_code 6 none ∈ zws := List.mem_filter.mpr ⟨List.mem_of_getElem? (i := 501) (by decide +kernel), by decide +kernel⟩
theorem w_502 : Cond.methodLink R_Search 162 Lib.Math.abs.name ∈ zws := List.mem_filter.mpr ⟨List.mem_of_getElem? (i := 502) (by decide +kernel), by decide +kernel⟩
theorem w_503 : Cond.methodLink R_Search 145 (⟨R_Search, "merge", "([JI[JIJ)V"⟩ : MethodName) ∈ zws := List.mem_filter.mpr ⟨List.mem_of_getElem? (i := 503) (by decide +kernel), by decide +kernel⟩
theorem w_505 : Cond.instanceMethod (⟨R_Search, "merge", "([JI[JIJ)V"⟩ : MethodName) ∈ zws := List.mem_filter.mpr ⟨List.mem_of_getElem? (i := 505) (by decide +kernel), by decide +kernel⟩
theorem w_506 : Cond.code (⟨R_Search, "merge", "([JI[JIJ)V"⟩ : MethodName) prog_5_method_17_code 10 none ∈ zws := List.mem_filter.mpr ⟨List.mem_of_getElem? (i := 506) (by decide +kernel), by decide +kernel⟩
theorem w_507 : Cond.methodLink R_Search 185 (⟨R_Search, "insert", "([JIJ)V"⟩ : MethodName) ∈ zws := List.mem_filter.mpr ⟨List.mem_of_getElem? (i := 507) (by decide +kernel), by decide +kernel⟩
theorem w_509 : Cond.instanceMethod (⟨R_Search, "insert", "([JIJ)V"⟩ : MethodName) ∈ zws := List.mem_filter.mpr ⟨List.mem_of_getElem? (i := 509) (by decide +kernel), by decide +kernel⟩
theorem w_510 : Cond.code (⟨R_Search, "insert", "([JIJ)V"⟩ : MethodName) prog_5_method_18_code 8 none ∈ zws := List.mem_filter.mpr ⟨List.mem_of_getElem? (i := 510) (by decide +kernel), by decide +kernel⟩
theorem w_511 : Cond.methodLink R_Search 156 (⟨R_Search, "addSpan", "(III)V"⟩ : MethodName) ∈ zws := List.mem_filter.mpr ⟨List.mem_of_getElem? (i := 511) (by decide +kernel), by decide +kernel⟩
theorem w_513 : Cond.instanceMethod (⟨R_Search, "addSpan", "(III)V"⟩ : MethodName) ∈ zws := List.mem_filter.mpr ⟨List.mem_of_getElem? (i := 513) (by decide +kernel), by decide +kernel⟩
theorem w_514 : Cond.code (⟨R_Search, "addSpan", "(III)V"⟩ : MethodName) prog_5_method_16_code 10 none ∈ zws := List.mem_filter.mpr ⟨List.mem_of_getElem? (i := 514) (by decide +kernel), by decide +kernel⟩
theorem w_515 : Cond.methodLink R_Search 172 (⟨R_Site, "isLevel", "(I)Z"⟩ : MethodName) ∈ zws := List.mem_filter.mpr ⟨List.mem_of_getElem? (i := 515) (by decide +kernel), by decide +kernel⟩
theorem w_516 : Cond.methodLink R_Search 175 (⟨R_Spans, "suits", "(LLevelTables$Site;III)Z"⟩ : MethodName) ∈ zws := List.mem_filter.mpr ⟨List.mem_of_getElem? (i := 516) (by decide +kernel), by decide +kernel⟩
theorem w_517 : Cond.instanceMethod (⟨R_Spans, "suits", "(LLevelTables$Site;III)Z"⟩ : MethodName) ∈ zws := List.mem_filter.mpr ⟨List.mem_of_getElem? (i := 517) (by decide +kernel), by decide +kernel⟩
theorem w_518 : Cond.selects R_Spans (⟨R_Spans, "suits", "(LLevelTables$Site;III)Z"⟩ : MethodName) (⟨R_Spans, "suits", "(LLevelTables$Site;III)Z"⟩ : MethodName) ∈ zws := List.mem_filter.mpr ⟨List.mem_of_getElem? (i := 518) (by decide +kernel), by decide +kernel⟩
theorem w_519 : Cond.code (⟨R_Spans, "suits", "(LLevelTables$Site;III)Z"⟩ : MethodName) prog_7_method_7_code 9 (some .boolean) ∈ zws := List.mem_filter.mpr ⟨List.mem_of_getElem? (i := 519) (by decide +kernel), by decide +kernel⟩
theorem w_520 : Cond.methodLink R_Spans 34 (⟨R_Site, "allows", "(II)Z"⟩ : MethodName) ∈ zws := List.mem_filter.mpr ⟨List.mem_of_getElem? (i := 520) (by decide +kernel), by decide +kernel⟩
theorem w_521 : Cond.methodLink R_Search 182 (⟨R_Search, "slotOfEnd", "(I)I"⟩ : MethodName) ∈ zws := List.mem_filter.mpr ⟨List.mem_of_getElem? (i := 521) (by decide +kernel), by decide +kernel⟩
theorem w_523 : Cond.instanceMethod (⟨R_Search, "slotOfEnd", "(I)I"⟩ : MethodName) ∈ zws := List.mem_filter.mpr ⟨List.mem_of_getElem? (i := 523) (by decide +kernel), by decide +kernel⟩
theorem w_524 : Cond.code (⟨R_Search, "slotOfEnd", "(I)I"⟩ : MethodName) prog_5_method_5_code 2 (some .int) ∈ zws := List.mem_filter.mpr ⟨List.mem_of_getElem? (i := 524) (by decide +kernel), by decide +kernel⟩
theorem w_525 : Cond.methodLink R_Search 110 (⟨R_Search, "fillStates", "([JI)V"⟩ : MethodName) ∈ zws := List.mem_filter.mpr ⟨List.mem_of_getElem? (i := 525) (by decide +kernel), by decide +kernel⟩
theorem w_527 : Cond.instanceMethod (⟨R_Search, "fillStates", "([JI)V"⟩ : MethodName) ∈ zws := List.mem_filter.mpr ⟨List.mem_of_getElem? (i := 527) (by decide +kernel), by decide +kernel⟩
theorem w_528 : Cond.code (⟨R_Search, "fillStates", "([JI)V"⟩ : MethodName) prog_5_method_10_code 13 none ∈ zws := List.mem_filter.mpr ⟨List.mem_of_getElem? (i := 528) (by decide +kernel), by decide +kernel⟩
theorem w_529 : Cond.methodLink R_Search 133 Lib.Math.max.name ∈ zws := List.mem_filter.mpr ⟨List.mem_of_getElem? (i := 529) (by decide +kernel), by decide +kernel⟩
theorem w_530 : Cond.methodLink R_Search 138 Lib.Math.min.name ∈ zws := List.mem_filter.mpr ⟨List.mem_of_getElem? (i := 530) (by decide +kernel), by decide +kernel⟩
theorem w_531 : Cond.methodLink R_Search 86 arraycopyName ∈ zws := List.mem_filter.mpr ⟨List.mem_of_getElem? (i := 531) (by decide +kernel), by decide +kernel⟩
theorem w_532 : Cond.static arraycopyName ∈ zws := List.mem_filter.mpr ⟨List.mem_of_getElem? (i := 532) (by decide +kernel), by decide +kernel⟩
theorem w_533 : Cond.native arraycopyName ∈ zws := List.mem_filter.mpr ⟨List.mem_of_getElem? (i := 533) (by decide +kernel), by decide +kernel⟩
theorem w_534 : Cond.methodLink R_Search 141 (⟨R_Search, "gather", "([JIII)V"⟩ : MethodName) ∈ zws := List.mem_filter.mpr ⟨List.mem_of_getElem? (i := 534) (by decide +kernel), by decide +kernel⟩
theorem w_536 : Cond.instanceMethod (⟨R_Search, "gather", "([JIII)V"⟩ : MethodName) ∈ zws := List.mem_filter.mpr ⟨List.mem_of_getElem? (i := 536) (by decide +kernel), by decide +kernel⟩
theorem w_537 : Cond.code (⟨R_Search, "gather", "([JIII)V"⟩ : MethodName) prog_5_method_11_code 6 none ∈ zws := List.mem_filter.mpr ⟨List.mem_of_getElem? (i := 537) (by decide +kernel), by decide +kernel⟩
theorem w_538 : Cond.methodLink R_Search 66 (⟨R_Spans, "anyEndsAt", "(I)Z"⟩ : MethodName) ∈ zws := List.mem_filter.mpr ⟨List.mem_of_getElem? (i := 538) (by decide +kernel), by decide +kernel⟩
theorem w_539 : Cond.instanceMethod (⟨R_Spans, "anyEndsAt", "(I)Z"⟩ : MethodName) ∈ zws := List.mem_filter.mpr ⟨List.mem_of_getElem? (i := 539) (by decide +kernel), by decide +kernel⟩
theorem w_540 : Cond.selects R_Spans (⟨R_Spans, "anyEndsAt", "(I)Z"⟩ : MethodName) (⟨R_Spans, "anyEndsAt", "(I)Z"⟩ : MethodName) ∈ zws := List.mem_filter.mpr ⟨List.mem_of_getElem? (i := 540) (by decide +kernel), by decide +kernel⟩
theorem w_541 : Cond.code (⟨R_Spans, "anyEndsAt", "(I)Z"⟩ : MethodName) prog_7_method_6_code 3 (some .boolean) ∈ zws := List.mem_filter.mpr ⟨List.mem_of_getElem? (i := 541) (by decide +kernel), by decide +kernel⟩
theorem w_542 : Cond.methodLink R_Search 72 (⟨R_Search, "keepLayer", "(I)V"⟩ : MethodName) ∈ zws := List.mem_filter.mpr ⟨List.mem_of_getElem? (i := 542) (by decide +kernel), by decide +kernel⟩
theorem w_544 : Cond.instanceMethod (⟨R_Search, "keepLayer", "(I)V"⟩ : MethodName) ∈ zws := List.mem_filter.mpr ⟨List.mem_of_getElem? (i := 544) (by decide +kernel), by decide +kernel⟩
theorem w_545 : Cond.code (⟨R_Search, "keepLayer", "(I)V"⟩ : MethodName) prog_5_method_6_code 3 none ∈ zws := List.mem_filter.mpr ⟨List.mem_of_getElem? (i := 545) (by decide +kernel), by decide +kernel⟩
theorem w_546 : Cond.methodLink R_Search 75 (⟨R_Search, "fillLeast", "()V"⟩ : MethodName) ∈ zws := List.mem_filter.mpr ⟨List.mem_of_getElem? (i := 546) (by decide +kernel), by decide +kernel⟩
theorem w_548 : Cond.instanceMethod (⟨R_Search, "fillLeast", "()V"⟩ : MethodName) ∈ zws := List.mem_filter.mpr ⟨List.mem_of_getElem? (i := 548) (by decide +kernel), by decide +kernel⟩
theorem w_549 : Cond.code (⟨R_Search, "fillLeast", "()V"⟩ : MethodName) prog_5_method_12_code 4 none ∈ zws := List.mem_filter.mpr ⟨List.mem_of_getElem? (i := 549) (by decide +kernel), by decide +kernel⟩
theorem w_550 : Cond.methodLink R_LT 137 (⟨R_Search, "trace", "(LLevelTables$Table;)V"⟩ : MethodName) ∈ zws := List.mem_filter.mpr ⟨List.mem_of_getElem? (i := 550) (by decide +kernel), by decide +kernel⟩
theorem w_551 : Cond.instanceMethod (⟨R_Search, "trace", "(LLevelTables$Table;)V"⟩ : MethodName) ∈ zws := List.mem_filter.mpr ⟨List.mem_of_getElem? (i := 551) (by decide +kernel), by decide +kernel⟩
theorem w_552 : Cond.selects R_Search (⟨R_Search, "trace", "(LLevelTables$Table;)V"⟩ : MethodName) (⟨R_Search, "trace", "(LLevelTables$Table;)V"⟩ : MethodName) ∈ zws := List.mem_filter.mpr ⟨List.mem_of_getElem? (i := 552) (by decide +kernel), by decide +kernel⟩
theorem w_553 : Cond.code (⟨R_Search, "trace", "(LLevelTables$Table;)V"⟩ : MethodName) prog_5_method_19_code 4 none ∈ zws := List.mem_filter.mpr ⟨List.mem_of_getElem? (i := 553) (by decide +kernel), by decide +kernel⟩
theorem w_554 : Cond.methodLink R_Search 202 (⟨R_Search, "traceFrom", "(LLevelTables$Table;I)I"⟩ : MethodName) ∈ zws := List.mem_filter.mpr ⟨List.mem_of_getElem? (i := 554) (by decide +kernel), by decide +kernel⟩
theorem w_556 : Cond.instanceMethod (⟨R_Search, "traceFrom", "(LLevelTables$Table;I)I"⟩ : MethodName) ∈ zws := List.mem_filter.mpr ⟨List.mem_of_getElem? (i := 556) (by decide +kernel), by decide +kernel⟩
theorem w_557 : Cond.code (⟨R_Search, "traceFrom", "(LLevelTables$Table;I)I"⟩ : MethodName) prog_5_method_20_code 9 (some .int) ∈ zws := List.mem_filter.mpr ⟨List.mem_of_getElem? (i := 557) (by decide +kernel), by decide +kernel⟩
theorem w_558 : Cond.methodLink R_Search 206 (⟨R_Search, "wantedAt", "(LLevelTables$Table;I)J"⟩ : MethodName) ∈ zws := List.mem_filter.mpr ⟨List.mem_of_getElem? (i := 558) (by decide +kernel), by decide +kernel⟩
theorem w_560 : Cond.instanceMethod (⟨R_Search, "wantedAt", "(LLevelTables$Table;I)J"⟩ : MethodName) ∈ zws := List.mem_filter.mpr ⟨List.mem_of_getElem? (i := 560) (by decide +kernel), by decide +kernel⟩
theorem w_561 : Cond.code (⟨R_Search, "wantedAt", "(LLevelTables$Table;I)J"⟩ : MethodName) prog_5_method_21_code 3 (some .long) ∈ zws := List.mem_filter.mpr ⟨List.mem_of_getElem? (i := 561) (by decide +kernel), by decide +kernel⟩
theorem w_562 : Cond.methodLink R_Search 210 (⟨R_Search, "mayFollow", "(LLevelTables$Table;II)Z"⟩ : MethodName) ∈ zws := List.mem_filter.mpr ⟨List.mem_of_getElem? (i := 562) (by decide +kernel), by decide +kernel⟩
theorem w_564 : Cond.instanceMethod (⟨R_Search, "mayFollow", "(LLevelTables$Table;II)Z"⟩ : MethodName) ∈ zws := List.mem_filter.mpr ⟨List.mem_of_getElem? (i := 564) (by decide +kernel), by decide +kernel⟩
theorem w_565 : Cond.code (⟨R_Search, "mayFollow", "(LLevelTables$Table;II)Z"⟩ : MethodName) prog_5_method_22_code 5 (some .boolean) ∈ zws := List.mem_filter.mpr ⟨List.mem_of_getElem? (i := 565) (by decide +kernel), by decide +kernel⟩
theorem w_566 : Cond.methodLink R_Search 218 (⟨R_Table, "slopeOf", "(I)I"⟩ : MethodName) ∈ zws := List.mem_filter.mpr ⟨List.mem_of_getElem? (i := 566) (by decide +kernel), by decide +kernel⟩
theorem w_567 : Cond.instanceMethod (⟨R_Table, "slopeOf", "(I)I"⟩ : MethodName) ∈ zws := List.mem_filter.mpr ⟨List.mem_of_getElem? (i := 567) (by decide +kernel), by decide +kernel⟩
theorem w_568 : Cond.selects R_Table (⟨R_Table, "slopeOf", "(I)I"⟩ : MethodName) (⟨R_Table, "slopeOf", "(I)I"⟩ : MethodName) ∈ zws := List.mem_filter.mpr ⟨List.mem_of_getElem? (i := 568) (by decide +kernel), by decide +kernel⟩
theorem w_569 : Cond.code (⟨R_Table, "slopeOf", "(I)I"⟩ : MethodName) prog_8_method_2_code 2 (some .int) ∈ zws := List.mem_filter.mpr ⟨List.mem_of_getElem? (i := 569) (by decide +kernel), by decide +kernel⟩
theorem w_570 : Cond.methodLink R_Search 221 (⟨R_Site, "changeFits", "(II)Z"⟩ : MethodName) ∈ zws := List.mem_filter.mpr ⟨List.mem_of_getElem? (i := 570) (by decide +kernel), by decide +kernel⟩
theorem w_571 : Cond.instanceMethod (⟨R_Site, "changeFits", "(II)Z"⟩ : MethodName) ∈ zws := List.mem_filter.mpr ⟨List.mem_of_getElem? (i := 571) (by decide +kernel), by decide +kernel⟩
theorem w_572 : Cond.selects R_Site (⟨R_Site, "changeFits", "(II)Z"⟩ : MethodName) (⟨R_Site, "changeFits", "(II)Z"⟩ : MethodName) ∈ zws := List.mem_filter.mpr ⟨List.mem_of_getElem? (i := 572) (by decide +kernel), by decide +kernel⟩
theorem w_573 : Cond.code (⟨R_Site, "changeFits", "(II)Z"⟩ : MethodName) prog_6_method_10_code 3 (some .boolean) ∈ zws := List.mem_filter.mpr ⟨List.mem_of_getElem? (i := 573) (by decide +kernel), by decide +kernel⟩
theorem w_574 : Cond.methodLink R_Search 214 (⟨R_Search, "lay", "(LLevelTables$Table;IIII)I"⟩ : MethodName) ∈ zws := List.mem_filter.mpr ⟨List.mem_of_getElem? (i := 574) (by decide +kernel), by decide +kernel⟩
theorem w_576 : Cond.instanceMethod (⟨R_Search, "lay", "(LLevelTables$Table;IIII)I"⟩ : MethodName) ∈ zws := List.mem_filter.mpr ⟨List.mem_of_getElem? (i := 576) (by decide +kernel), by decide +kernel⟩
theorem w_577 : Cond.code (⟨R_Search, "lay", "(LLevelTables$Table;IIII)I"⟩ : MethodName) prog_5_method_23_code 7 (some .int) ∈ zws := List.mem_filter.mpr ⟨List.mem_of_getElem? (i := 577) (by decide +kernel), by decide +kernel⟩
theorem w_578 : Cond.methodLink R_LT 144 (⟨R_Integer, "bitCount", "(I)I"⟩ : MethodName) ∈ zws := List.mem_filter.mpr ⟨List.mem_of_getElem? (i := 578) (by decide +kernel), by decide +kernel⟩
theorem w_579 : Cond.static (⟨R_Integer, "bitCount", "(I)I"⟩ : MethodName) ∈ zws := List.mem_filter.mpr ⟨List.mem_of_getElem? (i := 579) (by decide +kernel), by decide +kernel⟩
theorem w_580 : Cond.code (⟨R_Integer, "bitCount", "(I)I"⟩ : MethodName) prog_11_method_49_code 1 (some .int) ∈ zws := List.mem_filter.mpr ⟨List.mem_of_getElem? (i := 580) (by decide +kernel), by decide +kernel⟩
theorem w_592 : Jvm.Cond.constantLong R_LT 161 (-1 : Int64) ∈ zws := List.mem_filter.mpr ⟨List.mem_of_getElem? (i := 592) (by decide +kernel), by decide +kernel⟩
theorem w_597 : Cond.methodLink R_LT 173 (⟨R_Search, "leastOrNone", "(I)J"⟩ : MethodName) ∈ zws := List.mem_filter.mpr ⟨List.mem_of_getElem? (i := 597) (by decide +kernel), by decide +kernel⟩
theorem w_598 : Cond.instanceMethod (⟨R_Search, "leastOrNone", "(I)J"⟩ : MethodName) ∈ zws := List.mem_filter.mpr ⟨List.mem_of_getElem? (i := 598) (by decide +kernel), by decide +kernel⟩
theorem w_599 : Cond.selects R_Search (⟨R_Search, "leastOrNone", "(I)J"⟩ : MethodName) (⟨R_Search, "leastOrNone", "(I)J"⟩ : MethodName) ∈ zws := List.mem_filter.mpr ⟨List.mem_of_getElem? (i := 599) (by decide +kernel), by decide +kernel⟩
theorem w_600 : Cond.code (⟨R_Search, "leastOrNone", "(I)J"⟩ : MethodName) prog_5_method_3_code 2 (some .long) ∈ zws := List.mem_filter.mpr ⟨List.mem_of_getElem? (i := 600) (by decide +kernel), by decide +kernel⟩
theorem w_601 : Jvm.Cond.constantLong R_Search 80 (-1 : Int64) ∈ zws := List.mem_filter.mpr ⟨List.mem_of_getElem? (i := 601) (by decide +kernel), by decide +kernel⟩
theorem w_614 : Cond.methodLink R_LT 186 (⟨R_LT, "curveRefusal", "(II)I"⟩ : MethodName) ∈ zws := List.mem_filter.mpr ⟨List.mem_of_getElem? (i := 614) (by decide +kernel), by decide +kernel⟩
theorem w_616 : Cond.instanceMethod (⟨R_LT, "curveRefusal", "(II)I"⟩ : MethodName) ∈ zws := List.mem_filter.mpr ⟨List.mem_of_getElem? (i := 616) (by decide +kernel), by decide +kernel⟩
theorem w_617 : Cond.code (⟨R_LT, "curveRefusal", "(II)I"⟩ : MethodName) prog_1_method_24_code 4 (some .int) ∈ zws := List.mem_filter.mpr ⟨List.mem_of_getElem? (i := 617) (by decide +kernel), by decide +kernel⟩
theorem w_618 : Cond.methodLink R_LT 196 (⟨R_Table, "slopeOf", "(I)I"⟩ : MethodName) ∈ zws := List.mem_filter.mpr ⟨List.mem_of_getElem? (i := 618) (by decide +kernel), by decide +kernel⟩
theorem w_619 : Cond.methodLink R_LT 244 Lib.Math.abs.name ∈ zws := List.mem_filter.mpr ⟨List.mem_of_getElem? (i := 619) (by decide +kernel), by decide +kernel⟩
theorem w_620 : Cond.methodLink R_LT 247 (⟨R_Site, "isHeld", "(I)Z"⟩ : MethodName) ∈ zws := List.mem_filter.mpr ⟨List.mem_of_getElem? (i := 620) (by decide +kernel), by decide +kernel⟩
theorem w_621 : Cond.instanceMethod (⟨R_Site, "isHeld", "(I)Z"⟩ : MethodName) ∈ zws := List.mem_filter.mpr ⟨List.mem_of_getElem? (i := 621) (by decide +kernel), by decide +kernel⟩
theorem w_622 : Cond.selects R_Site (⟨R_Site, "isHeld", "(I)Z"⟩ : MethodName) (⟨R_Site, "isHeld", "(I)Z"⟩ : MethodName) ∈ zws := List.mem_filter.mpr ⟨List.mem_of_getElem? (i := 622) (by decide +kernel), by decide +kernel⟩
theorem w_623 : Cond.code (⟨R_Site, "isHeld", "(I)Z"⟩ : MethodName) prog_6_method_5_code 2 (some .boolean) ∈ zws := List.mem_filter.mpr ⟨List.mem_of_getElem? (i := 623) (by decide +kernel), by decide +kernel⟩
theorem w_624 : Cond.methodLink R_LT 250 (⟨R_Curves, "greaterNeighbour", "(I)I"⟩ : MethodName) ∈ zws := List.mem_filter.mpr ⟨List.mem_of_getElem? (i := 624) (by decide +kernel), by decide +kernel⟩
theorem w_625 : Cond.instanceMethod (⟨R_Curves, "greaterNeighbour", "(I)I"⟩ : MethodName) ∈ zws := List.mem_filter.mpr ⟨List.mem_of_getElem? (i := 625) (by decide +kernel), by decide +kernel⟩
theorem w_626 : Cond.selects R_Curves (⟨R_Curves, "greaterNeighbour", "(I)I"⟩ : MethodName) (⟨R_Curves, "greaterNeighbour", "(I)I"⟩ : MethodName) ∈ zws := List.mem_filter.mpr ⟨List.mem_of_getElem? (i := 626) (by decide +kernel), by decide +kernel⟩
theorem w_627 : Cond.code (⟨R_Curves, "greaterNeighbour", "(I)I"⟩ : MethodName) prog_2_method_4_code 2 (some .int) ∈ zws := List.mem_filter.mpr ⟨List.mem_of_getElem? (i := 627) (by decide +kernel), by decide +kernel⟩
theorem w_628 : Cond.methodLink R_Curves 23 Lib.Math.max.name ∈ zws := List.mem_filter.mpr ⟨List.mem_of_getElem? (i := 628) (by decide +kernel), by decide +kernel⟩
theorem w_629 : Cond.methodLink R_LT 189 (⟨R_Curves, "put", "(II)V"⟩ : MethodName) ∈ zws := List.mem_filter.mpr ⟨List.mem_of_getElem? (i := 629) (by decide +kernel), by decide +kernel⟩
theorem w_630 : Cond.instanceMethod (⟨R_Curves, "put", "(II)V"⟩ : MethodName) ∈ zws := List.mem_filter.mpr ⟨List.mem_of_getElem? (i := 630) (by decide +kernel), by decide +kernel⟩
theorem w_631 : Cond.selects R_Curves (⟨R_Curves, "put", "(II)V"⟩ : MethodName) (⟨R_Curves, "put", "(II)V"⟩ : MethodName) ∈ zws := List.mem_filter.mpr ⟨List.mem_of_getElem? (i := 631) (by decide +kernel), by decide +kernel⟩
theorem w_632 : Cond.code (⟨R_Curves, "put", "(II)V"⟩ : MethodName) prog_2_method_2_code 3 none ∈ zws := List.mem_filter.mpr ⟨List.mem_of_getElem? (i := 632) (by decide +kernel), by decide +kernel⟩
theorem w_637 : Jvm.Cond.constantLong R_LT 199 (16 : Int64) ∈ zws := List.mem_filter.mpr ⟨List.mem_of_getElem? (i := 637) (by decide +kernel), by decide +kernel⟩
theorem w_638 : Jvm.Cond.constantLong R_LT 201 (64 : Int64) ∈ zws := List.mem_filter.mpr ⟨List.mem_of_getElem? (i := 638) (by decide +kernel), by decide +kernel⟩
theorem w_639 : Jvm.Cond.constantLong R_LT 203 (64000 : Int64) ∈ zws := List.mem_filter.mpr ⟨List.mem_of_getElem? (i := 639) (by decide +kernel), by decide +kernel⟩
theorem w_648 : Cond.methodLink R_LT 217 (⟨R_Lorry, "laneFact", "(LLevelTables$Table;II)I"⟩ : MethodName) ∈ zws := List.mem_filter.mpr ⟨List.mem_of_getElem? (i := 648) (by decide +kernel), by decide +kernel⟩
theorem w_649 : Cond.instanceMethod (⟨R_Lorry, "laneFact", "(LLevelTables$Table;II)I"⟩ : MethodName) ∈ zws := List.mem_filter.mpr ⟨List.mem_of_getElem? (i := 649) (by decide +kernel), by decide +kernel⟩
theorem w_650 : Cond.selects R_Lorry (⟨R_Lorry, "laneFact", "(LLevelTables$Table;II)I"⟩ : MethodName) (⟨R_Lorry, "laneFact", "(LLevelTables$Table;II)I"⟩ : MethodName) ∈ zws := List.mem_filter.mpr ⟨List.mem_of_getElem? (i := 650) (by decide +kernel), by decide +kernel⟩
theorem w_651 : Cond.code (⟨R_Lorry, "laneFact", "(LLevelTables$Table;II)I"⟩ : MethodName) prog_3_method_3_code 12 (some .int) ∈ zws := List.mem_filter.mpr ⟨List.mem_of_getElem? (i := 651) (by decide +kernel), by decide +kernel⟩
theorem w_652 : Cond.methodLink R_Lorry 39 (⟨R_Table, "slopeOf", "(I)I"⟩ : MethodName) ∈ zws := List.mem_filter.mpr ⟨List.mem_of_getElem? (i := 652) (by decide +kernel), by decide +kernel⟩
theorem w_653 : Cond.methodLink R_Lorry 43 (⟨R_Lorry, "speedBehind", "(II)I"⟩ : MethodName) ∈ zws := List.mem_filter.mpr ⟨List.mem_of_getElem? (i := 653) (by decide +kernel), by decide +kernel⟩
theorem w_655 : Cond.instanceMethod (⟨R_Lorry, "speedBehind", "(II)I"⟩ : MethodName) ∈ zws := List.mem_filter.mpr ⟨List.mem_of_getElem? (i := 655) (by decide +kernel), by decide +kernel⟩
theorem w_656 : Cond.code (⟨R_Lorry, "speedBehind", "(II)I"⟩ : MethodName) prog_3_method_2_code 3 (some .int) ∈ zws := List.mem_filter.mpr ⟨List.mem_of_getElem? (i := 656) (by decide +kernel), by decide +kernel⟩
theorem w_657 : Cond.methodLink R_Lorry 24 Lib.Math.max.name ∈ zws := List.mem_filter.mpr ⟨List.mem_of_getElem? (i := 657) (by decide +kernel), by decide +kernel⟩
theorem w_658 : Cond.methodLink R_Lorry 30 Lib.Math.min.name ∈ zws := List.mem_filter.mpr ⟨List.mem_of_getElem? (i := 658) (by decide +kernel), by decide +kernel⟩
theorem w_663 : Cond.methodLink R_LT 221 (⟨R_Table, "rankOf", "(I)I"⟩ : MethodName) ∈ zws := List.mem_filter.mpr ⟨List.mem_of_getElem? (i := 663) (by decide +kernel), by decide +kernel⟩
theorem w_664 : Cond.instanceMethod (⟨R_Table, "rankOf", "(I)I"⟩ : MethodName) ∈ zws := List.mem_filter.mpr ⟨List.mem_of_getElem? (i := 664) (by decide +kernel), by decide +kernel⟩
theorem w_665 : Cond.selects R_Table (⟨R_Table, "rankOf", "(I)I"⟩ : MethodName) (⟨R_Table, "rankOf", "(I)I"⟩ : MethodName) ∈ zws := List.mem_filter.mpr ⟨List.mem_of_getElem? (i := 665) (by decide +kernel), by decide +kernel⟩
theorem w_666 : Cond.code (⟨R_Table, "rankOf", "(I)I"⟩ : MethodName) prog_8_method_8_code 6 (some .int) ∈ zws := List.mem_filter.mpr ⟨List.mem_of_getElem? (i := 666) (by decide +kernel), by decide +kernel⟩
theorem w_667 : Cond.methodLink R_Table 50 (⟨R_Table, "filledAt", "(I)I"⟩ : MethodName) ∈ zws := List.mem_filter.mpr ⟨List.mem_of_getElem? (i := 667) (by decide +kernel), by decide +kernel⟩
theorem w_668 : Cond.instanceMethod (⟨R_Table, "filledAt", "(I)I"⟩ : MethodName) ∈ zws := List.mem_filter.mpr ⟨List.mem_of_getElem? (i := 668) (by decide +kernel), by decide +kernel⟩
theorem w_669 : Cond.selects R_Table (⟨R_Table, "filledAt", "(I)I"⟩ : MethodName) (⟨R_Table, "filledAt", "(I)I"⟩ : MethodName) ∈ zws := List.mem_filter.mpr ⟨List.mem_of_getElem? (i := 669) (by decide +kernel), by decide +kernel⟩
theorem w_670 : Cond.code (⟨R_Table, "filledAt", "(I)I"⟩ : MethodName) prog_8_method_4_code 2 (some .int) ∈ zws := List.mem_filter.mpr ⟨List.mem_of_getElem? (i := 670) (by decide +kernel), by decide +kernel⟩
theorem w_671 : Cond.methodLink R_Table 43 (⟨R_Table, "isBetween", "(I)Z"⟩ : MethodName) ∈ zws := List.mem_filter.mpr ⟨List.mem_of_getElem? (i := 671) (by decide +kernel), by decide +kernel⟩
theorem w_672 : Cond.instanceMethod (⟨R_Table, "isBetween", "(I)Z"⟩ : MethodName) ∈ zws := List.mem_filter.mpr ⟨List.mem_of_getElem? (i := 672) (by decide +kernel), by decide +kernel⟩
theorem w_673 : Cond.selects R_Table (⟨R_Table, "isBetween", "(I)Z"⟩ : MethodName) (⟨R_Table, "isBetween", "(I)Z"⟩ : MethodName) ∈ zws := List.mem_filter.mpr ⟨List.mem_of_getElem? (i := 673) (by decide +kernel), by decide +kernel⟩
theorem w_674 : Cond.code (⟨R_Table, "isBetween", "(I)Z"⟩ : MethodName) prog_8_method_3_code 2 (some .boolean) ∈ zws := List.mem_filter.mpr ⟨List.mem_of_getElem? (i := 674) (by decide +kernel), by decide +kernel⟩
theorem w_675 : Cond.methodLink R_Table 63 Lib.Math.abs.name ∈ zws := List.mem_filter.mpr ⟨List.mem_of_getElem? (i := 675) (by decide +kernel), by decide +kernel⟩
theorem w_680 : Cond.methodLink R_LT 224 (⟨R_Site, "countSet", "([I)I"⟩ : MethodName) ∈ zws := List.mem_filter.mpr ⟨List.mem_of_getElem? (i := 680) (by decide +kernel), by decide +kernel⟩
theorem w_681 : Cond.instanceMethod (⟨R_Site, "countSet", "([I)I"⟩ : MethodName) ∈ zws := List.mem_filter.mpr ⟨List.mem_of_getElem? (i := 681) (by decide +kernel), by decide +kernel⟩
theorem w_682 : Cond.selects R_Site (⟨R_Site, "countSet", "([I)I"⟩ : MethodName) (⟨R_Site, "countSet", "([I)I"⟩ : MethodName) ∈ zws := List.mem_filter.mpr ⟨List.mem_of_getElem? (i := 682) (by decide +kernel), by decide +kernel⟩
theorem w_683 : Cond.code (⟨R_Site, "countSet", "([I)I"⟩ : MethodName) prog_6_method_12_code 4 (some .int) ∈ zws := List.mem_filter.mpr ⟨List.mem_of_getElem? (i := 683) (by decide +kernel), by decide +kernel⟩
theorem w_684 : Cond.methodLink R_LT 228 (⟨R_LT, "toldOfTable", "(I)I"⟩ : MethodName) ∈ zws := List.mem_filter.mpr ⟨List.mem_of_getElem? (i := 684) (by decide +kernel), by decide +kernel⟩
theorem w_686 : Cond.instanceMethod (⟨R_LT, "toldOfTable", "(I)I"⟩ : MethodName) ∈ zws := List.mem_filter.mpr ⟨List.mem_of_getElem? (i := 686) (by decide +kernel), by decide +kernel⟩
theorem w_687 : Cond.code (⟨R_LT, "toldOfTable", "(I)I"⟩ : MethodName) prog_1_method_25_code 2 (some .int) ∈ zws := List.mem_filter.mpr ⟨List.mem_of_getElem? (i := 687) (by decide +kernel), by decide +kernel⟩
theorem w_688 : Cond.methodLink R_LT 253 (⟨R_Table, "sumOfSizes", "()I"⟩ : MethodName) ∈ zws := List.mem_filter.mpr ⟨List.mem_of_getElem? (i := 688) (by decide +kernel), by decide +kernel⟩
theorem w_689 : Cond.instanceMethod (⟨R_Table, "sumOfSizes", "()I"⟩ : MethodName) ∈ zws := List.mem_filter.mpr ⟨List.mem_of_getElem? (i := 689) (by decide +kernel), by decide +kernel⟩
theorem w_690 : Cond.selects R_Table (⟨R_Table, "sumOfSizes", "()I"⟩ : MethodName) (⟨R_Table, "sumOfSizes", "()I"⟩ : MethodName) ∈ zws := List.mem_filter.mpr ⟨List.mem_of_getElem? (i := 690) (by decide +kernel), by decide +kernel⟩
theorem w_691 : Cond.code (⟨R_Table, "sumOfSizes", "()I"⟩ : MethodName) prog_8_method_7_code 3 (some .int) ∈ zws := List.mem_filter.mpr ⟨List.mem_of_getElem? (i := 691) (by decide +kernel), by decide +kernel⟩
theorem w_692 : Cond.methodLink R_Table 60 (⟨R_Table, "slopeOf", "(I)I"⟩ : MethodName) ∈ zws := List.mem_filter.mpr ⟨List.mem_of_getElem? (i := 692) (by decide +kernel), by decide +kernel⟩
theorem w_693 : Cond.methodLink R_LT 256 (⟨R_Table, "levelsCut", "()I"⟩ : MethodName) ∈ zws := List.mem_filter.mpr ⟨List.mem_of_getElem? (i := 693) (by decide +kernel), by decide +kernel⟩
theorem w_694 : Cond.instanceMethod (⟨R_Table, "levelsCut", "()I"⟩ : MethodName) ∈ zws := List.mem_filter.mpr ⟨List.mem_of_getElem? (i := 694) (by decide +kernel), by decide +kernel⟩
theorem w_695 : Cond.selects R_Table (⟨R_Table, "levelsCut", "()I"⟩ : MethodName) (⟨R_Table, "levelsCut", "()I"⟩ : MethodName) ∈ zws := List.mem_filter.mpr ⟨List.mem_of_getElem? (i := 695) (by decide +kernel), by decide +kernel⟩
theorem w_696 : Cond.code (⟨R_Table, "levelsCut", "()I"⟩ : MethodName) prog_8_method_6_code 3 (some .int) ∈ zws := List.mem_filter.mpr ⟨List.mem_of_getElem? (i := 696) (by decide +kernel), by decide +kernel⟩
theorem w_697 : Cond.methodLink R_Table 54 Lib.Math.max.name ∈ zws := List.mem_filter.mpr ⟨List.mem_of_getElem? (i := 697) (by decide +kernel), by decide +kernel⟩
theorem w_698 : Cond.methodLink R_LT 259 (⟨R_Table, "levelsFilled", "()I"⟩ : MethodName) ∈ zws := List.mem_filter.mpr ⟨List.mem_of_getElem? (i := 698) (by decide +kernel), by decide +kernel⟩
theorem w_699 : Cond.instanceMethod (⟨R_Table, "levelsFilled", "()I"⟩ : MethodName) ∈ zws := List.mem_filter.mpr ⟨List.mem_of_getElem? (i := 699) (by decide +kernel), by decide +kernel⟩
theorem w_700 : Cond.selects R_Table (⟨R_Table, "levelsFilled", "()I"⟩ : MethodName) (⟨R_Table, "levelsFilled", "()I"⟩ : MethodName) ∈ zws := List.mem_filter.mpr ⟨List.mem_of_getElem? (i := 700) (by decide +kernel), by decide +kernel⟩
theorem w_701 : Cond.code (⟨R_Table, "levelsFilled", "()I"⟩ : MethodName) prog_8_method_5_code 3 (some .int) ∈ zws := List.mem_filter.mpr ⟨List.mem_of_getElem? (i := 701) (by decide +kernel), by decide +kernel⟩
theorem w_706 : Cond.methodLink R_LT 231 (⟨R_Table, "holdsAll", "()Z"⟩ : MethodName) ∈ zws := List.mem_filter.mpr ⟨List.mem_of_getElem? (i := 706) (by decide +kernel), by decide +kernel⟩
theorem w_707 : Cond.instanceMethod (⟨R_Table, "holdsAll", "()Z"⟩ : MethodName) ∈ zws := List.mem_filter.mpr ⟨List.mem_of_getElem? (i := 707) (by decide +kernel), by decide +kernel⟩
theorem w_708 : Cond.selects R_Table (⟨R_Table, "holdsAll", "()Z"⟩ : MethodName) (⟨R_Table, "holdsAll", "()Z"⟩ : MethodName) ∈ zws := List.mem_filter.mpr ⟨List.mem_of_getElem? (i := 708) (by decide +kernel), by decide +kernel⟩
theorem w_709 : Cond.code (⟨R_Table, "holdsAll", "()Z"⟩ : MethodName) prog_8_method_9_code 1 (some .boolean) ∈ zws := List.mem_filter.mpr ⟨List.mem_of_getElem? (i := 709) (by decide +kernel), by decide +kernel⟩
theorem w_710 : Cond.methodLink R_Table 66 (⟨R_Table, "placesHold", "()Z"⟩ : MethodName) ∈ zws := List.mem_filter.mpr ⟨List.mem_of_getElem? (i := 710) (by decide +kernel), by decide +kernel⟩
theorem w_712 : Cond.instanceMethod (⟨R_Table, "placesHold", "()Z"⟩ : MethodName) ∈ zws := List.mem_filter.mpr ⟨List.mem_of_getElem? (i := 712) (by decide +kernel), by decide +kernel⟩
theorem w_713 : Cond.code (⟨R_Table, "placesHold", "()Z"⟩ : MethodName) prog_8_method_10_code 2 (some .boolean) ∈ zws := List.mem_filter.mpr ⟨List.mem_of_getElem? (i := 713) (by decide +kernel), by decide +kernel⟩
theorem w_714 : Cond.methodLink R_Table 76 (⟨R_Site, "isLevel", "(I)Z"⟩ : MethodName) ∈ zws := List.mem_filter.mpr ⟨List.mem_of_getElem? (i := 714) (by decide +kernel), by decide +kernel⟩
theorem w_715 : Cond.methodLink R_Table 79 (⟨R_Site, "allows", "(II)Z"⟩ : MethodName) ∈ zws := List.mem_filter.mpr ⟨List.mem_of_getElem? (i := 715) (by decide +kernel), by decide +kernel⟩
theorem w_716 : Cond.methodLink R_Table 70 (⟨R_Table, "slopesHold", "()Z"⟩ : MethodName) ∈ zws := List.mem_filter.mpr ⟨List.mem_of_getElem? (i := 716) (by decide +kernel), by decide +kernel⟩
theorem w_718 : Cond.instanceMethod (⟨R_Table, "slopesHold", "()Z"⟩ : MethodName) ∈ zws := List.mem_filter.mpr ⟨List.mem_of_getElem? (i := 718) (by decide +kernel), by decide +kernel⟩
theorem w_719 : Cond.code (⟨R_Table, "slopesHold", "()Z"⟩ : MethodName) prog_8_method_11_code 2 (some .boolean) ∈ zws := List.mem_filter.mpr ⟨List.mem_of_getElem? (i := 719) (by decide +kernel), by decide +kernel⟩
theorem w_720 : Cond.methodLink R_Table 83 (⟨R_Site, "slopeFits", "(I)Z"⟩ : MethodName) ∈ zws := List.mem_filter.mpr ⟨List.mem_of_getElem? (i := 720) (by decide +kernel), by decide +kernel⟩
theorem w_721 : Cond.methodLink R_Table 86 (⟨R_Site, "changeFits", "(II)Z"⟩ : MethodName) ∈ zws := List.mem_filter.mpr ⟨List.mem_of_getElem? (i := 721) (by decide +kernel), by decide +kernel⟩
theorem w_722 : Cond.methodLink R_Table 73 (⟨R_Table, "spansHold", "()Z"⟩ : MethodName) ∈ zws := List.mem_filter.mpr ⟨List.mem_of_getElem? (i := 722) (by decide +kernel), by decide +kernel⟩
theorem w_724 : Cond.instanceMethod (⟨R_Table, "spansHold", "()Z"⟩ : MethodName) ∈ zws := List.mem_filter.mpr ⟨List.mem_of_getElem? (i := 724) (by decide +kernel), by decide +kernel⟩
theorem w_725 : Cond.code (⟨R_Table, "spansHold", "()Z"⟩ : MethodName) prog_8_method_12_code 2 (some .boolean) ∈ zws := List.mem_filter.mpr ⟨List.mem_of_getElem? (i := 725) (by decide +kernel), by decide +kernel⟩
theorem w_726 : Cond.methodLink R_Table 94 (⟨R_Table, "spanHolds", "(I)Z"⟩ : MethodName) ∈ zws := List.mem_filter.mpr ⟨List.mem_of_getElem? (i := 726) (by decide +kernel), by decide +kernel⟩
theorem w_728 : Cond.instanceMethod (⟨R_Table, "spanHolds", "(I)Z"⟩ : MethodName) ∈ zws := List.mem_filter.mpr ⟨List.mem_of_getElem? (i := 728) (by decide +kernel), by decide +kernel⟩
theorem w_729 : Cond.code (⟨R_Table, "spanHolds", "(I)Z"⟩ : MethodName) prog_8_method_13_code 5 (some .boolean) ∈ zws := List.mem_filter.mpr ⟨List.mem_of_getElem? (i := 729) (by decide +kernel), by decide +kernel⟩
theorem w_730 : Cond.methodLink R_Table 103 (⟨R_Spans, "suits", "(LLevelTables$Site;III)Z"⟩ : MethodName) ∈ zws := List.mem_filter.mpr ⟨List.mem_of_getElem? (i := 730) (by decide +kernel), by decide +kernel⟩
theorem nw_LT_29 : Cond.methodLinkNest R_LT 29 (⟨R_Spans, "<init>", "()V"⟩ : MethodName) "LevelTables" ∈ znw := List.mem_filter.mpr ⟨List.mem_of_getElem? (i := 145) (by decide +kernel), rfl⟩
theorem nw_LT_63 : Cond.methodLinkNest R_LT 63 (⟨R_Lorry, "<init>", "()V"⟩ : MethodName) "LevelTables" ∈ znw := List.mem_filter.mpr ⟨List.mem_of_getElem? (i := 245) (by decide +kernel), rfl⟩
