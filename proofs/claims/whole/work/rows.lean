section
-- ===== PART A: goes FIRST, ahead of the names: the tables' words, and 'selects' of the private methods out of them =====
/-- a private method of a class that the tables say can be made, by its rows of tables_1 -/
def lw_okq (q : MethodName × Nat) : Prop := (q.1.cls ≠ "java/lang/invoke/MethodHandle" ∧ q.1.cls ≠ "java/lang/invoke/VarHandle") ∧ Cond.instantiable q.1.cls q.2 ∈ tables_1 ∧ Cond.privateMethod q.1 ∈ tables_1 ∧ Cond.instanceMethod q.1 ∈ tables_1
theorem lw_p0 : lw_okq (⟨"LevelTables", "forget", "()V"⟩, 10) := ⟨⟨by decide +kernel, by decide +kernel⟩, List.mem_of_getElem? (i := 15) (by decide +kernel), List.mem_of_getElem? (i := 254) (by decide +kernel), List.mem_of_getElem? (i := 255) (by decide +kernel)⟩
theorem lw_p1 : lw_okq (⟨"LevelTables$Reach", "start", "()Z"⟩, 3) := ⟨⟨by decide +kernel, by decide +kernel⟩, List.mem_of_getElem? (i := 118) (by decide +kernel), List.mem_of_getElem? (i := 313) (by decide +kernel), List.mem_of_getElem? (i := 314) (by decide +kernel)⟩
theorem lw_p2 : lw_okq (⟨"LevelTables$Reach", "advance", "(I)Z"⟩, 3) := ⟨⟨by decide +kernel, by decide +kernel⟩, List.mem_of_getElem? (i := 118) (by decide +kernel), List.mem_of_getElem? (i := 322) (by decide +kernel), List.mem_of_getElem? (i := 323) (by decide +kernel)⟩
theorem lw_p3 : lw_okq (⟨"LevelTables$Reach", "widened", "(J)J"⟩, 3) := ⟨⟨by decide +kernel, by decide +kernel⟩, List.mem_of_getElem? (i := 118) (by decide +kernel), List.mem_of_getElem? (i := 329) (by decide +kernel), List.mem_of_getElem? (i := 330) (by decide +kernel)⟩
theorem lw_p4 : lw_okq (⟨"LevelTables$Reach", "canStep", "(III)Z"⟩, 3) := ⟨⟨by decide +kernel, by decide +kernel⟩, List.mem_of_getElem? (i := 118) (by decide +kernel), List.mem_of_getElem? (i := 343) (by decide +kernel), List.mem_of_getElem? (i := 344) (by decide +kernel)⟩
theorem lw_p5 : lw_okq (⟨"LevelTables", "bestSearch", "()LLevelTables$Search;"⟩, 10) := ⟨⟨by decide +kernel, by decide +kernel⟩, List.mem_of_getElem? (i := 15) (by decide +kernel), List.mem_of_getElem? (i := 354) (by decide +kernel), List.mem_of_getElem? (i := 355) (by decide +kernel)⟩
theorem lw_p6 : lw_okq (⟨"LevelTables$Search", "fillLayer", "(I)V"⟩, 11) := ⟨⟨by decide +kernel, by decide +kernel⟩, List.mem_of_getElem? (i := 358) (by decide +kernel), List.mem_of_getElem? (i := 405) (by decide +kernel), List.mem_of_getElem? (i := 406) (by decide +kernel)⟩
theorem lw_p7 : lw_okq (⟨"LevelTables$Search", "slotOf", "(I)I"⟩, 11) := ⟨⟨by decide +kernel, by decide +kernel⟩, List.mem_of_getElem? (i := 358) (by decide +kernel), List.mem_of_getElem? (i := 409) (by decide +kernel), List.mem_of_getElem? (i := 410) (by decide +kernel)⟩
theorem lw_p8 : lw_okq (⟨"LevelTables$Search", "fillLast", "([JI)V"⟩, 11) := ⟨⟨by decide +kernel, by decide +kernel⟩, List.mem_of_getElem? (i := 358) (by decide +kernel), List.mem_of_getElem? (i := 416) (by decide +kernel), List.mem_of_getElem? (i := 417) (by decide +kernel)⟩
theorem lw_p9 : lw_okq (⟨"LevelTables$Search", "earthValue", "(II)J"⟩, 11) := ⟨⟨by decide +kernel, by decide +kernel⟩, List.mem_of_getElem? (i := 358) (by decide +kernel), List.mem_of_getElem? (i := 420) (by decide +kernel), List.mem_of_getElem? (i := 421) (by decide +kernel)⟩
theorem lw_p10 : lw_okq (⟨"LevelTables$Search", "indexOf", "(II)I"⟩, 11) := ⟨⟨by decide +kernel, by decide +kernel⟩, List.mem_of_getElem? (i := 358) (by decide +kernel), List.mem_of_getElem? (i := 431) (by decide +kernel), List.mem_of_getElem? (i := 432) (by decide +kernel)⟩
theorem lw_p11 : lw_okq (⟨"LevelTables$Search", "fillLeaving", "(II)V"⟩, 11) := ⟨⟨by decide +kernel, by decide +kernel⟩, List.mem_of_getElem? (i := 358) (by decide +kernel), List.mem_of_getElem? (i := 435) (by decide +kernel), List.mem_of_getElem? (i := 436) (by decide +kernel)⟩
theorem lw_p12 : lw_okq (⟨"LevelTables$Search", "addStep", "(III)V"⟩, 11) := ⟨⟨by decide +kernel, by decide +kernel⟩, List.mem_of_getElem? (i := 358) (by decide +kernel), List.mem_of_getElem? (i := 443) (by decide +kernel), List.mem_of_getElem? (i := 444) (by decide +kernel)⟩
theorem lw_p13 : lw_okq (⟨"LevelTables$Search", "merge", "([JI[JIJ)V"⟩, 11) := ⟨⟨by decide +kernel, by decide +kernel⟩, List.mem_of_getElem? (i := 358) (by decide +kernel), List.mem_of_getElem? (i := 448) (by decide +kernel), List.mem_of_getElem? (i := 449) (by decide +kernel)⟩
theorem lw_p14 : lw_okq (⟨"LevelTables$Search", "insert", "([JIJ)V"⟩, 11) := ⟨⟨by decide +kernel, by decide +kernel⟩, List.mem_of_getElem? (i := 358) (by decide +kernel), List.mem_of_getElem? (i := 452) (by decide +kernel), List.mem_of_getElem? (i := 453) (by decide +kernel)⟩
theorem lw_p15 : lw_okq (⟨"LevelTables$Search", "addSpan", "(III)V"⟩, 11) := ⟨⟨by decide +kernel, by decide +kernel⟩, List.mem_of_getElem? (i := 358) (by decide +kernel), List.mem_of_getElem? (i := 456) (by decide +kernel), List.mem_of_getElem? (i := 457) (by decide +kernel)⟩
def lw_privs_1 : List (MethodName × Nat) := [(⟨"LevelTables", "forget", "()V"⟩, 10), (⟨"LevelTables$Reach", "start", "()Z"⟩, 3), (⟨"LevelTables$Reach", "advance", "(I)Z"⟩, 3), (⟨"LevelTables$Reach", "widened", "(J)J"⟩, 3), (⟨"LevelTables$Reach", "canStep", "(III)Z"⟩, 3), (⟨"LevelTables", "bestSearch", "()LLevelTables$Search;"⟩, 10), (⟨"LevelTables$Search", "fillLayer", "(I)V"⟩, 11), (⟨"LevelTables$Search", "slotOf", "(I)I"⟩, 11), (⟨"LevelTables$Search", "fillLast", "([JI)V"⟩, 11), (⟨"LevelTables$Search", "earthValue", "(II)J"⟩, 11), (⟨"LevelTables$Search", "indexOf", "(II)I"⟩, 11), (⟨"LevelTables$Search", "fillLeaving", "(II)V"⟩, 11), (⟨"LevelTables$Search", "addStep", "(III)V"⟩, 11), (⟨"LevelTables$Search", "merge", "([JI[JIJ)V"⟩, 11), (⟨"LevelTables$Search", "insert", "([JIJ)V"⟩, 11), (⟨"LevelTables$Search", "addSpan", "(III)V"⟩, 11)]
theorem lw_r1 : ∀ q ∈ lw_privs_1, lw_okq q := List.forall_mem_cons.mpr ⟨lw_p0, List.forall_mem_cons.mpr ⟨lw_p1, List.forall_mem_cons.mpr ⟨lw_p2, List.forall_mem_cons.mpr ⟨lw_p3, List.forall_mem_cons.mpr ⟨lw_p4, List.forall_mem_cons.mpr ⟨lw_p5, List.forall_mem_cons.mpr ⟨lw_p6, List.forall_mem_cons.mpr ⟨lw_p7, List.forall_mem_cons.mpr ⟨lw_p8, List.forall_mem_cons.mpr ⟨lw_p9, List.forall_mem_cons.mpr ⟨lw_p10, List.forall_mem_cons.mpr ⟨lw_p11, List.forall_mem_cons.mpr ⟨lw_p12, List.forall_mem_cons.mpr ⟨lw_p13, List.forall_mem_cons.mpr ⟨lw_p14, List.forall_mem_cons.mpr ⟨lw_p15, fun _ h => absurd h List.not_mem_nil⟩⟩⟩⟩⟩⟩⟩⟩⟩⟩⟩⟩⟩⟩⟩⟩
theorem lw_p16 : lw_okq (⟨"LevelTables$Search", "slotOfEnd", "(I)I"⟩, 11) := ⟨⟨by decide +kernel, by decide +kernel⟩, List.mem_of_getElem? (i := 358) (by decide +kernel), List.mem_of_getElem? (i := 466) (by decide +kernel), List.mem_of_getElem? (i := 467) (by decide +kernel)⟩
theorem lw_p17 : lw_okq (⟨"LevelTables$Search", "fillStates", "([JI)V"⟩, 11) := ⟨⟨by decide +kernel, by decide +kernel⟩, List.mem_of_getElem? (i := 358) (by decide +kernel), List.mem_of_getElem? (i := 470) (by decide +kernel), List.mem_of_getElem? (i := 471) (by decide +kernel)⟩
theorem lw_p18 : lw_okq (⟨"LevelTables$Search", "gather", "([JIII)V"⟩, 11) := ⟨⟨by decide +kernel, by decide +kernel⟩, List.mem_of_getElem? (i := 358) (by decide +kernel), List.mem_of_getElem? (i := 479) (by decide +kernel), List.mem_of_getElem? (i := 480) (by decide +kernel)⟩
theorem lw_p19 : lw_okq (⟨"LevelTables$Search", "keepLayer", "(I)V"⟩, 11) := ⟨⟨by decide +kernel, by decide +kernel⟩, List.mem_of_getElem? (i := 358) (by decide +kernel), List.mem_of_getElem? (i := 487) (by decide +kernel), List.mem_of_getElem? (i := 488) (by decide +kernel)⟩
theorem lw_p20 : lw_okq (⟨"LevelTables$Search", "fillLeast", "()V"⟩, 11) := ⟨⟨by decide +kernel, by decide +kernel⟩, List.mem_of_getElem? (i := 358) (by decide +kernel), List.mem_of_getElem? (i := 491) (by decide +kernel), List.mem_of_getElem? (i := 492) (by decide +kernel)⟩
theorem lw_p21 : lw_okq (⟨"LevelTables$Search", "traceFrom", "(LLevelTables$Table;I)I"⟩, 11) := ⟨⟨by decide +kernel, by decide +kernel⟩, List.mem_of_getElem? (i := 358) (by decide +kernel), List.mem_of_getElem? (i := 499) (by decide +kernel), List.mem_of_getElem? (i := 500) (by decide +kernel)⟩
theorem lw_p22 : lw_okq (⟨"LevelTables$Search", "wantedAt", "(LLevelTables$Table;I)J"⟩, 11) := ⟨⟨by decide +kernel, by decide +kernel⟩, List.mem_of_getElem? (i := 358) (by decide +kernel), List.mem_of_getElem? (i := 503) (by decide +kernel), List.mem_of_getElem? (i := 504) (by decide +kernel)⟩
theorem lw_p23 : lw_okq (⟨"LevelTables$Search", "mayFollow", "(LLevelTables$Table;II)Z"⟩, 11) := ⟨⟨by decide +kernel, by decide +kernel⟩, List.mem_of_getElem? (i := 358) (by decide +kernel), List.mem_of_getElem? (i := 507) (by decide +kernel), List.mem_of_getElem? (i := 508) (by decide +kernel)⟩
theorem lw_p24 : lw_okq (⟨"LevelTables$Search", "lay", "(LLevelTables$Table;IIII)I"⟩, 11) := ⟨⟨by decide +kernel, by decide +kernel⟩, List.mem_of_getElem? (i := 358) (by decide +kernel), List.mem_of_getElem? (i := 519) (by decide +kernel), List.mem_of_getElem? (i := 520) (by decide +kernel)⟩
theorem lw_p25 : lw_okq (⟨"LevelTables", "curveRefusal", "(II)I"⟩, 10) := ⟨⟨by decide +kernel, by decide +kernel⟩, List.mem_of_getElem? (i := 15) (by decide +kernel), List.mem_of_getElem? (i := 559) (by decide +kernel), List.mem_of_getElem? (i := 560) (by decide +kernel)⟩
theorem lw_p26 : lw_okq (⟨"LevelTables$Lorry", "speedBehind", "(II)I"⟩, 4) := ⟨⟨by decide +kernel, by decide +kernel⟩, List.mem_of_getElem? (i := 188) (by decide +kernel), List.mem_of_getElem? (i := 598) (by decide +kernel), List.mem_of_getElem? (i := 599) (by decide +kernel)⟩
theorem lw_p27 : lw_okq (⟨"LevelTables", "toldOfTable", "(I)I"⟩, 10) := ⟨⟨by decide +kernel, by decide +kernel⟩, List.mem_of_getElem? (i := 15) (by decide +kernel), List.mem_of_getElem? (i := 629) (by decide +kernel), List.mem_of_getElem? (i := 630) (by decide +kernel)⟩
theorem lw_p28 : lw_okq (⟨"LevelTables$Table", "placesHold", "()Z"⟩, 7) := ⟨⟨by decide +kernel, by decide +kernel⟩, List.mem_of_getElem? (i := 134) (by decide +kernel), List.mem_of_getElem? (i := 655) (by decide +kernel), List.mem_of_getElem? (i := 656) (by decide +kernel)⟩
theorem lw_p29 : lw_okq (⟨"LevelTables$Table", "slopesHold", "()Z"⟩, 7) := ⟨⟨by decide +kernel, by decide +kernel⟩, List.mem_of_getElem? (i := 134) (by decide +kernel), List.mem_of_getElem? (i := 661) (by decide +kernel), List.mem_of_getElem? (i := 662) (by decide +kernel)⟩
theorem lw_p30 : lw_okq (⟨"LevelTables$Table", "spansHold", "()Z"⟩, 7) := ⟨⟨by decide +kernel, by decide +kernel⟩, List.mem_of_getElem? (i := 134) (by decide +kernel), List.mem_of_getElem? (i := 667) (by decide +kernel), List.mem_of_getElem? (i := 668) (by decide +kernel)⟩
theorem lw_p31 : lw_okq (⟨"LevelTables$Table", "spanHolds", "(I)Z"⟩, 7) := ⟨⟨by decide +kernel, by decide +kernel⟩, List.mem_of_getElem? (i := 134) (by decide +kernel), List.mem_of_getElem? (i := 671) (by decide +kernel), List.mem_of_getElem? (i := 672) (by decide +kernel)⟩
def lw_privs_2 : List (MethodName × Nat) := [(⟨"LevelTables$Search", "slotOfEnd", "(I)I"⟩, 11), (⟨"LevelTables$Search", "fillStates", "([JI)V"⟩, 11), (⟨"LevelTables$Search", "gather", "([JIII)V"⟩, 11), (⟨"LevelTables$Search", "keepLayer", "(I)V"⟩, 11), (⟨"LevelTables$Search", "fillLeast", "()V"⟩, 11), (⟨"LevelTables$Search", "traceFrom", "(LLevelTables$Table;I)I"⟩, 11), (⟨"LevelTables$Search", "wantedAt", "(LLevelTables$Table;I)J"⟩, 11), (⟨"LevelTables$Search", "mayFollow", "(LLevelTables$Table;II)Z"⟩, 11), (⟨"LevelTables$Search", "lay", "(LLevelTables$Table;IIII)I"⟩, 11), (⟨"LevelTables", "curveRefusal", "(II)I"⟩, 10), (⟨"LevelTables$Lorry", "speedBehind", "(II)I"⟩, 4), (⟨"LevelTables", "toldOfTable", "(I)I"⟩, 10), (⟨"LevelTables$Table", "placesHold", "()Z"⟩, 7), (⟨"LevelTables$Table", "slopesHold", "()Z"⟩, 7), (⟨"LevelTables$Table", "spansHold", "()Z"⟩, 7), (⟨"LevelTables$Table", "spanHolds", "(I)Z"⟩, 7)]
theorem lw_r2 : ∀ q ∈ lw_privs_2, lw_okq q := List.forall_mem_cons.mpr ⟨lw_p16, List.forall_mem_cons.mpr ⟨lw_p17, List.forall_mem_cons.mpr ⟨lw_p18, List.forall_mem_cons.mpr ⟨lw_p19, List.forall_mem_cons.mpr ⟨lw_p20, List.forall_mem_cons.mpr ⟨lw_p21, List.forall_mem_cons.mpr ⟨lw_p22, List.forall_mem_cons.mpr ⟨lw_p23, List.forall_mem_cons.mpr ⟨lw_p24, List.forall_mem_cons.mpr ⟨lw_p25, List.forall_mem_cons.mpr ⟨lw_p26, List.forall_mem_cons.mpr ⟨lw_p27, List.forall_mem_cons.mpr ⟨lw_p28, List.forall_mem_cons.mpr ⟨lw_p29, List.forall_mem_cons.mpr ⟨lw_p30, List.forall_mem_cons.mpr ⟨lw_p31, fun _ h => absurd h List.not_mem_nil⟩⟩⟩⟩⟩⟩⟩⟩⟩⟩⟩⟩⟩⟩⟩⟩
theorem lw_p32 : lw_okq (⟨"LevelTablesModel", "isPlace", "(I)Z"⟩, 35) := ⟨⟨by decide +kernel, by decide +kernel⟩, List.mem_of_getElem? (i := 679) (by decide +kernel), List.mem_of_getElem? (i := 797) (by decide +kernel), List.mem_of_getElem? (i := 798) (by decide +kernel)⟩
theorem lw_p33 : lw_okq (⟨"LevelTablesModel", "isLevel", "(I)Z"⟩, 35) := ⟨⟨by decide +kernel, by decide +kernel⟩, List.mem_of_getElem? (i := 679) (by decide +kernel), List.mem_of_getElem? (i := 801) (by decide +kernel), List.mem_of_getElem? (i := 802) (by decide +kernel)⟩
theorem lw_p34 : lw_okq (⟨"LevelTablesModel", "forget", "()V"⟩, 35) := ⟨⟨by decide +kernel, by decide +kernel⟩, List.mem_of_getElem? (i := 679) (by decide +kernel), List.mem_of_getElem? (i := 805) (by decide +kernel), List.mem_of_getElem? (i := 806) (by decide +kernel)⟩
theorem lw_p35 : lw_okq (⟨"LevelTablesModel", "dropCurves", "()V"⟩, 35) := ⟨⟨by decide +kernel, by decide +kernel⟩, List.mem_of_getElem? (i := 679) (by decide +kernel), List.mem_of_getElem? (i := 809) (by decide +kernel), List.mem_of_getElem? (i := 810) (by decide +kernel)⟩
theorem lw_p36 : lw_okq (⟨"LevelTablesModel", "barred", "()I"⟩, 35) := ⟨⟨by decide +kernel, by decide +kernel⟩, List.mem_of_getElem? (i := 679) (by decide +kernel), List.mem_of_getElem? (i := 843) (by decide +kernel), List.mem_of_getElem? (i := 844) (by decide +kernel)⟩
theorem lw_p37 : lw_okq (⟨"LevelTablesModel", "may", "(II)Z"⟩, 35) := ⟨⟨by decide +kernel, by decide +kernel⟩, List.mem_of_getElem? (i := 679) (by decide +kernel), List.mem_of_getElem? (i := 847) (by decide +kernel), List.mem_of_getElem? (i := 848) (by decide +kernel)⟩
theorem lw_p38 : lw_okq (⟨"LevelTablesModel", "follows", "(II)Z"⟩, 35) := ⟨⟨by decide +kernel, by decide +kernel⟩, List.mem_of_getElem? (i := 679) (by decide +kernel), List.mem_of_getElem? (i := 851) (by decide +kernel), List.mem_of_getElem? (i := 852) (by decide +kernel)⟩
theorem lw_p39 : lw_okq (⟨"LevelTablesModel", "search", "()Z"⟩, 35) := ⟨⟨by decide +kernel, by decide +kernel⟩, List.mem_of_getElem? (i := 679) (by decide +kernel), List.mem_of_getElem? (i := 858) (by decide +kernel), List.mem_of_getElem? (i := 859) (by decide +kernel)⟩
theorem lw_p40 : lw_okq (⟨"LevelTablesModel", "workOut", "(III)V"⟩, 35) := ⟨⟨by decide +kernel, by decide +kernel⟩, List.mem_of_getElem? (i := 679) (by decide +kernel), List.mem_of_getElem? (i := 865) (by decide +kernel), List.mem_of_getElem? (i := 866) (by decide +kernel)⟩
theorem lw_p41 : lw_okq (⟨"LevelTablesModel", "spanAt", "(I)I"⟩, 35) := ⟨⟨by decide +kernel, by decide +kernel⟩, List.mem_of_getElem? (i := 679) (by decide +kernel), List.mem_of_getElem? (i := 870) (by decide +kernel), List.mem_of_getElem? (i := 871) (by decide +kernel)⟩
theorem lw_p42 : lw_okq (⟨"LevelTablesModel", "placeCost", "(II)J"⟩, 35) := ⟨⟨by decide +kernel, by decide +kernel⟩, List.mem_of_getElem? (i := 679) (by decide +kernel), List.mem_of_getElem? (i := 874) (by decide +kernel), List.mem_of_getElem? (i := 875) (by decide +kernel)⟩
theorem lw_p43 : lw_okq (⟨"LevelTablesModel", "isLess", "(JIJI)Z"⟩, 35) := ⟨⟨by decide +kernel, by decide +kernel⟩, List.mem_of_getElem? (i := 679) (by decide +kernel), List.mem_of_getElem? (i := 878) (by decide +kernel), List.mem_of_getElem? (i := 879) (by decide +kernel)⟩
theorem lw_p44 : lw_okq (⟨"LevelTablesModel", "mayUse", "(III)Z"⟩, 35) := ⟨⟨by decide +kernel, by decide +kernel⟩, List.mem_of_getElem? (i := 679) (by decide +kernel), List.mem_of_getElem? (i := 882) (by decide +kernel), List.mem_of_getElem? (i := 883) (by decide +kernel)⟩
theorem lw_p45 : lw_okq (⟨"LevelTablesModel", "firstLevel", "()I"⟩, 35) := ⟨⟨by decide +kernel, by decide +kernel⟩, List.mem_of_getElem? (i := 679) (by decide +kernel), List.mem_of_getElem? (i := 886) (by decide +kernel), List.mem_of_getElem? (i := 887) (by decide +kernel)⟩
theorem lw_p46 : lw_okq (⟨"LevelTablesModel", "goAlong", "()V"⟩, 35) := ⟨⟨by decide +kernel, by decide +kernel⟩, List.mem_of_getElem? (i := 679) (by decide +kernel), List.mem_of_getElem? (i := 890) (by decide +kernel), List.mem_of_getElem? (i := 891) (by decide +kernel)⟩
theorem lw_p47 : lw_okq (⟨"LevelTablesModel", "usedSpans", "()I"⟩, 35) := ⟨⟨by decide +kernel, by decide +kernel⟩, List.mem_of_getElem? (i := 679) (by decide +kernel), List.mem_of_getElem? (i := 894) (by decide +kernel), List.mem_of_getElem? (i := 895) (by decide +kernel)⟩
def lw_privs_3 : List (MethodName × Nat) := [(⟨"LevelTablesModel", "isPlace", "(I)Z"⟩, 35), (⟨"LevelTablesModel", "isLevel", "(I)Z"⟩, 35), (⟨"LevelTablesModel", "forget", "()V"⟩, 35), (⟨"LevelTablesModel", "dropCurves", "()V"⟩, 35), (⟨"LevelTablesModel", "barred", "()I"⟩, 35), (⟨"LevelTablesModel", "may", "(II)Z"⟩, 35), (⟨"LevelTablesModel", "follows", "(II)Z"⟩, 35), (⟨"LevelTablesModel", "search", "()Z"⟩, 35), (⟨"LevelTablesModel", "workOut", "(III)V"⟩, 35), (⟨"LevelTablesModel", "spanAt", "(I)I"⟩, 35), (⟨"LevelTablesModel", "placeCost", "(II)J"⟩, 35), (⟨"LevelTablesModel", "isLess", "(JIJI)Z"⟩, 35), (⟨"LevelTablesModel", "mayUse", "(III)Z"⟩, 35), (⟨"LevelTablesModel", "firstLevel", "()I"⟩, 35), (⟨"LevelTablesModel", "goAlong", "()V"⟩, 35), (⟨"LevelTablesModel", "usedSpans", "()I"⟩, 35)]
theorem lw_r3 : ∀ q ∈ lw_privs_3, lw_okq q := List.forall_mem_cons.mpr ⟨lw_p32, List.forall_mem_cons.mpr ⟨lw_p33, List.forall_mem_cons.mpr ⟨lw_p34, List.forall_mem_cons.mpr ⟨lw_p35, List.forall_mem_cons.mpr ⟨lw_p36, List.forall_mem_cons.mpr ⟨lw_p37, List.forall_mem_cons.mpr ⟨lw_p38, List.forall_mem_cons.mpr ⟨lw_p39, List.forall_mem_cons.mpr ⟨lw_p40, List.forall_mem_cons.mpr ⟨lw_p41, List.forall_mem_cons.mpr ⟨lw_p42, List.forall_mem_cons.mpr ⟨lw_p43, List.forall_mem_cons.mpr ⟨lw_p44, List.forall_mem_cons.mpr ⟨lw_p45, List.forall_mem_cons.mpr ⟨lw_p46, List.forall_mem_cons.mpr ⟨lw_p47, fun _ h => absurd h List.not_mem_nil⟩⟩⟩⟩⟩⟩⟩⟩⟩⟩⟩⟩⟩⟩⟩⟩
theorem lw_p48 : lw_okq (⟨"LevelTablesModel", "listAll", "()V"⟩, 35) := ⟨⟨by decide +kernel, by decide +kernel⟩, List.mem_of_getElem? (i := 679) (by decide +kernel), List.mem_of_getElem? (i := 914) (by decide +kernel), List.mem_of_getElem? (i := 915) (by decide +kernel)⟩
theorem lw_p49 : lw_okq (⟨"LevelTablesModel", "list", "(III)V"⟩, 35) := ⟨⟨by decide +kernel, by decide +kernel⟩, List.mem_of_getElem? (i := 679) (by decide +kernel), List.mem_of_getElem? (i := 918) (by decide +kernel), List.mem_of_getElem? (i := 919) (by decide +kernel)⟩
theorem lw_p50 : lw_okq (⟨"LevelTablesModel", "listFrom", "(IIJ)V"⟩, 35) := ⟨⟨by decide +kernel, by decide +kernel⟩, List.mem_of_getElem? (i := 679) (by decide +kernel), List.mem_of_getElem? (i := 922) (by decide +kernel), List.mem_of_getElem? (i := 923) (by decide +kernel)⟩
theorem lw_p51 : lw_okq (⟨"LevelTablesModel", "isSpanned", "(I)Z"⟩, 35) := ⟨⟨by decide +kernel, by decide +kernel⟩, List.mem_of_getElem? (i := 679) (by decide +kernel), List.mem_of_getElem? (i := 937) (by decide +kernel), List.mem_of_getElem? (i := 938) (by decide +kernel)⟩
theorem lw_p52 : lw_okq (⟨"LevelTablesModel", "curves", "()I"⟩, 35) := ⟨⟨by decide +kernel, by decide +kernel⟩, List.mem_of_getElem? (i := 679) (by decide +kernel), List.mem_of_getElem? (i := 941) (by decide +kernel), List.mem_of_getElem? (i := 942) (by decide +kernel)⟩
theorem lw_p53 : lw_okq (⟨"LevelTablesModel", "filled", "(I)I"⟩, 35) := ⟨⟨by decide +kernel, by decide +kernel⟩, List.mem_of_getElem? (i := 679) (by decide +kernel), List.mem_of_getElem? (i := 964) (by decide +kernel), List.mem_of_getElem? (i := 965) (by decide +kernel)⟩
theorem lw_p54 : lw_okq (⟨"LevelTablesModel", "isInside", "(I)Z"⟩, 35) := ⟨⟨by decide +kernel, by decide +kernel⟩, List.mem_of_getElem? (i := 679) (by decide +kernel), List.mem_of_getElem? (i := 968) (by decide +kernel), List.mem_of_getElem? (i := 969) (by decide +kernel)⟩
theorem lw_p55 : lw_okq (⟨"LevelTablesModel", "spanOf", "(I)I"⟩, 35) := ⟨⟨by decide +kernel, by decide +kernel⟩, List.mem_of_getElem? (i := 679) (by decide +kernel), List.mem_of_getElem? (i := 972) (by decide +kernel), List.mem_of_getElem? (i := 973) (by decide +kernel)⟩
def lw_privs_4 : List (MethodName × Nat) := [(⟨"LevelTablesModel", "listAll", "()V"⟩, 35), (⟨"LevelTablesModel", "list", "(III)V"⟩, 35), (⟨"LevelTablesModel", "listFrom", "(IIJ)V"⟩, 35), (⟨"LevelTablesModel", "isSpanned", "(I)Z"⟩, 35), (⟨"LevelTablesModel", "curves", "()I"⟩, 35), (⟨"LevelTablesModel", "filled", "(I)I"⟩, 35), (⟨"LevelTablesModel", "isInside", "(I)Z"⟩, 35), (⟨"LevelTablesModel", "spanOf", "(I)I"⟩, 35)]
theorem lw_r4 : ∀ q ∈ lw_privs_4, lw_okq q := List.forall_mem_cons.mpr ⟨lw_p48, List.forall_mem_cons.mpr ⟨lw_p49, List.forall_mem_cons.mpr ⟨lw_p50, List.forall_mem_cons.mpr ⟨lw_p51, List.forall_mem_cons.mpr ⟨lw_p52, List.forall_mem_cons.mpr ⟨lw_p53, List.forall_mem_cons.mpr ⟨lw_p54, List.forall_mem_cons.mpr ⟨lw_p55, fun _ h => absurd h List.not_mem_nil⟩⟩⟩⟩⟩⟩⟩⟩
def lw_privs : List (MethodName × Nat) := lw_privs_1 ++ (lw_privs_2 ++ (lw_privs_3 ++ (lw_privs_4)))
def lw_tbl : List Cond := k2_sels lw_privs ++ tables_1
theorem lw_privs_ok : ∀ q ∈ lw_privs, lw_okq q := by
  show ∀ q ∈ lw_privs_1 ++ (lw_privs_2 ++ (lw_privs_3 ++ (lw_privs_4))), lw_okq q
  exact List.forall_mem_append.mpr ⟨lw_r1, List.forall_mem_append.mpr ⟨lw_r2, List.forall_mem_append.mpr ⟨lw_r3, lw_r4⟩⟩⟩
end
section
abbrev R_Model : String := "LevelTablesModel"
abbrev R_LT : String := "LevelTables"
abbrev R_Site : String := "LevelTables$Site"
abbrev R_Spans : String := "LevelTables$Spans"
abbrev R_Reach : String := "LevelTables$Reach"
abbrev R_Table : String := "LevelTables$Table"
abbrev R_Curves : String := "LevelTables$Curves"
abbrev R_Lorry : String := "LevelTables$Lorry"
abbrev R_Search : String := "LevelTables$Search"
abbrev R_Law : String := "LevelTablesLaw"
abbrev R_Math : String := "java/lang/Math"
abbrev R_Arrays : String := "java/util/Arrays"
abbrev R_Integer : String := "java/lang/Integer"
abbrev R_System : String := "java/lang/System"
abbrev R_Object : String := "java/lang/Object"
def T_Model : u_T := fun k => match k with
  | 0 => ("LevelTablesModel", "n", "I", true)
  | 1 => ("LevelTablesModel", "m", "I", true)
  | 2 => ("LevelTablesModel", "grounds", "[I", true)
  | 3 => ("LevelTablesModel", "cuts", "[I", true)
  | 4 => ("LevelTablesModel", "fills", "[I", true)
  | 5 => ("LevelTablesModel", "fixedAt", "[I", true)
  | 6 => ("LevelTablesModel", "movedAt", "[I", true)
  | 7 => ("LevelTablesModel", "most", "I", false)
  | 8 => ("LevelTablesModel", "change", "I", false)
  | 9 => ("LevelTablesModel", "falls", "I", false)
  | 10 => ("LevelTablesModel", "spans", "I", false)
  | 11 => ("LevelTablesModel", "froms", "[I", true)
  | 12 => ("LevelTablesModel", "tos", "[I", true)
  | 13 => ("LevelTablesModel", "kinds", "[I", true)
  | 14 => ("LevelTablesModel", "cents", "[J", true)
  | 15 => ("LevelTablesModel", "costs", "[J", true)
  | 16 => ("LevelTablesModel", "sums", "[I", true)
  | 17 => ("LevelTablesModel", "lists", "[J", true)
  | 18 => ("LevelTablesModel", "many", "[I", true)
  | 19 => ("LevelTablesModel", "knowsOthers", "Z", false)
  | 20 => ("LevelTablesModel", "otherCount", "I", false)
  | 21 => ("LevelTablesModel", "others", "[J", true)
  | 22 => ("LevelTablesModel", "reached", "[Z", true)
  | 23 => ("LevelTablesModel", "next", "[Z", true)
  | 24 => ("LevelTablesModel", "has", "Z", false)
  | 25 => ("LevelTablesModel", "levels", "[I", true)
  | 26 => ("LevelTablesModel", "used", "I", false)
  | 27 => ("LevelTablesModel", "cost", "J", false)
  | 28 => ("LevelTablesModel", "halves", "[I", true)
  | 29 => ("LevelTablesModel", "speed", "I", false)
  | 30 => ("LevelTablesModel", "top", "I", false)
  | 31 => ("LevelTablesModel", "least", "I", false)
  | 32 => ("LevelTablesModel", "loss", "I", false)
  | 33 => ("LevelTablesModel", "gain", "I", false)
  | _ => ("LevelTablesModel", "speeds", "[I", true)
def ty_Model : Nat → FieldType := fun k => match k with
  | 0 => .int
  | 1 => .int
  | 2 => .array .int
  | 3 => .array .int
  | 4 => .array .int
  | 5 => .array .int
  | 6 => .array .int
  | 7 => .int
  | 8 => .int
  | 9 => .int
  | 10 => .int
  | 11 => .array .int
  | 12 => .array .int
  | 13 => .array .int
  | 14 => .array .long
  | 15 => .array .long
  | 16 => .array .int
  | 17 => .array .long
  | 18 => .array .int
  | 19 => .boolean
  | 20 => .int
  | 21 => .array .long
  | 22 => .array .boolean
  | 23 => .array .boolean
  | 24 => .boolean
  | 25 => .array .int
  | 26 => .int
  | 27 => .long
  | 28 => .array .int
  | 29 => .int
  | 30 => .int
  | 31 => .int
  | 32 => .int
  | 33 => .int
  | _ => .array .int
theorem nm_Model : ∀ a, a < 35 → ∀ b, b < 35 → a ≠ b → (T_Model a).2.1 ≠ (T_Model b).2.1 := by decide +kernel
theorem tyok_Model : ∀ k, k < 35 → parseFieldDescriptor (T_Model k).2.2.1 = some (ty_Model k) := by decide +kernel
def T_LT : u_T := fun k => match k with
  | 0 => ("LevelTables", "site", "LLevelTables$Site;", true)
  | 1 => ("LevelTables", "spans", "LLevelTables$Spans;", true)
  | 2 => ("LevelTables", "reach", "LLevelTables$Reach;", true)
  | 3 => ("LevelTables", "table", "LLevelTables$Table;", true)
  | 4 => ("LevelTables", "curves", "LLevelTables$Curves;", true)
  | 5 => ("LevelTables", "driven", "LLevelTables$Lorry;", true)
  | 6 => ("LevelTables", "best", "LLevelTables$Search;", false)
  | 7 => ("LevelTables", "cheapest", "LLevelTables$Search;", false)
  | 8 => ("LevelTables", "cheapestKnown", "Z", false)
  | _ => ("LevelTables", "curveSpeed", "I", false)
def ty_LT : Nat → FieldType := fun k => match k with
  | 0 => .object "LevelTables$Site"
  | 1 => .object "LevelTables$Spans"
  | 2 => .object "LevelTables$Reach"
  | 3 => .object "LevelTables$Table"
  | 4 => .object "LevelTables$Curves"
  | 5 => .object "LevelTables$Lorry"
  | 6 => .object "LevelTables$Search"
  | 7 => .object "LevelTables$Search"
  | 8 => .boolean
  | _ => .int
theorem nm_LT : ∀ a, a < 10 → ∀ b, b < 10 → a ≠ b → (T_LT a).2.1 ≠ (T_LT b).2.1 := by decide +kernel
theorem tyok_LT : ∀ k, k < 10 → parseFieldDescriptor (T_LT k).2.2.1 = some (ty_LT k) := by decide +kernel
def T_Site : u_T := fun k => match k with
  | 0 => ("LevelTables$Site", "last", "I", true)
  | 1 => ("LevelTables$Site", "top", "I", true)
  | 2 => ("LevelTables$Site", "ground", "[I", true)
  | 3 => ("LevelTables$Site", "cut", "[I", true)
  | 4 => ("LevelTables$Site", "fill", "[I", true)
  | 5 => ("LevelTables$Site", "fixedAt", "[I", true)
  | 6 => ("LevelTables$Site", "movedTo", "[I", true)
  | 7 => ("LevelTables$Site", "most", "I", false)
  | 8 => ("LevelTables$Site", "change", "I", false)
  | _ => ("LevelTables$Site", "falls", "I", false)
def ty_Site : Nat → FieldType := fun k => match k with
  | 0 => .int
  | 1 => .int
  | 2 => .array .int
  | 3 => .array .int
  | 4 => .array .int
  | 5 => .array .int
  | 6 => .array .int
  | 7 => .int
  | 8 => .int
  | _ => .int
theorem nm_Site : ∀ a, a < 10 → ∀ b, b < 10 → a ≠ b → (T_Site a).2.1 ≠ (T_Site b).2.1 := by decide +kernel
theorem tyok_Site : ∀ k, k < 10 → parseFieldDescriptor (T_Site k).2.2.1 = some (ty_Site k) := by decide +kernel
def T_Spans : u_T := fun k => match k with
  | 0 => ("LevelTables$Spans", "count", "I", false)
  | 1 => ("LevelTables$Spans", "from", "[I", true)
  | 2 => ("LevelTables$Spans", "to", "[I", true)
  | 3 => ("LevelTables$Spans", "kind", "[I", true)
  | _ => ("LevelTables$Spans", "cents", "[J", true)
def ty_Spans : Nat → FieldType := fun k => match k with
  | 0 => .int
  | 1 => .array .int
  | 2 => .array .int
  | 3 => .array .int
  | _ => .array .long
theorem nm_Spans : ∀ a, a < 5 → ∀ b, b < 5 → a ≠ b → (T_Spans a).2.1 ≠ (T_Spans b).2.1 := by decide +kernel
theorem tyok_Spans : ∀ k, k < 5 → parseFieldDescriptor (T_Spans k).2.2.1 = some (ty_Spans k) := by decide +kernel
def T_Reach : u_T := fun k => match k with
  | 0 => ("LevelTables$Reach", "site", "LLevelTables$Site;", true)
  | 1 => ("LevelTables$Reach", "here", "[J", false)
  | _ => ("LevelTables$Reach", "there", "[J", false)
def ty_Reach : Nat → FieldType := fun k => match k with
  | 0 => .object "LevelTables$Site"
  | 1 => .array .long
  | _ => .array .long
theorem nm_Reach : ∀ a, a < 3 → ∀ b, b < 3 → a ≠ b → (T_Reach a).2.1 ≠ (T_Reach b).2.1 := by decide +kernel
theorem tyok_Reach : ∀ k, k < 3 → parseFieldDescriptor (T_Reach k).2.2.1 = some (ty_Reach k) := by decide +kernel
def T_Table : u_T := fun k => match k with
  | 0 => ("LevelTables$Table", "site", "LLevelTables$Site;", true)
  | 1 => ("LevelTables$Table", "spans", "LLevelTables$Spans;", true)
  | 2 => ("LevelTables$Table", "levels", "[I", true)
  | 3 => ("LevelTables$Table", "spanOfStep", "[I", true)
  | 4 => ("LevelTables$Table", "atHand", "Z", false)
  | 5 => ("LevelTables$Table", "usedBits", "I", false)
  | _ => ("LevelTables$Table", "cents", "J", false)
def ty_Table : Nat → FieldType := fun k => match k with
  | 0 => .object "LevelTables$Site"
  | 1 => .object "LevelTables$Spans"
  | 2 => .array .int
  | 3 => .array .int
  | 4 => .boolean
  | 5 => .int
  | _ => .long
theorem nm_Table : ∀ a, a < 7 → ∀ b, b < 7 → a ≠ b → (T_Table a).2.1 ≠ (T_Table b).2.1 := by decide +kernel
theorem tyok_Table : ∀ k, k < 7 → parseFieldDescriptor (T_Table k).2.2.1 = some (ty_Table k) := by decide +kernel
def T_Curves : u_T := fun k => match k with
  | 0 => ("LevelTables$Curves", "halves", "[I", true)
  | _ => ("LevelTables$Curves", "count", "I", false)
def ty_Curves : Nat → FieldType := fun k => match k with
  | 0 => .array .int
  | _ => .int
theorem nm_Curves : ∀ a, a < 2 → ∀ b, b < 2 → a ≠ b → (T_Curves a).2.1 ≠ (T_Curves b).2.1 := by decide +kernel
theorem tyok_Curves : ∀ k, k < 2 → parseFieldDescriptor (T_Curves k).2.2.1 = some (ty_Curves k) := by decide +kernel
def T_Lorry : u_T := fun k => match k with
  | 0 => ("LevelTables$Lorry", "top", "I", false)
  | 1 => ("LevelTables$Lorry", "least", "I", false)
  | 2 => ("LevelTables$Lorry", "loss", "I", false)
  | _ => ("LevelTables$Lorry", "gain", "I", false)
def ty_Lorry : Nat → FieldType := fun k => match k with
  | 0 => .int
  | 1 => .int
  | 2 => .int
  | _ => .int
theorem nm_Lorry : ∀ a, a < 4 → ∀ b, b < 4 → a ≠ b → (T_Lorry a).2.1 ≠ (T_Lorry b).2.1 := by decide +kernel
theorem tyok_Lorry : ∀ k, k < 4 → parseFieldDescriptor (T_Lorry k).2.2.1 = some (ty_Lorry k) := by decide +kernel
def T_Search : u_T := fun k => match k with
  | 0 => ("LevelTables$Search", "site", "LLevelTables$Site;", true)
  | 1 => ("LevelTables$Search", "spans", "LLevelTables$Spans;", true)
  | 2 => ("LevelTables$Search", "width", "I", true)
  | 3 => ("LevelTables$Search", "ways", "I", true)
  | 4 => ("LevelTables$Search", "traced", "Z", true)
  | 5 => ("LevelTables$Search", "costUnit", "J", true)
  | 6 => ("LevelTables$Search", "sizeUnit", "J", true)
  | 7 => ("LevelTables$Search", "layers", "[[J", true)
  | 8 => ("LevelTables$Search", "leaving", "[J", true)
  | 9 => ("LevelTables$Search", "least", "[J", true)
  | _ => ("LevelTables$Search", "startLevel", "I", false)
def ty_Search : Nat → FieldType := fun k => match k with
  | 0 => .object "LevelTables$Site"
  | 1 => .object "LevelTables$Spans"
  | 2 => .int
  | 3 => .int
  | 4 => .boolean
  | 5 => .long
  | 6 => .long
  | 7 => .array (.array .long)
  | 8 => .array .long
  | 9 => .array .long
  | _ => .int
theorem nm_Search : ∀ a, a < 11 → ∀ b, b < 11 → a ≠ b → (T_Search a).2.1 ≠ (T_Search b).2.1 := by decide +kernel
theorem tyok_Search : ∀ k, k < 11 → parseFieldDescriptor (T_Search k).2.2.1 = some (ty_Search k) := by decide +kernel
def zcl : List vw_C := [(R_Model, T_Model, 35), (R_LT, T_LT, 10), (R_Site, T_Site, 10), (R_Spans, T_Spans, 5), (R_Reach, T_Reach, 3), (R_Table, T_Table, 7), (R_Curves, T_Curves, 2), (R_Lorry, T_Lorry, 4), (R_Search, T_Search, 11)]
/-- the words that a callee finds as its caller has them -/
def zws : List Cond := lw_tbl.filter goodWord
def ztl : List FieldType := [.int, .long, .boolean, .array .long]
theorem in_Model : ∀ w ∈ u_ws R_Model T_Model 35, w ∈ zws := by
  intro w hw
  have e : u_ws R_Model T_Model 35 = [776, 778, 780, 782, 784, 786, 788, 790, 792, 794, 796, 798, 800, 802, 804, 806, 808, 810, 812, 814, 816, 818, 820, 822, 824, 826, 828, 830, 832, 834, 836, 838, 840, 842, 844].filterMap (fun i => lw_tbl[i]?) := by decide +kernel
  rw [e] at hw
  have g : ([776, 778, 780, 782, 784, 786, 788, 790, 792, 794, 796, 798, 800, 802, 804, 806, 808, 810, 812, 814, 816, 818, 820, 822, 824, 826, 828, 830, 832, 834, 836, 838, 840, 842, 844].filterMap (fun i => lw_tbl[i]?)).all goodWord = true := by decide +kernel
  have g1 := List.all_eq_true.mp g w hw
  obtain ⟨i, -, hi⟩ := List.mem_filterMap.mp hw
  exact List.mem_filter.mpr ⟨List.mem_of_getElem? hi, g1⟩
theorem in_LT : ∀ w ∈ u_ws R_LT T_LT 10, w ∈ zws := by
  intro w hw
  have e : u_ws R_LT T_LT 10 = [276, 278, 280, 282, 284, 286, 288, 290, 292, 294].filterMap (fun i => lw_tbl[i]?) := by decide +kernel
  rw [e] at hw
  have g : ([276, 278, 280, 282, 284, 286, 288, 290, 292, 294].filterMap (fun i => lw_tbl[i]?)).all goodWord = true := by decide +kernel
  have g1 := List.all_eq_true.mp g w hw
  obtain ⟨i, -, hi⟩ := List.mem_filterMap.mp hw
  exact List.mem_filter.mpr ⟨List.mem_of_getElem? hi, g1⟩
theorem in_Site : ∀ w ∈ u_ws R_Site T_Site 10, w ∈ zws := by
  intro w hw
  have e : u_ws R_Site T_Site 10 = [121, 123, 125, 127, 129, 131, 133, 135, 137, 139].filterMap (fun i => lw_tbl[i]?) := by decide +kernel
  rw [e] at hw
  have g : ([121, 123, 125, 127, 129, 131, 133, 135, 137, 139].filterMap (fun i => lw_tbl[i]?)).all goodWord = true := by decide +kernel
  have g1 := List.all_eq_true.mp g w hw
  obtain ⟨i, -, hi⟩ := List.mem_filterMap.mp hw
  exact List.mem_filter.mpr ⟨List.mem_of_getElem? hi, g1⟩
theorem in_Spans : ∀ w ∈ u_ws R_Spans T_Spans 5, w ∈ zws := by
  intro w hw
  have e : u_ws R_Spans T_Spans 5 = [161, 163, 165, 167, 169].filterMap (fun i => lw_tbl[i]?) := by decide +kernel
  rw [e] at hw
  have g : ([161, 163, 165, 167, 169].filterMap (fun i => lw_tbl[i]?)).all goodWord = true := by decide +kernel
  have g1 := List.all_eq_true.mp g w hw
  obtain ⟨i, -, hi⟩ := List.mem_filterMap.mp hw
  exact List.mem_filter.mpr ⟨List.mem_of_getElem? hi, g1⟩
theorem in_Reach : ∀ w ∈ u_ws R_Reach T_Reach 3, w ∈ zws := by
  intro w hw
  have e : u_ws R_Reach T_Reach 3 = [182, 184, 186].filterMap (fun i => lw_tbl[i]?) := by decide +kernel
  rw [e] at hw
  have g : ([182, 184, 186].filterMap (fun i => lw_tbl[i]?)).all goodWord = true := by decide +kernel
  have g1 := List.all_eq_true.mp g w hw
  obtain ⟨i, -, hi⟩ := List.mem_filterMap.mp hw
  exact List.mem_filter.mpr ⟨List.mem_of_getElem? hi, g1⟩
theorem in_Table : ∀ w ∈ u_ws R_Table T_Table 7, w ∈ zws := by
  intro w hw
  have e : u_ws R_Table T_Table 7 = [213, 215, 217, 219, 221, 223, 225].filterMap (fun i => lw_tbl[i]?) := by decide +kernel
  rw [e] at hw
  have g : ([213, 215, 217, 219, 221, 223, 225].filterMap (fun i => lw_tbl[i]?)).all goodWord = true := by decide +kernel
  have g1 := List.all_eq_true.mp g w hw
  obtain ⟨i, -, hi⟩ := List.mem_filterMap.mp hw
  exact List.mem_filter.mpr ⟨List.mem_of_getElem? hi, g1⟩
theorem in_Curves : ∀ w ∈ u_ws R_Curves T_Curves 2, w ∈ zws := by
  intro w hw
  have e : u_ws R_Curves T_Curves 2 = [238, 240].filterMap (fun i => lw_tbl[i]?) := by decide +kernel
  rw [e] at hw
  have g : ([238, 240].filterMap (fun i => lw_tbl[i]?)).all goodWord = true := by decide +kernel
  have g1 := List.all_eq_true.mp g w hw
  obtain ⟨i, -, hi⟩ := List.mem_filterMap.mp hw
  exact List.mem_filter.mpr ⟨List.mem_of_getElem? hi, g1⟩
theorem in_Lorry : ∀ w ∈ u_ws R_Lorry T_Lorry 4, w ∈ zws := by
  intro w hw
  have e : u_ws R_Lorry T_Lorry 4 = [257, 259, 261, 263].filterMap (fun i => lw_tbl[i]?) := by decide +kernel
  rw [e] at hw
  have g : ([257, 259, 261, 263].filterMap (fun i => lw_tbl[i]?)).all goodWord = true := by decide +kernel
  have g1 := List.all_eq_true.mp g w hw
  obtain ⟨i, -, hi⟩ := List.mem_filterMap.mp hw
  exact List.mem_filter.mpr ⟨List.mem_of_getElem? hi, g1⟩
theorem in_Search : ∀ w ∈ u_ws R_Search T_Search 11, w ∈ zws := by
  intro w hw
  have e : u_ws R_Search T_Search 11 = [433, 435, 437, 439, 441, 443, 445, 447, 449, 451, 453].filterMap (fun i => lw_tbl[i]?) := by decide +kernel
  rw [e] at hw
  have g : ([433, 435, 437, 439, 441, 443, 445, 447, 449, 451, 453].filterMap (fun i => lw_tbl[i]?)).all goodWord = true := by decide +kernel
  have g1 := List.all_eq_true.mp g w hw
  obtain ⟨i, -, hi⟩ := List.mem_filterMap.mp hw
  exact List.mem_filter.mpr ⟨List.mem_of_getElem? hi, g1⟩
end
section
/-! A PURE HEAP for the whole run: cells by their addresses, and the next free address. -/
/-- a cell: an array (number of its kind in the list of kinds, length, contents) or an object (number of its class, fields) -/
abbrev zE : Type := (Nat × vp_A) ⊕ (Nat × List Value)
abbrev zH : Type := (Nat → Option zE) × Nat
def z_at (D : va_G) (cl : List vw_C) (tys : List (ClassId × FieldType)) (a : Nat) (e : zE) (H : Heap) : Prop := match e with
  | .inl x => ∃ q : ClassId × FieldType, tys[x.1]? = some q ∧ H[a]? = some (vp_cell q.1 x.2)
  | .inr o => ∃ r : vw_C, cl[o.1]? = some r ∧ o.2.length = r.2.2 ∧ t_OB a (D.1 o.1) r.2.2 (D.2 o.1) H (vp_V o.2)
def z_Rep (D : va_G) (cl : List vw_C) (tys : List (ClassId × FieldType)) (h : zH) (H : Heap) : Prop := H.size = h.2 ∧ ∀ (a : Nat) (e : zE), h.1 a = some e → z_at D cl tys a e H
/-- the cells of a heap, and those still to come -/
def z_A (h : zH) : Nat → Prop := fun q => (h.1 q).isSome = true ∨ h.2 ≤ q
theorem z_at.kept {D : va_G} {cl : List vw_C} {tys : List (ClassId × FieldType)} {a : Nat} {e : zE} {H H1 : Heap} (h : z_at D cl tys a e H) (hq : H1[a]? = H[a]?) : z_at D cl tys a e H1 := by
  cases e with
  | inl x =>
    obtain ⟨q, h1, h2⟩ := h
    exact ⟨q, h1, hq.trans h2⟩
  | inr o =>
    obtain ⟨r, h1, h2, h3⟩ := h
    exact ⟨r, h1, h2, h3.kept hq⟩
theorem z_at.lt {D : va_G} {cl : List vw_C} {tys : List (ClassId × FieldType)} {a : Nat} {e : zE} {H : Heap} (h : z_at D cl tys a e H) : a < H.size := by
  cases e with
  | inl x =>
    obtain ⟨q, h1, h2⟩ := h
    exact (Array.getElem?_eq_some_iff.mp h2).1
  | inr o =>
    obtain ⟨r, h1, h2, cell, h3, h4⟩ := h
    exact (Array.getElem?_eq_some_iff.mp h3).1
/-- one cell changed -/
def z_set (h : zH) (a : Nat) (e : zE) : zH := (fun q => if q = a then some e else h.1 q, h.2)
/-- one cell more -/
def z_push (h : zH) (e : zE) : zH := (fun q => if q = h.2 then some e else h.1 q, h.2 + 1)
theorem z_Rep.set {D : va_G} {cl : List vw_C} {tys : List (ClassId × FieldType)} {h : zH} {H H1 : Heap} {a : Nat} {e : zE} (hR : z_Rep D cl tys h H) (hz : H1.size = H.size) (ho : ∀ q, q ≠ a → H1[q]? = H[q]?) (he : z_at D cl tys a e H1) : z_Rep D cl tys (z_set h a e) H1 := by
  refine ⟨hz.trans hR.1, fun q x hq => ?_⟩
  by_cases hqa : q = a
  · subst hqa
    have : e = x := by simpa [z_set] using hq
    rw [← this]; exact he
  · have : h.1 q = some x := by simpa [z_set, hqa] using hq
    exact (hR.2 q x this).kept (ho q hqa)
theorem z_Rep.push {D : va_G} {cl : List vw_C} {tys : List (ClassId × FieldType)} {h : zH} {H H1 : Heap} {e : zE} (hR : z_Rep D cl tys h H) (hz : H1.size = H.size + 1) (ho : ∀ q, q < H.size → H1[q]? = H[q]?) (he : z_at D cl tys h.2 e H1) : z_Rep D cl tys (z_push h e) H1 := by
  refine ⟨by rw [hz, hR.1]; rfl, fun q x hq => ?_⟩
  by_cases hqa : q = h.2
  · subst hqa
    have : e = x := by simpa [z_push] using hq
    rw [← this]; exact he
  · have h1 : h.1 q = some x := by simpa [z_push, hqa] using hq
    exact (hR.2 q x h1).kept (ho q (hR.2 q x h1).lt)
/-! what a program reads and writes -/
def zgI (h : zH) (a ci k : Nat) : Option Int32 := match h.1 a with
  | some (.inr (c, fs)) => if c = ci then (match fs[k]? with | some (.int x) => some x | _ => none) else none
  | _ => none
def zgJ (h : zH) (a ci k : Nat) : Option Int64 := match h.1 a with
  | some (.inr (c, fs)) => if c = ci then (match fs[k]? with | some (.long x) => some x | _ => none) else none
  | _ => none
def zgR (h : zH) (a ci k : Nat) : Option Nat := match h.1 a with
  | some (.inr (c, fs)) => if c = ci then (match fs[k]? with | some (.ref x) => some x | _ => none) else none
  | _ => none
def zgQ (h : zH) (a ci k : Nat) : Option (Option Nat) := match h.1 a with
  | some (.inr (c, fs)) => if c = ci then (match fs[k]? with | some (.ref x) => some (some x) | some .null => some none | _ => none) else none
  | _ => none
/-- a field is put -/
def zp (h : zH) (a ci k : Nat) (v : Value) : Option zH := match h.1 a with
  | some (.inr (c, fs)) => if c = ci ∧ k < fs.length then some (z_set h a (.inr (c, fs.set k v))) else none
  | _ => none
/-- an int of an array of kind t -/
def zaI (h : zH) (t a : Nat) (i : Int32) : Option Int32 := match h.1 a with
  | some (.inl (u, n, .inl f)) => if u = t ∧ ¬ (i < 0 ∨ n ≤ i.toNatClampNeg) then some (f i.toNatClampNeg) else none
  | _ => none
def zaJ (h : zH) (t a : Nat) (i : Int32) : Option Int64 := match h.1 a with
  | some (.inl (u, n, .inr (.inl f))) => if u = t ∧ ¬ (i < 0 ∨ n ≤ i.toNatClampNeg) then some (f i.toNatClampNeg) else none
  | _ => none
def zaR (h : zH) (t a : Nat) (i : Int32) : Option Nat := match h.1 a with
  | some (.inl (u, n, .inr (.inr (.inr (.inr f))))) => if u = t ∧ ¬ (i < 0 ∨ n ≤ i.toNatClampNeg) then f i.toNatClampNeg else none
  | _ => none
def zsI (h : zH) (t a : Nat) (i x : Int32) : Option zH := match h.1 a with
  | some (.inl (u, n, .inl f)) => if u = t ∧ ¬ (i < 0 ∨ n ≤ i.toNatClampNeg) then some (z_set h a (.inl (u, n, .inl (upd f i.toNatClampNeg x)))) else none
  | _ => none
def zsJ (h : zH) (t a : Nat) (i : Int32) (x : Int64) : Option zH := match h.1 a with
  | some (.inl (u, n, .inr (.inl f))) => if u = t ∧ ¬ (i < 0 ∨ n ≤ i.toNatClampNeg) then some (z_set h a (.inl (u, n, .inr (.inl (vp_updL f i.toNatClampNeg x))))) else none
  | _ => none
def zlen (h : zH) (t a : Nat) : Option Int32 := match h.1 a with
  | some (.inl (u, n, _)) => if u = t then some (Int32.ofNat n) else none
  | _ => none

/-! the words that a callee finds as its caller has them; and what of the rest is carried along -/
def z_nest (w : Cond) : Bool := match w with
  | .methodLinkNest .. => true
  | _ => false
def znw : List Cond := lw_tbl.filter z_nest
/-- the words of nest mates hold; the components of the kind 3 are of the kind 1 -/
def zN (T : List (ClassId × FieldType)) (U : State) : Prop := (∀ w ∈ znw, va_Nw w U) ∧ ∀ (q1 q3 : ClassId × FieldType), T[1]? = some q1 → T[3]? = some q3 → ∃ kA : Class, U.vm.classes[q3.1]? = some kA ∧ kA.kind = .array q1.1 (.array .long)
theorem zN.same {T : List (ClassId × FieldType)} {u U : State} (h : zN T u) (hvm : u.vm = U.vm) : zN T U := by
  refine ⟨fun w hw => ?_, fun q1 q3 h1 h3 => by rw [← hvm]; exact h.2 q1 q3 h1 h3⟩
  have hz := (List.mem_filter.mp hw).2
  have h0 := h.1 w hw
  cases w <;> first | exact va_Nw.same rfl hvm h0 | (simp [z_nest] at hz)
theorem zN.warm {T : List (ClassId × FieldType)} {u U : State} (h : zN T u) (hW : u.WarmedH U.vm) : zN T U := by
  refine ⟨fun w hw => ?_, fun q1 q3 h1 h3 => ?_⟩
  · have hz := (List.mem_filter.mp hw).2
    have h0 := h.1 w hw
    cases w <;> first | exact va_Nw.warmM hW h0 | (simp [z_nest] at hz)
  · obtain ⟨kA, g1, g2⟩ := h.2 q1 q3 h1 h3
    obtain ⟨k', hk', he⟩ := hW.alike.2.2 _ _ g1
    exact ⟨k', hk', by rw [he]; exact g2⟩
end
section
/-! ROWS OVER THE PURE HEAP. A method's walk: zX, what stays the same; Zt, from this place the machine comes to the method's end. -/
abbrev zX : Type := Program × Launch × Env × Room × State × MethodId × Array Value × List Frame × Method × Code × va_G × List (ClassId × FieldType) × (Nat → Prop) × Heap × (State → Prop)
abbrev x_p (X : zX) := X.1
abbrev x_l (X : zX) := X.2.1
abbrev x_e (X : zX) := X.2.2.1
abbrev x_R (X : zX) := X.2.2.2.1
abbrev x_s (X : zX) := X.2.2.2.2.1
abbrev x_m (X : zX) := X.2.2.2.2.2.1
abbrev x_a (X : zX) := X.2.2.2.2.2.2.1
abbrev x_b (X : zX) := X.2.2.2.2.2.2.2.1
abbrev x_t (X : zX) := X.2.2.2.2.2.2.2.2.1
abbrev x_c (X : zX) := X.2.2.2.2.2.2.2.2.2.1
abbrev x_D (X : zX) := X.2.2.2.2.2.2.2.2.2.2.1
abbrev x_T (X : zX) := X.2.2.2.2.2.2.2.2.2.2.2.1
abbrev x_A (X : zX) := X.2.2.2.2.2.2.2.2.2.2.2.2.1
abbrev x_H (X : zX) := X.2.2.2.2.2.2.2.2.2.2.2.2.2.1
abbrev x_Q (X : zX) := X.2.2.2.2.2.2.2.2.2.2.2.2.2.2
def zWW (X : zX) (H : Heap) (locs : List Loc) (k n : Nat) (g : JFrame) : Prop := W (x_p X) (x_l X) (x_e X) (x_R X) (x_s X) (x_m X) (x_a X) (x_b X) (x_t X) (x_c X) H locs k n (x_Q X) g
/-- what a heap holds, and what has stayed -/
def zI (X : zX) (h : zH) (H : Heap) (locs : List Loc) : Prop := z_Rep (x_D X) zcl (x_T X) h H ∧ (∀ a, (h.1 a).isSome = true → x_A X a) ∧ va_S (x_A X) (x_H X) H locs
def Zt (X : zX) (nL k n pc : Nat) (lv : List (Nat × Value)) (st : List Value) (h : zH) : Prop :=
  ∀ (H : Heap) (locs : List Loc) (ls : Array Slot), zI X h H locs → lv_has ls nL lv → zWW X H locs k n (F0 (x_m X) pc ls st)
/-- what a walk stands on -/
def zB (X : zX) (cc : ByteArray) (nL : Nat) (own : String) (rm : Room) : Prop :=
  CallFix (x_p X) (x_m X) (x_c X) cc nL (x_s X) (x_a X) zws own ∧ va_K (x_D X) zcl (x_T X) (x_s X) ∧ (x_T X).map (fun q => q.2) = ztl ∧ x_R X = rm ∧ (∀ q, (x_H X).size ≤ q → x_A X q) ∧ zN (x_T X) (x_s X)
def zPost (D : va_G) (T : List (ClassId × FieldType)) (h0 : zH) (r : Option Value) (h1 : zH) : Array Value → State → Outcome → State → Prop :=
  fun _ st oc t => oc = .returned r ∧ z_Rep D zcl T h1 t.heap ∧ (∀ a, (h1.1 a).isSome = true → z_A h0 a) ∧ va_F (z_A h0) st t
def zR (X : zX) (ret : Option FieldType) (rm : Room) (h0 : zH) (r : Option Value) (h1 : zH) : Prop :=
  (x_t X).sig.returnType = ret ∧ (x_t X).locks = false ∧ x_A X = z_A h0 ∧ x_H X = (x_s X).heap ∧ x_Q X = MQ (x_b X) (zPost (x_D X) (x_T X) h0 r h1) (x_a X) (x_s X) rm.cells rm.slots (z_A h0)
section ZROWS
variable {X : zX} {cc : ByteArray} {nL : Nat} {own : String} {rm : Room} {k n pc : Nat} {lv lv' : List (Nat × Value)} {st : List Value} {h : zH}
/-- instructions that change the stack alone -/
theorem z_iconst (C : zB X cc nL own rm) {i : Int} {v : Int32} (d : decode cc pc = .ok (.iconst i, 1)) (hv : Int32.ofInt i = v) (K : Zt X nL k n (pc + 1) lv (.int v :: st) h) : Zt X nL k n pc lv st h :=
  fun H locs ls hI hl => lv_iconst C.1.1 C.1.2.1 d hv (K H locs ls hI hl)
theorem z_bipush (C : zB X cc nL own rm) {i : Int} {v : Int32} (d : decode cc pc = .ok (.bipush i, 2)) (hv : (Int8.ofInt i).toInt32 = v) (K : Zt X nL k n (pc + 2) lv (.int v :: st) h) : Zt X nL k n pc lv st h :=
  fun H locs ls hI hl => lv_bipush C.1.1 C.1.2.1 d hv (K H locs ls hI hl)
theorem z_sipush (C : zB X cc nL own rm) {i : Int} {v : Int32} (d : decode cc pc = .ok (.sipush i, 3)) (hv : (Int16.ofInt i).toInt32 = v) (K : Zt X nL k n (pc + 3) lv (.int v :: st) h) : Zt X nL k n pc lv st h :=
  fun H locs ls hI hl => lv_sipush C.1.1 C.1.2.1 d hv (K H locs ls hI hl)
theorem z_ldc (C : zB X cc nL own rm) {i : Nat} {v : Int32} (d : decode cc pc = .ok (.ldc i, 2)) (w : Jvm.Cond.constant own i v ∈ zws) (K : Zt X nL k n (pc + 2) lv (.int v :: st) h) : Zt X nL k n pc lv st h :=
  fun H locs ls hI hl => lv_ldc C.1.1 C.1.2.1 C.1.2.2.2.1 (C.1.2.2.2.2 _ w) d (K H locs ls hI hl)
theorem z_ldcw (C : zB X cc nL own rm) {i : Nat} {v : Int32} (d : decode cc pc = .ok (.ldc_w i, 3)) (w : Jvm.Cond.constant own i v ∈ zws) (K : Zt X nL k n (pc + 3) lv (.int v :: st) h) : Zt X nL k n pc lv st h :=
  fun H locs ls hI hl => lv_ldcw C.1.1 C.1.2.1 C.1.2.2.2.1 (C.1.2.2.2.2 _ w) d (K H locs ls hI hl)
theorem z_ldc2 (C : zB X cc nL own rm) {i : Nat} {v : Int64} (d : decode cc pc = .ok (.ldc2_w i, 3)) (w : Jvm.Cond.constantLong own i v ∈ zws) (K : Zt X nL k n (pc + 3) lv (.long v :: st) h) : Zt X nL k n pc lv st h :=
  fun H locs ls hI hl => lv_ldc2 C.1.1 C.1.2.1 C.1.2.2.2.1 (C.1.2.2.2.2 _ w) d (K H locs ls hI hl)
theorem z_iload_n (C : zB X cc nL own rm) {j : Fin 4} {i : Nat} {x : Int32} (q : Nat) (d : decode cc pc = .ok (.iload_n j, 1)) (hi : (j : Nat) = i) (hq : lv[q]? = some (i, .int x)) (K : Zt X nL k n (pc + 1) lv (.int x :: st) h) : Zt X nL k n pc lv st h :=
  fun H locs ls hI hl => lv_iload_n C.1.1 C.1.2.1 d hi (lv_at hl q hq) (K H locs ls hI hl)
theorem z_iload (C : zB X cc nL own rm) {i : Nat} {x : Int32} (q : Nat) (d : decode cc pc = .ok (.iload i, 2)) (hq : lv[q]? = some (i, .int x)) (K : Zt X nL k n (pc + 2) lv (.int x :: st) h) : Zt X nL k n pc lv st h :=
  fun H locs ls hI hl => lv_iload C.1.1 C.1.2.1 d (lv_at hl q hq) (K H locs ls hI hl)
theorem z_lload_n (C : zB X cc nL own rm) {j : Fin 4} {i : Nat} {x : Int64} (q : Nat) (d : decode cc pc = .ok (.lload_n j, 1)) (hi : (j : Nat) = i) (hq : lv[q]? = some (i, .long x)) (K : Zt X nL k n (pc + 1) lv (.long x :: st) h) : Zt X nL k n pc lv st h :=
  fun H locs ls hI hl => lv_lload_n C.1.1 C.1.2.1 d hi (lv_at hl q hq) (K H locs ls hI hl)
theorem z_lload (C : zB X cc nL own rm) {i : Nat} {x : Int64} (q : Nat) (d : decode cc pc = .ok (.lload i, 2)) (hq : lv[q]? = some (i, .long x)) (K : Zt X nL k n (pc + 2) lv (.long x :: st) h) : Zt X nL k n pc lv st h :=
  fun H locs ls hI hl => lv_lload C.1.1 C.1.2.1 d (lv_at hl q hq) (K H locs ls hI hl)
theorem z_aload_n (C : zB X cc nL own rm) {j : Fin 4} {i x : Nat} (q : Nat) (d : decode cc pc = .ok (.aload_n j, 1)) (hi : (j : Nat) = i) (hq : lv[q]? = some (i, .ref x)) (K : Zt X nL k n (pc + 1) lv (.ref x :: st) h) : Zt X nL k n pc lv st h :=
  fun H locs ls hI hl => lv_aload_n C.1.1 C.1.2.1 d hi (lv_at hl q hq) (K H locs ls hI hl)
theorem z_aload (C : zB X cc nL own rm) {i x : Nat} (q : Nat) (d : decode cc pc = .ok (.aload i, 2)) (hq : lv[q]? = some (i, .ref x)) (K : Zt X nL k n (pc + 2) lv (.ref x :: st) h) : Zt X nL k n pc lv st h :=
  fun H locs ls hI hl => lv_aload C.1.1 C.1.2.1 d (lv_at hl q hq) (K H locs ls hI hl)
theorem z_istore_n (C : zB X cc nL own rm) {j : Fin 4} {i : Nat} {x : Int32} (d : decode cc pc = .ok (.istore_n j, 1)) (hi : (j : Nat) = i) (hn : i < nL) (hv : (i, Value.int x) :: lv.filter (fun q => !(q.1 == i) && !(q.1 + 1 == i && q.2.category == 2)) = lv') (K : Zt X nL k n (pc + 1) lv' st h) : Zt X nL k n pc lv (.int x :: st) h :=
  fun H locs ls hI hl => lv_istore_n C.1.1 C.1.2.1 d hi hl hn hv (fun ls' hl' => K H locs ls' hI hl')
theorem z_istore (C : zB X cc nL own rm) {i : Nat} {x : Int32} (d : decode cc pc = .ok (.istore i, 2)) (hn : i < nL) (hv : (i, Value.int x) :: lv.filter (fun q => !(q.1 == i) && !(q.1 + 1 == i && q.2.category == 2)) = lv') (K : Zt X nL k n (pc + 2) lv' st h) : Zt X nL k n pc lv (.int x :: st) h :=
  fun H locs ls hI hl => lv_istore C.1.1 C.1.2.1 d hl hn hv (fun ls' hl' => K H locs ls' hI hl')
theorem z_lstore_n (C : zB X cc nL own rm) {j : Fin 4} {i : Nat} {x : Int64} (d : decode cc pc = .ok (.lstore_n j, 1)) (hi : (j : Nat) = i) (hn : i + 1 < nL) (hv : (i, Value.long x) :: lv.filter (fun q => !(q.1 == i) && (!(q.1 == i + 1) && !(q.1 + 1 == i && q.2.category == 2))) = lv') (K : Zt X nL k n (pc + 1) lv' st h) : Zt X nL k n pc lv (.long x :: st) h :=
  fun H locs ls hI hl => lv_lstore_n C.1.1 C.1.2.1 d hi hl hn hv (fun ls' hl' => K H locs ls' hI hl')
theorem z_lstore (C : zB X cc nL own rm) {i : Nat} {x : Int64} (d : decode cc pc = .ok (.lstore i, 2)) (hn : i + 1 < nL) (hv : (i, Value.long x) :: lv.filter (fun q => !(q.1 == i) && (!(q.1 == i + 1) && !(q.1 + 1 == i && q.2.category == 2))) = lv') (K : Zt X nL k n (pc + 2) lv' st h) : Zt X nL k n pc lv (.long x :: st) h :=
  fun H locs ls hI hl => lv_lstore C.1.1 C.1.2.1 d hl hn hv (fun ls' hl' => K H locs ls' hI hl')
theorem z_astore_n (C : zB X cc nL own rm) {j : Fin 4} {i x : Nat} (d : decode cc pc = .ok (.astore_n j, 1)) (hi : (j : Nat) = i) (hn : i < nL) (hv : (i, Value.ref x) :: lv.filter (fun q => !(q.1 == i) && !(q.1 + 1 == i && q.2.category == 2)) = lv') (K : Zt X nL k n (pc + 1) lv' st h) : Zt X nL k n pc lv (.ref x :: st) h :=
  fun H locs ls hI hl => lv_astore_n C.1.1 C.1.2.1 d hi hl hn hv (fun ls' hl' => K H locs ls' hI hl')
theorem z_astore (C : zB X cc nL own rm) {i x : Nat} (d : decode cc pc = .ok (.astore i, 2)) (hn : i < nL) (hv : (i, Value.ref x) :: lv.filter (fun q => !(q.1 == i) && !(q.1 + 1 == i && q.2.category == 2)) = lv') (K : Zt X nL k n (pc + 2) lv' st h) : Zt X nL k n pc lv (.ref x :: st) h :=
  fun H locs ls hI hl => lv_astore C.1.1 C.1.2.1 d hl hn hv (fun ls' hl' => K H locs ls' hI hl')
theorem z_iinc (C : zB X cc nL own rm) {i : Nat} {j : Int} {x v : Int32} (q : Nat) (d : decode cc pc = .ok (.iinc i j, 3)) (hq : lv[q]? = some (i, .int x)) (he : x + Int32.ofInt j = v) (hn : i < nL) (hv : (i, Value.int v) :: lv.filter (fun q => !(q.1 == i) && !(q.1 + 1 == i && q.2.category == 2)) = lv') (K : Zt X nL k n (pc + 3) lv' st h) : Zt X nL k n pc lv st h :=
  fun H locs ls hI hl => lv_iinc C.1.1 C.1.2.1 d hl hq he hn hv (fun ls' hl' => K H locs ls' hI hl')
theorem z_iadd (C : zB X cc nL own rm) {x y : Int32} (d : decode cc pc = .ok (.iadd, 1)) (K : Zt X nL k n (pc + 1) lv (.int (x + y) :: st) h) : Zt X nL k n pc lv (.int y :: .int x :: st) h :=
  fun H locs ls hI hl => lv_iadd C.1.1 C.1.2.1 d (K H locs ls hI hl)
theorem z_isub (C : zB X cc nL own rm) {x y : Int32} (d : decode cc pc = .ok (.isub, 1)) (K : Zt X nL k n (pc + 1) lv (.int (x - y) :: st) h) : Zt X nL k n pc lv (.int y :: .int x :: st) h :=
  fun H locs ls hI hl => lv_isub C.1.1 C.1.2.1 d (K H locs ls hI hl)
theorem z_imul (C : zB X cc nL own rm) {x y : Int32} (d : decode cc pc = .ok (.imul, 1)) (K : Zt X nL k n (pc + 1) lv (.int (x * y) :: st) h) : Zt X nL k n pc lv (.int y :: .int x :: st) h :=
  fun H locs ls hI hl => lv_imul C.1.1 C.1.2.1 d (K H locs ls hI hl)
theorem z_iand (C : zB X cc nL own rm) {x y : Int32} (d : decode cc pc = .ok (.iand, 1)) (K : Zt X nL k n (pc + 1) lv (.int (x &&& y) :: st) h) : Zt X nL k n pc lv (.int y :: .int x :: st) h :=
  fun H locs ls hI hl => lv_iand C.1.1 C.1.2.1 d (K H locs ls hI hl)
theorem z_ior (C : zB X cc nL own rm) {x y : Int32} (d : decode cc pc = .ok (.ior, 1)) (K : Zt X nL k n (pc + 1) lv (.int (x ||| y) :: st) h) : Zt X nL k n pc lv (.int y :: .int x :: st) h :=
  fun H locs ls hI hl => lv_ior C.1.1 C.1.2.1 d (K H locs ls hI hl)
theorem z_idiv (C : zB X cc nL own rm) {x y : Int32} (d : decode cc pc = .ok (.idiv, 1)) (hy : ¬ y = 0) (K : Zt X nL k n (pc + 1) lv (.int (x / y) :: st) h) : Zt X nL k n pc lv (.int y :: .int x :: st) h :=
  fun H locs ls hI hl => lv_idiv C.1.1 C.1.2.1 d hy (K H locs ls hI hl)
theorem z_irem (C : zB X cc nL own rm) {x y : Int32} (d : decode cc pc = .ok (.irem, 1)) (hy : ¬ y = 0) (K : Zt X nL k n (pc + 1) lv (.int (x - x / y * y) :: st) h) : Zt X nL k n pc lv (.int y :: .int x :: st) h :=
  fun H locs ls hI hl => lv_irem C.1.1 C.1.2.1 d hy (K H locs ls hI hl)
theorem z_ineg (C : zB X cc nL own rm) {x : Int32} (d : decode cc pc = .ok (.ineg, 1)) (K : Zt X nL k n (pc + 1) lv (.int (-x) :: st) h) : Zt X nL k n pc lv (.int x :: st) h :=
  fun H locs ls hI hl => lv_ineg C.1.1 C.1.2.1 d (K H locs ls hI hl)
theorem z_ishl (C : zB X cc nL own rm) {x y : Int32} (d : decode cc pc = .ok (.ishl, 1)) (K : Zt X nL k n (pc + 1) lv (.int (x <<< (y &&& 31)) :: st) h) : Zt X nL k n pc lv (.int y :: .int x :: st) h :=
  fun H locs ls hI hl => lv_ishl C.1.1 C.1.2.1 d (K H locs ls hI hl)
theorem z_ishr (C : zB X cc nL own rm) {x y : Int32} (d : decode cc pc = .ok (.ishr, 1)) (K : Zt X nL k n (pc + 1) lv (.int (x >>> (y &&& 31)) :: st) h) : Zt X nL k n pc lv (.int y :: .int x :: st) h :=
  fun H locs ls hI hl => lv_ishr C.1.1 C.1.2.1 d (K H locs ls hI hl)
/-- shifts without a sign -/
def z_us (x y : Int32) : Int32 := (x.toUInt32 >>> (y.toUInt32 &&& Int32.toUInt32 31)).toInt32
def z_usl (x : Int64) (y : Int32) : Int64 := (x.toUInt64 >>> (y.toInt64.toUInt64 &&& Int64.toUInt64 63)).toInt64
def z_sl (x : Int64) (y : Int32) : Int64 := x <<< (y.toInt64 &&& 63)
theorem z_iushr (C : zB X cc nL own rm) {x y : Int32} (d : decode cc pc = .ok (.iushr, 1)) (K : Zt X nL k n (pc + 1) lv (.int (z_us x y) :: st) h) : Zt X nL k n pc lv (.int y :: .int x :: st) h :=
  fun H locs ls hI hl => lv_iushr C.1.1 C.1.2.1 d rfl (K H locs ls hI hl)
theorem z_lushr (C : zB X cc nL own rm) {x : Int64} {y : Int32} (d : decode cc pc = .ok (.lushr, 1)) (K : Zt X nL k n (pc + 1) lv (.long (z_usl x y) :: st) h) : Zt X nL k n pc lv (.int y :: .long x :: st) h :=
  fun H locs ls hI hl => lv_lushr C.1.1 C.1.2.1 d rfl (K H locs ls hI hl)
theorem z_lshl (C : zB X cc nL own rm) {x : Int64} {y : Int32} (d : decode cc pc = .ok (.lshl, 1)) (K : Zt X nL k n (pc + 1) lv (.long (z_sl x y) :: st) h) : Zt X nL k n pc lv (.int y :: .long x :: st) h :=
  fun H locs ls hI hl => lv_lshl C.1.1 C.1.2.1 d rfl (K H locs ls hI hl)
theorem z_i2l (C : zB X cc nL own rm) {x : Int32} (d : decode cc pc = .ok (.i2l, 1)) (K : Zt X nL k n (pc + 1) lv (.long x.toInt64 :: st) h) : Zt X nL k n pc lv (.int x :: st) h :=
  fun H locs ls hI hl => lv_i2l C.1.1 C.1.2.1 d rfl (K H locs ls hI hl)
theorem z_ladd (C : zB X cc nL own rm) {x y : Int64} (d : decode cc pc = .ok (.ladd, 1)) (K : Zt X nL k n (pc + 1) lv (.long (x + y) :: st) h) : Zt X nL k n pc lv (.long y :: .long x :: st) h :=
  fun H locs ls hI hl => lv_ladd C.1.1 C.1.2.1 d (K H locs ls hI hl)
theorem z_lsub (C : zB X cc nL own rm) {x y : Int64} (d : decode cc pc = .ok (.lsub, 1)) (K : Zt X nL k n (pc + 1) lv (.long (x - y) :: st) h) : Zt X nL k n pc lv (.long y :: .long x :: st) h :=
  fun H locs ls hI hl => lv_lsub C.1.1 C.1.2.1 d (K H locs ls hI hl)
theorem z_lmul (C : zB X cc nL own rm) {x y : Int64} (d : decode cc pc = .ok (.lmul, 1)) (K : Zt X nL k n (pc + 1) lv (.long (x * y) :: st) h) : Zt X nL k n pc lv (.long y :: .long x :: st) h :=
  fun H locs ls hI hl => lv_lmul C.1.1 C.1.2.1 d (K H locs ls hI hl)
theorem z_land (C : zB X cc nL own rm) {x y : Int64} (d : decode cc pc = .ok (.land, 1)) (K : Zt X nL k n (pc + 1) lv (.long (x &&& y) :: st) h) : Zt X nL k n pc lv (.long y :: .long x :: st) h :=
  fun H locs ls hI hl => lv_land C.1.1 C.1.2.1 d (K H locs ls hI hl)
theorem z_lor (C : zB X cc nL own rm) {x y : Int64} (d : decode cc pc = .ok (.lor, 1)) (K : Zt X nL k n (pc + 1) lv (.long (x ||| y) :: st) h) : Zt X nL k n pc lv (.long y :: .long x :: st) h :=
  fun H locs ls hI hl => lv_lor C.1.1 C.1.2.1 d (K H locs ls hI hl)
theorem z_ldiv (C : zB X cc nL own rm) {x y : Int64} (d : decode cc pc = .ok (.ldiv, 1)) (hy : ¬ y = 0) (K : Zt X nL k n (pc + 1) lv (.long (x / y) :: st) h) : Zt X nL k n pc lv (.long y :: .long x :: st) h :=
  fun H locs ls hI hl => lv_ldiv C.1.1 C.1.2.1 d hy (K H locs ls hI hl)
theorem z_lcmp (C : zB X cc nL own rm) {x y : Int64} (d : decode cc pc = .ok (.lcmp, 1)) (K : Zt X nL k n (pc + 1) lv (.int (lg_cmp x y) :: st) h) : Zt X nL k n pc lv (.long y :: .long x :: st) h :=
  fun H locs ls hI hl => W.lcmp C.1.1 C.1.2.1 d (K H locs ls hI hl)
theorem z_lconst (C : zB X cc nL own rm) {i : Fin 2} {v : Int64} (d : decode cc pc = .ok (.lconst i, 1)) (hv : Int64.ofNat (i : Nat) = v) (K : Zt X nL k n (pc + 1) lv (.long v :: st) h) : Zt X nL k n pc lv st h :=
  fun H locs ls hI hl => lv_lconst C.1.1 C.1.2.1 d hv (K H locs ls hI hl)
theorem z_dup (C : zB X cc nL own rm) {v : Value} (d : decode cc pc = .ok (.dup, 1)) (hv : v.category = 1) (K : Zt X nL k n (pc + 1) lv (v :: v :: st) h) : Zt X nL k n pc lv (v :: st) h :=
  fun H locs ls hI hl => lv_dup C.1.1 C.1.2.1 d hv (K H locs ls hI hl)
theorem z_dup2 (C : zB X cc nL own rm) {v w : Value} (d : decode cc pc = .ok (.dup2, 1)) (hv : v.category = 1) (hw : w.category = 1) (K : Zt X nL k n (pc + 1) lv (v :: w :: v :: w :: st) h) : Zt X nL k n pc lv (v :: w :: st) h :=
  fun H locs ls hI hl => lv_dup2_11 C.1.1 C.1.2.1 d hv hw (K H locs ls hI hl)
theorem z_goto (C : zB X cc nL own rm) {off : Int} {tgt : Nat} (d : decode cc pc = .ok (.goto off, 3)) (ht : (pc : Int) + off = (tgt : Int)) (K : Zt X nL k n tgt lv st h) : Zt X nL k n pc lv st h :=
  fun H locs ls hI hl => lv_goto C.1.1 C.1.2.1 d ht (K H locs ls hI hl)
/-- fewer locals are listed -/
theorem z_sub (ks : List Nat) (hl' : lv_pick lv ks = lv') (K : Zt X nL k n pc lv' st h) : Zt X nL k n pc lv st h :=
  fun H locs ls hI hl => K H locs ls hI (lv_sub hl ks hl')
theorem z_widen {k' n' : Nat} (h1 : k ≤ k') (h2 : n ≤ n') (K : Zt X nL k' n' pc lv st h) : Zt X nL k n pc lv st h :=
  fun H locs ls hI hl => W.widen h1 h2 (K H locs ls hI hl)
theorem z_if_eq (C : zB X cc nL own rm) {x : Int32} {off : Int} {tgt : Nat} (d : decode cc pc = .ok (.ifCond .eq off, 3)) (ht : (pc : Int) + off = (tgt : Int)) {α : Type} {A B : Option α} {r : α} (hf : (if x = 0 then A else B) = some r) (kt : A = some r → Zt X nL k n tgt lv st h) (kf : B = some r → Zt X nL k n (pc + 3) lv st h) : Zt X nL k n pc lv (.int x :: st) h :=
  fun H locs ls hI hl => lv_if_eq C.1.1 C.1.2.1 d ht (fun e => kt (by rw [if_pos e] at hf; exact hf) H locs ls hI hl) (fun e => kf (by rw [if_neg e] at hf; exact hf) H locs ls hI hl)
theorem z_ic_eq (C : zB X cc nL own rm) {x y : Int32} {off : Int} {tgt : Nat} (d : decode cc pc = .ok (.if_icmp .eq off, 3)) (ht : (pc : Int) + off = (tgt : Int)) {α : Type} {A B : Option α} {r : α} (hf : (if x = y then A else B) = some r) (kt : A = some r → Zt X nL k n tgt lv st h) (kf : B = some r → Zt X nL k n (pc + 3) lv st h) : Zt X nL k n pc lv (.int y :: .int x :: st) h :=
  fun H locs ls hI hl => lv_icmp_eq C.1.1 C.1.2.1 d ht (fun e => kt (by rw [if_pos e] at hf; exact hf) H locs ls hI hl) (fun e => kf (by rw [if_neg e] at hf; exact hf) H locs ls hI hl)
theorem z_if_ne (C : zB X cc nL own rm) {x : Int32} {off : Int} {tgt : Nat} (d : decode cc pc = .ok (.ifCond .ne off, 3)) (ht : (pc : Int) + off = (tgt : Int)) {α : Type} {A B : Option α} {r : α} (hf : (if x = 0 then B else A) = some r) (kt : A = some r → Zt X nL k n tgt lv st h) (kf : B = some r → Zt X nL k n (pc + 3) lv st h) : Zt X nL k n pc lv (.int x :: st) h :=
  fun H locs ls hI hl => lv_if_ne C.1.1 C.1.2.1 d ht (fun e => kt (by rw [if_neg e] at hf; exact hf) H locs ls hI hl) (fun e => kf (by rw [if_pos (by first | exact e | exact Classical.not_not.mp e)] at hf; exact hf) H locs ls hI hl)
theorem z_ic_ne (C : zB X cc nL own rm) {x y : Int32} {off : Int} {tgt : Nat} (d : decode cc pc = .ok (.if_icmp .ne off, 3)) (ht : (pc : Int) + off = (tgt : Int)) {α : Type} {A B : Option α} {r : α} (hf : (if x = y then B else A) = some r) (kt : A = some r → Zt X nL k n tgt lv st h) (kf : B = some r → Zt X nL k n (pc + 3) lv st h) : Zt X nL k n pc lv (.int y :: .int x :: st) h :=
  fun H locs ls hI hl => lv_icmp_ne C.1.1 C.1.2.1 d ht (fun e => kt (by rw [if_neg e] at hf; exact hf) H locs ls hI hl) (fun e => kf (by rw [if_pos (by first | exact e | exact Classical.not_not.mp e)] at hf; exact hf) H locs ls hI hl)
theorem z_if_lt (C : zB X cc nL own rm) {x : Int32} {off : Int} {tgt : Nat} (d : decode cc pc = .ok (.ifCond .lt off, 3)) (ht : (pc : Int) + off = (tgt : Int)) {α : Type} {A B : Option α} {r : α} (hf : (if x < 0 then A else B) = some r) (kt : A = some r → Zt X nL k n tgt lv st h) (kf : B = some r → Zt X nL k n (pc + 3) lv st h) : Zt X nL k n pc lv (.int x :: st) h :=
  fun H locs ls hI hl => lv_if_lt C.1.1 C.1.2.1 d ht (fun e => kt (by rw [if_pos e] at hf; exact hf) H locs ls hI hl) (fun e => kf (by rw [if_neg e] at hf; exact hf) H locs ls hI hl)
theorem z_ic_lt (C : zB X cc nL own rm) {x y : Int32} {off : Int} {tgt : Nat} (d : decode cc pc = .ok (.if_icmp .lt off, 3)) (ht : (pc : Int) + off = (tgt : Int)) {α : Type} {A B : Option α} {r : α} (hf : (if x < y then A else B) = some r) (kt : A = some r → Zt X nL k n tgt lv st h) (kf : B = some r → Zt X nL k n (pc + 3) lv st h) : Zt X nL k n pc lv (.int y :: .int x :: st) h :=
  fun H locs ls hI hl => lv_icmp_lt C.1.1 C.1.2.1 d ht (fun e => kt (by rw [if_pos e] at hf; exact hf) H locs ls hI hl) (fun e => kf (by rw [if_neg e] at hf; exact hf) H locs ls hI hl)
theorem z_if_ge (C : zB X cc nL own rm) {x : Int32} {off : Int} {tgt : Nat} (d : decode cc pc = .ok (.ifCond .ge off, 3)) (ht : (pc : Int) + off = (tgt : Int)) {α : Type} {A B : Option α} {r : α} (hf : (if 0 ≤ x then A else B) = some r) (kt : A = some r → Zt X nL k n tgt lv st h) (kf : B = some r → Zt X nL k n (pc + 3) lv st h) : Zt X nL k n pc lv (.int x :: st) h :=
  fun H locs ls hI hl => lv_if_ge C.1.1 C.1.2.1 d ht (fun e => kt (by rw [if_pos e] at hf; exact hf) H locs ls hI hl) (fun e => kf (by rw [if_neg e] at hf; exact hf) H locs ls hI hl)
theorem z_ic_ge (C : zB X cc nL own rm) {x y : Int32} {off : Int} {tgt : Nat} (d : decode cc pc = .ok (.if_icmp .ge off, 3)) (ht : (pc : Int) + off = (tgt : Int)) {α : Type} {A B : Option α} {r : α} (hf : (if y ≤ x then A else B) = some r) (kt : A = some r → Zt X nL k n tgt lv st h) (kf : B = some r → Zt X nL k n (pc + 3) lv st h) : Zt X nL k n pc lv (.int y :: .int x :: st) h :=
  fun H locs ls hI hl => lv_icmp_ge C.1.1 C.1.2.1 d ht (fun e => kt (by rw [if_pos e] at hf; exact hf) H locs ls hI hl) (fun e => kf (by rw [if_neg e] at hf; exact hf) H locs ls hI hl)
theorem z_if_gt (C : zB X cc nL own rm) {x : Int32} {off : Int} {tgt : Nat} (d : decode cc pc = .ok (.ifCond .gt off, 3)) (ht : (pc : Int) + off = (tgt : Int)) {α : Type} {A B : Option α} {r : α} (hf : (if 0 < x then A else B) = some r) (kt : A = some r → Zt X nL k n tgt lv st h) (kf : B = some r → Zt X nL k n (pc + 3) lv st h) : Zt X nL k n pc lv (.int x :: st) h :=
  fun H locs ls hI hl => lv_if_gt C.1.1 C.1.2.1 d ht (fun e => kt (by rw [if_pos e] at hf; exact hf) H locs ls hI hl) (fun e => kf (by rw [if_neg e] at hf; exact hf) H locs ls hI hl)
theorem z_ic_gt (C : zB X cc nL own rm) {x y : Int32} {off : Int} {tgt : Nat} (d : decode cc pc = .ok (.if_icmp .gt off, 3)) (ht : (pc : Int) + off = (tgt : Int)) {α : Type} {A B : Option α} {r : α} (hf : (if y < x then A else B) = some r) (kt : A = some r → Zt X nL k n tgt lv st h) (kf : B = some r → Zt X nL k n (pc + 3) lv st h) : Zt X nL k n pc lv (.int y :: .int x :: st) h :=
  fun H locs ls hI hl => lv_icmp_gt C.1.1 C.1.2.1 d ht (fun e => kt (by rw [if_pos e] at hf; exact hf) H locs ls hI hl) (fun e => kf (by rw [if_neg e] at hf; exact hf) H locs ls hI hl)
theorem z_if_le (C : zB X cc nL own rm) {x : Int32} {off : Int} {tgt : Nat} (d : decode cc pc = .ok (.ifCond .le off, 3)) (ht : (pc : Int) + off = (tgt : Int)) {α : Type} {A B : Option α} {r : α} (hf : (if x ≤ 0 then A else B) = some r) (kt : A = some r → Zt X nL k n tgt lv st h) (kf : B = some r → Zt X nL k n (pc + 3) lv st h) : Zt X nL k n pc lv (.int x :: st) h :=
  fun H locs ls hI hl => lv_if_le C.1.1 C.1.2.1 d ht (fun e => kt (by rw [if_pos e] at hf; exact hf) H locs ls hI hl) (fun e => kf (by rw [if_neg e] at hf; exact hf) H locs ls hI hl)
theorem z_ic_le (C : zB X cc nL own rm) {x y : Int32} {off : Int} {tgt : Nat} (d : decode cc pc = .ok (.if_icmp .le off, 3)) (ht : (pc : Int) + off = (tgt : Int)) {α : Type} {A B : Option α} {r : α} (hf : (if x ≤ y then A else B) = some r) (kt : A = some r → Zt X nL k n tgt lv st h) (kf : B = some r → Zt X nL k n (pc + 3) lv st h) : Zt X nL k n pc lv (.int y :: .int x :: st) h :=
  fun H locs ls hI hl => lv_icmp_le C.1.1 C.1.2.1 d ht (fun e => kt (by rw [if_pos e] at hf; exact hf) H locs ls hI hl) (fun e => kf (by rw [if_neg e] at hf; exact hf) H locs ls hI hl)
/-- an object's field, as the machine has it -/
theorem z_gf (C : zB X cc nL own rm) {CN ref : String} {T : u_T} {N ci idx a j : Nat} {fs : List Value} {v : Value} (he : h.1 a = some (.inr (ci, fs))) (hc : zcl[ci]? = some (CN, T, N)) (hin : ∀ w ∈ u_ws CN T N, w ∈ zws) (hj : j < N) (hw : Cond.fieldLink own idx ref (T j).2.1 (T j).2.2.1 ∈ zws) (href : (T j).1 = ref) (hv : fs[j]? = some v) (d : decode cc pc = .ok (.getfield idx, 3))
    (K : Zt X nL k n (pc + 3) lv (v :: st) h) : Zt X nL k n pc lv (.ref a :: st) h := by
  intro H locs ls hI hl
  obtain ⟨⟨hx, hb, hml, hown, hts⟩, hK, hT, hR, hA, hN⟩ := C
  obtain ⟨r, h1, h2, h3⟩ := hI.1.2 a _ he
  have hP : va_P (x_D X) zcl [(a, .inr (ci, fs))] H := by
    intro i q hq
    match i, hq with
    | 0, hq => cases hq; exact ⟨r, h1, h3⟩
    | i + 1, hq => simp at hq
  refine va_get (D := x_D X) (ci := ci) (v := v) (C := CN) (T := T) (N := N) hx hb hts hin hown hK hP 0 rfl hc j hj (hts _ hw) (fun x hx => by rw [← href]; exact hx) hv d ?_
  exact K H locs ls hI hl
theorem z_getI (C : zB X cc nL own rm) {CN ref : String} {T : u_T} {N idx a : Nat} (ci j : Nat) (hc : zcl[ci]? = some (CN, T, N)) (hin : ∀ w ∈ u_ws CN T N, w ∈ zws) (hj : j < N) (hw : Cond.fieldLink own idx ref (T j).2.1 (T j).2.2.1 ∈ zws) (href : (T j).1 = ref) (d : decode cc pc = .ok (.getfield idx, 3)) {α : Type} {B : Int32 → Option α} {r : α} (hf : (zgI h a ci j).bind B = some r)
    (K : ∀ v : Int32, B v = some r → Zt X nL k n (pc + 3) lv (.int v :: st) h) : Zt X nL k n pc lv (.ref a :: st) h := by
  obtain ⟨v, hv, hr⟩ := Option.bind_eq_some_iff.mp hf
  unfold zgI at hv
  split at hv
  · rename_i c fs he
    split at hv
    · rename_i hcc; subst hcc
      split at hv
      · rename_i x hx; cases hv
        exact z_gf C he hc hin hj hw href hx d (K _ hr)
      · cases hv
    · cases hv
  · cases hv
theorem z_getJ (C : zB X cc nL own rm) {CN ref : String} {T : u_T} {N idx a : Nat} (ci j : Nat) (hc : zcl[ci]? = some (CN, T, N)) (hin : ∀ w ∈ u_ws CN T N, w ∈ zws) (hj : j < N) (hw : Cond.fieldLink own idx ref (T j).2.1 (T j).2.2.1 ∈ zws) (href : (T j).1 = ref) (d : decode cc pc = .ok (.getfield idx, 3)) {α : Type} {B : Int64 → Option α} {r : α} (hf : (zgJ h a ci j).bind B = some r)
    (K : ∀ v : Int64, B v = some r → Zt X nL k n (pc + 3) lv (.long v :: st) h) : Zt X nL k n pc lv (.ref a :: st) h := by
  obtain ⟨v, hv, hr⟩ := Option.bind_eq_some_iff.mp hf
  unfold zgJ at hv
  split at hv
  · rename_i c fs he
    split at hv
    · rename_i hcc; subst hcc
      split at hv
      · rename_i x hx; cases hv
        exact z_gf C he hc hin hj hw href hx d (K _ hr)
      · cases hv
    · cases hv
  · cases hv
theorem z_getR (C : zB X cc nL own rm) {CN ref : String} {T : u_T} {N idx a : Nat} (ci j : Nat) (hc : zcl[ci]? = some (CN, T, N)) (hin : ∀ w ∈ u_ws CN T N, w ∈ zws) (hj : j < N) (hw : Cond.fieldLink own idx ref (T j).2.1 (T j).2.2.1 ∈ zws) (href : (T j).1 = ref) (d : decode cc pc = .ok (.getfield idx, 3)) {α : Type} {B : Nat → Option α} {r : α} (hf : (zgR h a ci j).bind B = some r)
    (K : ∀ v : Nat, B v = some r → Zt X nL k n (pc + 3) lv (.ref v :: st) h) : Zt X nL k n pc lv (.ref a :: st) h := by
  obtain ⟨v, hv, hr⟩ := Option.bind_eq_some_iff.mp hf
  unfold zgR at hv
  split at hv
  · rename_i c fs he
    split at hv
    · rename_i hcc; subst hcc
      split at hv
      · rename_i x hx; cases hv
        exact z_gf C he hc hin hj hw href hx d (K _ hr)
      · cases hv
    · cases hv
  · cases hv
/-- a field that may be null, looked at by the next instruction -/
theorem z_getQ (C : zB X cc nL own rm) {CN ref : String} {T : u_T} {N idx a : Nat} (ci j : Nat) (hc : zcl[ci]? = some (CN, T, N)) (hin : ∀ w ∈ u_ws CN T N, w ∈ zws) (hj : j < N) (hw : Cond.fieldLink own idx ref (T j).2.1 (T j).2.2.1 ∈ zws) (href : (T j).1 = ref) (d : decode cc pc = .ok (.getfield idx, 3)) {off : Int} {tgt : Nat} (d2 : decode cc (pc + 3) = .ok (.ifnonnull off, 3)) (ht : ((pc + 3 : Nat) : Int) + off = (tgt : Int)) {α : Type} {B E : Option α} {r : α} (hf : (zgQ h a ci j).bind (fun q => if q.isSome = true then B else E) = some r)
    (kt : B = some r → Zt X nL k n tgt lv st h) (kf : E = some r → Zt X nL k n (pc + 3 + 3) lv st h) : Zt X nL k n pc lv (.ref a :: st) h := by
  obtain ⟨v, hv, hr⟩ := Option.bind_eq_some_iff.mp hf
  unfold zgQ at hv
  split at hv
  · rename_i c fs he
    split at hv
    · rename_i hcc; subst hcc
      split at hv
      · rename_i x hx; cases hv
        refine z_gf C he hc hin hj hw href hx d ?_
        exact fun H locs ls hI hl => lv_ifnonnull C.1.1 C.1.2.1 d2 ht (kt (by simpa using hr) H locs ls hI hl)
      · rename_i hx; cases hv
        refine z_gf C he hc hin hj hw href hx d ?_
        exact fun H locs ls hI hl => lv_ifnonnullN C.1.1 C.1.2.1 d2 (kf (by simpa using hr) H locs ls hI hl)
      · cases hv
    · cases hv
  · cases hv
/-- a cell of the pure heap is of the walk's own -/
theorem zI_own {a : Nat} {e : zE} {H : Heap} {locs : List Loc} (hI : zI X h H locs) (he : h.1 a = some e) : x_A X a := hI.2.1 a (by rw [he]; rfl)
theorem zI_set {a : Nat} {e e' : zE} {H H1 : Heap} {locs : List Loc} {i : Nat} (hI : zI X h H locs) (he : h.1 a = some e) (hz : H1.size = H.size) (ho : ∀ q, q ≠ a → H1[q]? = H[q]?) (hn : z_at (x_D X) zcl (x_T X) a e' H1) : zI X (z_set h a e') H1 (locs ++ [⟨a, i⟩]) := by
  refine ⟨hI.1.set hz ho hn, fun q hq => ?_, hI.2.2.put hz ho (zI_own hI he)⟩
  by_cases hqa : q = a
  · subst hqa; exact zI_own hI he
  · exact hI.2.1 q (by simpa [z_set, hqa] using hq)
theorem z_pf (C : zB X cc nL own rm) {CN ref : String} {T : u_T} {N ci idx a j : Nat} {fs : List Value} {v : Value} {ty : FieldType} (tyf : Nat → FieldType) (he : h.1 a = some (.inr (ci, fs))) (hc : zcl[ci]? = some (CN, T, N)) (hin : ∀ w ∈ u_ws CN T N, w ∈ zws) (hty : ∀ k, k < N → parseFieldDescriptor (T k).2.2.1 = some (tyf k)) (hnm : ∀ a, a < N → ∀ b, b < N → a ≠ b → (T a).2.1 ≠ (T b).2.1) (hj : j < N) (hw : Cond.fieldLink own idx ref (T j).2.1 (T j).2.2.1 ∈ zws) (href : (T j).1 = ref) (hfin : (T j).2.2.2 = false ∨ ((T j).2.2.2 = true ∧ (x_t X).name = "<init>" ∧ (T j).1 = own)) (hd : tyf j = ty) (hnar : narrow ty v = v) (hfit : fits ty v = true) (d : decode cc pc = .ok (.putfield idx, 3))
    (K : Zt X nL k n (pc + 3) lv st (z_set h a (.inr (ci, fs.set j v)))) : Zt X nL k n pc lv (v :: .ref a :: st) h := by
  intro H locs ls hI hl
  obtain ⟨⟨hx, hb, hml, hown, hts⟩, hK, hT, hR, hA, hN⟩ := C
  obtain ⟨r, h1, h2, cell, q1, q2, q3, q4⟩ := hI.1.2 a _ he
  have hr : r = (CN, T, N) := Option.some.inj (h1.symm.trans hc)
  subst hr
  have hdp : parseFieldDescriptor (T j).2.2.1 = some ty := by rw [← hd]; exact hty j hj
  have hap := va_apart (own := own) hts hin tyf hty hnm hK hc
  obtain ⟨hS, hfc, kC, hkC, hkind⟩ := hK.1 ci _ hc
  obtain ⟨cf, kf, fi, f, hi, hsl⟩ := hS j hj
  have hst := (u_facts hfc hkC (u_lays hts hin hj) hi).1
  have hlen : j < fs.length := by rw [h2]; exact hj
  have hlay := hts _ (hin _ (u_in_lay hj))
  unfold u_lay at hlay
  have done : ∀ H' : Heap, H'[a]? = some (cell.setSlot f.slot v) → H'.size = H.size → (∀ q, q ≠ a → H'[q]? = H[q]?) → zWW X H' (locs ++ [⟨a, f.slot⟩]) k n (F0 (x_m X) (pc + 3) ls st) := by
    intro H' e1 e2 e3
    refine K H' _ ls (zI_set hI (e' := .inr (ci, fs.set j v)) he e2 e3 ⟨_, hc, by simp [h2], ?_⟩) hl
    rw [hsl] at e1
    exact t_OB.to (V := updV (vp_V fs) j v) ⟨_, e1, q2, q3, t_set q4 hap hj v⟩ (fun i _ => vp_updV_set hlen v i)
  rcases hfin with hfin | ⟨hfin, hin2, hdecl⟩
  · rw [if_neg (by rw [hfin]; decide)] at hlay
    have h6 := u_store hfc hkC hkind hlay hi hdp hnar hfit
    exact W.putK hx hb (f := f) ⟨hown, hts _ hw, ⟨_, _, _, by rw [← href]; exact hi⟩, hst⟩ (by rw [q2]; exact h6) q1 q3 (by rw [hsl]; exact k2_hasslot (q4 j hj)) rfl rfl d done
  · rw [if_pos hfin] at hlay
    have hcf : (x_m X).cls = cf := by
      obtain ⟨_, _, c', _, _, _, -, -, hf', -, -, -, hown2, -⟩ := Cond.laysFinal_spec hlay
      have e1 : c' = cf := by have := hi.symm.trans hf'; simp at this; exact this.1.symm
      rw [hdecl] at hown2
      rw [← e1]; exact Option.some.inj (hown.symm.trans hown2)
    have h6 := u_fits hfc hkC hkind (Or.inr hlay) hi hdp hnar hfit
    exact W.putFinK hx hb hown (hts _ hw) (by rw [← href]; exact hi) hst hcf hin2 (by rw [q2]; exact h6) q1 q3 (by rw [hsl]; exact k2_hasslot (q4 j hj)) rfl rfl d done
theorem z_put (C : zB X cc nL own rm) {CN ref : String} {T : u_T} {N idx a : Nat} {v : Value} {ty : FieldType} (ci j : Nat) (tyf : Nat → FieldType) (hc : zcl[ci]? = some (CN, T, N)) (hin : ∀ w ∈ u_ws CN T N, w ∈ zws) (hty : ∀ k, k < N → parseFieldDescriptor (T k).2.2.1 = some (tyf k)) (hnm : ∀ a, a < N → ∀ b, b < N → a ≠ b → (T a).2.1 ≠ (T b).2.1) (hj : j < N) (hw : Cond.fieldLink own idx ref (T j).2.1 (T j).2.2.1 ∈ zws) (href : (T j).1 = ref) (hfin : (T j).2.2.2 = false ∨ ((T j).2.2.2 = true ∧ (x_t X).name = "<init>" ∧ (T j).1 = own)) (hd : tyf j = ty) (hnar : narrow ty v = v) (hfit : fits ty v = true) (d : decode cc pc = .ok (.putfield idx, 3)) {α : Type} {B : zH → Option α} {r : α} (hf : (zp h a ci j v).bind B = some r)
    (K : ∀ h' : zH, B h' = some r → Zt X nL k n (pc + 3) lv st h') : Zt X nL k n pc lv (v :: .ref a :: st) h := by
  obtain ⟨h', hv, hr⟩ := Option.bind_eq_some_iff.mp hf
  unfold zp at hv
  split at hv
  · rename_i c fs he
    split at hv
    · rename_i hcc; obtain ⟨rfl, hl⟩ := hcc; cases hv
      exact z_pf C tyf he hc hin hty hnm hj hw href hfin hd hnar hfit d (K _ hr)
    · cases hv
  · cases hv
/-- a boolean field: 0 or 1 -/
def zpZ (h : zH) (a ci j : Nat) (v : Int32) : Option zH := if v = 0 ∨ v = 1 then zp h a ci j (.int v) else none
theorem z_01 {v : Int32} (hv : v = 0 ∨ v = 1) : narrow .boolean (.int v) = .int v ∧ fits .boolean (.int v) = true := by
  rcases hv with rfl | rfl <;> exact ⟨rfl, rfl⟩
theorem z_putZ (C : zB X cc nL own rm) {CN ref : String} {T : u_T} {N idx a : Nat} {v : Int32} (ci j : Nat) (tyf : Nat → FieldType) (hc : zcl[ci]? = some (CN, T, N)) (hin : ∀ w ∈ u_ws CN T N, w ∈ zws) (hty : ∀ k, k < N → parseFieldDescriptor (T k).2.2.1 = some (tyf k)) (hnm : ∀ a, a < N → ∀ b, b < N → a ≠ b → (T a).2.1 ≠ (T b).2.1) (hj : j < N) (hw : Cond.fieldLink own idx ref (T j).2.1 (T j).2.2.1 ∈ zws) (href : (T j).1 = ref) (hfin : (T j).2.2.2 = false ∨ ((T j).2.2.2 = true ∧ (x_t X).name = "<init>" ∧ (T j).1 = own)) (hd : tyf j = .boolean) (d : decode cc pc = .ok (.putfield idx, 3)) {α : Type} {B : zH → Option α} {r : α} (hf : (zpZ h a ci j v).bind B = some r)
    (K : ∀ h' : zH, B h' = some r → Zt X nL k n (pc + 3) lv st h') : Zt X nL k n pc lv (.int v :: .ref a :: st) h := by
  unfold zpZ at hf
  split at hf
  · rename_i hv
    exact z_put C ci j tyf hc hin hty hnm hj hw href hfin hd (z_01 hv).1 (z_01 hv).2 d hf K
  · cases hf
end ZROWS
end
section
/-! rows of arrays, of new cells, of calls and returns -/
section ZROWS2
variable {X : zX} {cc : ByteArray} {nL : Nat} {own : String} {rm : Room} {k n pc : Nat} {lv lv' : List (Nat × Value)} {st : List Value} {h : zH}
/-- the kinds of arrays, by their numbers -/
theorem z_ty {T : List (ClassId × FieldType)} (hT : T.map (fun q => q.2) = ztl) {t : Nat} {q : ClassId × FieldType} (h : T[t]? = some q) : ztl[t]? = some q.2 := by
  rw [← hT, List.getElem?_map, h]; rfl
theorem z_tyc {T : List (ClassId × FieldType)} (hT : T.map (fun q => q.2) = ztl) {t : Nat} {ty : FieldType} (h : ztl[t]? = some ty) : ∃ cA : ClassId, T[t]? = some (cA, ty) := by
  rw [← hT, List.getElem?_map] at h
  cases hq : T[t]? with
  | none => rw [hq] at h; cases h
  | some q =>
    rw [hq] at h
    obtain ⟨c, y⟩ := q
    cases h
    exact ⟨c, rfl⟩
theorem z_iald (C : zB X cc nL own rm) {a : Nat} {i : Int32} (d : decode cc pc = .ok (.iaload, 1)) {α : Type} {B : Int32 → Option α} {r : α} (hf : (zaI h 0 a i).bind B = some r) (K : ∀ v : Int32, B v = some r → Zt X nL k n (pc + 1) lv (.int v :: st) h) : Zt X nL k n pc lv (.int i :: .ref a :: st) h := by
  obtain ⟨v, hv, hr⟩ := Option.bind_eq_some_iff.mp hf
  unfold zaI at hv
  split at hv
  · rename_i u m f he
    split at hv
    · rename_i hc; obtain ⟨rfl, hin⟩ := hc; cases hv
      intro H locs ls hI hl
      obtain ⟨⟨hx, hb, hml, hown, hts⟩, hK, hT, hR, hA, hN⟩ := C
      obtain ⟨q, h1, h2⟩ := hI.1.2 a _ he
      have hty := z_ty hT h1
      obtain ⟨cA, ty⟩ := q
      cases hty
      have hlt : i.toNatClampNeg < m := Nat.not_le.mp fun q => hin (Or.inr q)
      exact W.iald (v := .int (f i.toNatClampNeg)) hx hb h2 ((hK.2 _ _ h1).1 m (fun j => .int (f j))) (fun q => by cases q) (by show ¬ (i < 0 ∨ (arrV _ _ _).slots.size ≤ _); rw [arrV_size]; exact hin) (by show (arrV _ _ _).slots[_]? = _; rw [arrV_read _ _ hlt]) rfl rfl d (K _ hr H locs ls hI hl)
    · cases hv
  · cases hv
theorem z_zald (C : zB X cc nL own rm) {a : Nat} {i : Int32} (d : decode cc pc = .ok (.baload, 1)) {α : Type} {B : Int32 → Option α} {r : α} (hf : (zaI h 2 a i).bind B = some r) (K : ∀ v : Int32, B v = some r → Zt X nL k n (pc + 1) lv (.int v :: st) h) : Zt X nL k n pc lv (.int i :: .ref a :: st) h := by
  obtain ⟨v, hv, hr⟩ := Option.bind_eq_some_iff.mp hf
  unfold zaI at hv
  split at hv
  · rename_i u m f he
    split at hv
    · rename_i hc; obtain ⟨rfl, hin⟩ := hc; cases hv
      intro H locs ls hI hl
      obtain ⟨⟨hx, hb, hml, hown, hts⟩, hK, hT, hR, hA, hN⟩ := C
      obtain ⟨q, h1, h2⟩ := hI.1.2 a _ he
      have hty := z_ty hT h1
      obtain ⟨cA, ty⟩ := q
      cases hty
      have hlt : i.toNatClampNeg < m := Nat.not_le.mp fun q => hin (Or.inr q)
      exact W.zald (v := .int (f i.toNatClampNeg)) hx hb h2 ((hK.2 _ _ h1).1 m (fun j => .int (f j))) (fun q => by cases q) (by show ¬ (i < 0 ∨ (arrV _ _ _).slots.size ≤ _); rw [arrV_size]; exact hin) (by show (arrV _ _ _).slots[_]? = _; rw [arrV_read _ _ hlt]) rfl rfl d (K _ hr H locs ls hI hl)
    · cases hv
  · cases hv
theorem z_lald (C : zB X cc nL own rm) {a : Nat} {i : Int32} (d : decode cc pc = .ok (.laload, 1)) {α : Type} {B : Int64 → Option α} {r : α} (hf : (zaJ h 1 a i).bind B = some r) (K : ∀ v : Int64, B v = some r → Zt X nL k n (pc + 1) lv (.long v :: st) h) : Zt X nL k n pc lv (.int i :: .ref a :: st) h := by
  obtain ⟨v, hv, hr⟩ := Option.bind_eq_some_iff.mp hf
  unfold zaJ at hv
  split at hv
  · rename_i u m f he
    split at hv
    · rename_i hc; obtain ⟨rfl, hin⟩ := hc; cases hv
      intro H locs ls hI hl
      obtain ⟨⟨hx, hb, hml, hown, hts⟩, hK, hT, hR, hA, hN⟩ := C
      obtain ⟨q, h1, h2⟩ := hI.1.2 a _ he
      have hty := z_ty hT h1
      obtain ⟨cA, ty⟩ := q
      cases hty
      have hlt : i.toNatClampNeg < m := Nat.not_le.mp fun q => hin (Or.inr q)
      exact W.lald (v := .long (f i.toNatClampNeg)) hx hb h2 ((hK.2 _ _ h1).1 m (fun j => .long (f j))) (fun q => by cases q) (by show ¬ (i < 0 ∨ (arrV _ _ _).slots.size ≤ _); rw [arrV_size]; exact hin) (by show (arrV _ _ _).slots[_]? = _; rw [arrV_read _ _ hlt]) rfl rfl d (K _ hr H locs ls hI hl)
    · cases hv
  · cases hv
theorem z_aald (C : zB X cc nL own rm) {a : Nat} {i : Int32} (d : decode cc pc = .ok (.aaload, 1)) {α : Type} {B : Nat → Option α} {r : α} (hf : (zaR h 3 a i).bind B = some r) (K : ∀ v : Nat, B v = some r → Zt X nL k n (pc + 1) lv (.ref v :: st) h) : Zt X nL k n pc lv (.int i :: .ref a :: st) h := by
  obtain ⟨v, hv, hr⟩ := Option.bind_eq_some_iff.mp hf
  unfold zaR at hv
  split at hv
  · rename_i u m f he
    split at hv
    · rename_i hc; obtain ⟨rfl, hin⟩ := hc
      intro H locs ls hI hl
      obtain ⟨⟨hx, hb, hml, hown, hts⟩, hK, hT, hR, hA, hN⟩ := C
      obtain ⟨q, h1, h2⟩ := hI.1.2 a _ he
      have hty := z_ty hT h1
      obtain ⟨cA, ty⟩ := q
      cases hty
      have hlt : i.toNatClampNeg < m := Nat.not_le.mp fun q => hin (Or.inr q)
      exact W.aald (v := .ref v) hx hb h2 ((hK.2 _ _ h1).1 m (fun j => va_rf (f j))) rfl (fun q => by cases q) (by show ¬ (i < 0 ∨ (arrV _ _ _).slots.size ≤ _); rw [arrV_size]; exact hin) (by show (arrV _ _ _).slots[_]? = _; rw [arrV_read _ _ hlt, hv]; rfl) rfl rfl d (K _ hr H locs ls hI hl)
    · cases hv
  · cases hv
theorem z_alen (C : zB X cc nL own rm) {a : Nat} (t : Nat) (d : decode cc pc = .ok (.arraylength, 1)) {α : Type} {B : Int32 → Option α} {r : α} (hf : (zlen h t a).bind B = some r) (K : ∀ v : Int32, B v = some r → Zt X nL k n (pc + 1) lv (.int v :: st) h) : Zt X nL k n pc lv (.ref a :: st) h := by
  obtain ⟨v, hv, hr⟩ := Option.bind_eq_some_iff.mp hf
  unfold zlen at hv
  split at hv
  · rename_i u m f he
    split at hv
    · rename_i hc; subst hc; cases hv
      intro H locs ls hI hl
      obtain ⟨⟨hx, hb, hml, hown, hts⟩, hK, hT, hR, hA, hN⟩ := C
      obtain ⟨q, h1, h2⟩ := hI.1.2 a _ he
      have hP : va_P (x_D X) zcl [(a, .inl (q.1, m, f))] H := by
        intro i q hq
        match i, hq with
        | 0, hq => cases hq; exact h2
        | i + 1, hq => simp at hq
      exact va_alen (D := x_D X) (cl := zcl) (tys := x_T X) hx hb hK hP 0 u rfl h1 rfl d (K _ hr H locs ls hI hl)
    · cases hv
  · cases hv
theorem z_iast (C : zB X cc nL own rm) {a : Nat} {i x : Int32} (d : decode cc pc = .ok (.iastore, 1)) {α : Type} {B : zH → Option α} {r : α} (hf : (zsI h 0 a i x).bind B = some r) (K : ∀ h' : zH, B h' = some r → Zt X nL k n (pc + 1) lv st h') : Zt X nL k n pc lv (.int x :: .int i :: .ref a :: st) h := by
  obtain ⟨v, hv, hr⟩ := Option.bind_eq_some_iff.mp hf
  unfold zsI at hv
  split at hv
  · rename_i u m f he
    split at hv
    · rename_i hc; obtain ⟨rfl, hin⟩ := hc; cases hv
      intro H locs ls hI hl
      obtain ⟨⟨hx, hb, hml, hown, hts⟩, hK, hT, hR, hA, hN⟩ := C
      obtain ⟨q, h1, h2⟩ := hI.1.2 a _ he
      have hty := z_ty hT h1
      obtain ⟨cA, ty⟩ := q
      cases hty
      refine W.iast hx hb h2 ((hK.2 _ _ h1).1 m (fun j => .int (f j))) (fun q => by cases q) (by show ¬ (i < 0 ∨ (arrV _ _ _).slots.size ≤ _); rw [arrV_size]; exact hin) rfl rfl d fun H1 e z oq => ?_
      refine K _ hr H1 _ ls (zI_set hI he z oq ⟨_, h1, ?_⟩) hl
      rw [e]
      rw [vp_cell_i, vp_cell_i, arrV_store]
      congr 2
      funext q
      by_cases hq : q = i.toNatClampNeg
      · subst hq; simp [updV, upd]
      · simp [updV, upd, hq]
    · cases hv
  · cases hv
/-- a boolean is put into an array -/
def zsZ (h : zH) (a : Nat) (i x : Int32) : Option zH := if x = 0 ∨ x = 1 then zsI h 2 a i x else none
theorem z_zast (C : zB X cc nL own rm) {a : Nat} {i x : Int32} (d : decode cc pc = .ok (.bastore, 1)) {α : Type} {B : zH → Option α} {r : α} (hf : (zsZ h a i x).bind B = some r) (K : ∀ h' : zH, B h' = some r → Zt X nL k n (pc + 1) lv st h') : Zt X nL k n pc lv (.int x :: .int i :: .ref a :: st) h := by
  unfold zsZ at hf
  split at hf
  · rename_i h01
    obtain ⟨v, hv, hr⟩ := Option.bind_eq_some_iff.mp hf
    unfold zsI at hv
    split at hv
    · rename_i u m f he
      split at hv
      · rename_i hc; obtain ⟨rfl, hin⟩ := hc; cases hv
        intro H locs ls hI hl
        obtain ⟨⟨hx, hb, hml, hown, hts⟩, hK, hT, hR, hA, hN⟩ := C
        obtain ⟨q, h1, h2⟩ := hI.1.2 a _ he
        have hty := z_ty hT h1
        obtain ⟨cA, ty⟩ := q
        cases hty
        refine W.zast hx hb h2 ((hK.2 _ _ h1).1 m (fun j => .int (f j))) (fun q => by cases q) (by show ¬ (i < 0 ∨ (arrV _ _ _).slots.size ≤ _); rw [arrV_size]; exact hin) rfl rfl d fun H1 e z oq => ?_
        refine K _ hr H1 _ ls (zI_set hI he z oq ⟨_, h1, ?_⟩) hl
        rw [e, (z_01 h01).1]
        rw [vp_cell_i, vp_cell_i, arrV_store]
        congr 2
        funext q
        by_cases hq : q = i.toNatClampNeg
        · subst hq; simp [updV, upd]
        · simp [updV, upd, hq]
      · cases hv
    · cases hv
  · cases hf
theorem z_last (C : zB X cc nL own rm) {a : Nat} {i : Int32} {x : Int64} (d : decode cc pc = .ok (.lastore, 1)) {α : Type} {B : zH → Option α} {r : α} (hf : (zsJ h 1 a i x).bind B = some r) (K : ∀ h' : zH, B h' = some r → Zt X nL k n (pc + 1) lv st h') : Zt X nL k n pc lv (.long x :: .int i :: .ref a :: st) h := by
  obtain ⟨v, hv, hr⟩ := Option.bind_eq_some_iff.mp hf
  unfold zsJ at hv
  split at hv
  · rename_i u m f he
    split at hv
    · rename_i hc; obtain ⟨rfl, hin⟩ := hc; cases hv
      intro H locs ls hI hl
      obtain ⟨⟨hx, hb, hml, hown, hts⟩, hK, hT, hR, hA, hN⟩ := C
      obtain ⟨q, h1, h2⟩ := hI.1.2 a _ he
      have hty := z_ty hT h1
      obtain ⟨cA, ty⟩ := q
      cases hty
      refine W.last hx hb h2 ((hK.2 _ _ h1).1 m (fun j => .long (f j))) (fun q => by cases q) (by show ¬ (i < 0 ∨ (arrV _ _ _).slots.size ≤ _); rw [arrV_size]; exact hin) rfl rfl d fun H1 e z oq => ?_
      refine K _ hr H1 _ ls (zI_set hI he z oq ⟨_, h1, ?_⟩) hl
      rw [e]
      rw [vp_cell_l, vp_cell_l, arrV_store]
      congr 2
      funext q
      by_cases hq : q = i.toNatClampNeg
      · subst hq; simp [updV, vp_updL]
      · simp [updV, vp_updL, hq]
    · cases hv
  · cases hv
/-- a new cell -/
theorem zI_push {e : zE} {H H1 : Heap} {locs : List Loc} (hA : ∀ q, (x_H X).size ≤ q → x_A X q) (hI : zI X h H locs) (hz : H1.size = H.size + 1) (ho : ∀ q, q < H.size → H1[q]? = H[q]?) (hn : z_at (x_D X) zcl (x_T X) h.2 e H1) : zI X (z_push h e) H1 locs := by
  refine ⟨hI.1.push hz ho hn, fun q hq => ?_, ⟨Nat.le_trans hI.2.2.1 (by omega), fun x h1 h2 => (ho x (Nat.lt_of_lt_of_le h1 hI.2.2.1)).trans (hI.2.2.2.1 x h1 h2), hI.2.2.2.2⟩⟩
  by_cases hqa : q = h.2
  · subst hqa; exact hA _ (by rw [← hI.1.1]; exact hI.2.2.1)
  · exact hI.2.1 q (by simpa [z_push, hqa] using hq)
theorem z_new (C : zB X cc nL own rm) {CN : String} {T : u_T} {N idx : Nat} {fs : List Value} (ci : Nat) (tyf : Nat → FieldType) (hc : zcl[ci]? = some (CN, T, N)) (hin : ∀ w ∈ u_ws CN T N, w ∈ zws) (hty : ∀ k, k < N → parseFieldDescriptor (T k).2.2.1 = some (tyf k)) (hw : Cond.classLink own idx CN ∈ zws) (hwi : Cond.instantiable CN N ∈ zws) (hwn : Cond.initialized CN ∈ zws) (hfs : fs = (List.range N).map (fun j => defaultValue (tyf j))) (hk : k + 1 ≤ rm.cells) (hn : n + N ≤ rm.slots) (d : decode cc pc = .ok (.new idx, 3))
    (K : Zt X nL (k + 1) (n + N) (pc + 3) lv (.ref h.2 :: st) (z_push h (.inr (ci, fs)))) : Zt X nL k n pc lv st h := by
  intro H locs ls hI hl
  obtain ⟨⟨hx, hb, hml, hown, hts⟩, hK, hT, hR, hA, hN⟩ := C
  have hKn := hK.1 ci _ hc
  refine W.newcK hx hb hown (hts _ hw) (hts _ hwi) (hts _ hwn) rfl d (by rw [hR]; exact hk) (by rw [hR]; exact hn) hKn.2.1 hI.1.1 fun H1 kC hkC e1 z1 o1 => ?_
  refine K H1 locs ls (zI_push hA hI (by rw [z1, hI.1.1]) (fun q hq => o1 q (by rw [← hI.1.1]; exact hq)) ⟨_, hc, by subst hfs; simp, ?_⟩) hl
  refine (u_born tyf hts hin hKn hkC e1 hty).to (fun j hj => ?_)
  subst hfs
  simp [vp_V, hj]
/-- a new array of numbers, of at most m -/
def znI (h : zH) (t m : Nat) (i : Int32) : Option (Nat × zH) := if ¬ i < 0 ∧ i.toNatClampNeg ≤ m then some (h.2, z_push h (.inl (t, i.toNatClampNeg, .inl (fun _ => 0)))) else none
def znJ (h : zH) (t m : Nat) (i : Int32) : Option (Nat × zH) := if ¬ i < 0 ∧ i.toNatClampNeg ≤ m then some (h.2, z_push h (.inl (t, i.toNatClampNeg, .inr (.inl (fun _ => 0))))) else none
theorem z_newa (C : zB X cc nL own rm) {at_ : ArrayType} {i : Int32} (t m : Nat) {a0 : vp_A} (hat : ztl[t]? = some (newarray.typeOf at_)) (hw : Cond.arrayClass (newarray.typeOf at_) ∈ zws) (hra : ∀ (U : State) (cA : ClassId), va_RA U cA (newarray.typeOf at_) → U.vm.findClass ("[" ++ (newarray.typeOf at_).toString) = some cA) (ha : ∀ cA : ClassId, vp_cell cA a0 = arrV cA i.toNatClampNeg (fun _ => defaultValue (newarray.typeOf at_))) (hi : ¬ i < 0 ∧ i.toNatClampNeg ≤ m) (hm : m * componentBytes (newarray.typeOf at_) ≤ 536870912) (hk : k + 1 ≤ rm.cells) (hn : n + m ≤ rm.slots) (d : decode cc pc = .ok (.newarray at_, 2))
    (K : Zt X nL (k + 1) (n + m) (pc + 2) lv (.ref h.2 :: st) (z_push h (.inl (t, a0)))) : Zt X nL k n pc lv (.int i :: st) h := by
  intro H locs ls hI hl
  obtain ⟨⟨hx, hb, hml, hown, hts⟩, hK, hT, hR, hA, hN⟩ := C
  obtain ⟨cT, hcT⟩ := z_tyc hT hat
  refine va_newaK hx hb (hts _ hw) rfl d rfl hi.1 rfl (Nat.le_trans (Nat.mul_le_mul_right _ hi.2) hm) (by rw [hR]; exact hk) (by rw [hR]; omega) hI.1.1 fun H1 cA e1 z1 o1 hAr hNm => ?_
  have hcc : cA = cT := Option.some.inj (hNm.symm.trans (hra _ _ (hK.2 _ _ hcT).2))
  refine W.widen (k := k + 1) (n := n + m) (Nat.le_refl _) (by omega) ?_
  refine K H1 locs ls (zI_push hA hI (by rw [z1, hI.1.1]) (fun q hq => o1 q (by rw [← hI.1.1]; exact hq)) ⟨_, hcT, ?_⟩) hl
  rw [e1, ha, hcc]
theorem z_newI (C : zB X cc nL own rm) {i : Int32} (m : Nat) (hw : Cond.arrayClass .int ∈ zws) (hm : m * 4 ≤ 536870912) (hk : k + 1 ≤ rm.cells) (hn : n + m ≤ rm.slots) (d : decode cc pc = .ok (.newarray .int, 2)) {α : Type} {B : Nat × zH → Option α} {r : α} (hf : (znI h 0 m i).bind B = some r)
    (K : B (h.2, z_push h (.inl (0, i.toNatClampNeg, .inl (fun _ => 0)))) = some r → Zt X nL (k + 1) (n + m) (pc + 2) lv (.ref h.2 :: st) (z_push h (.inl (0, i.toNatClampNeg, .inl (fun _ => 0))))) : Zt X nL k n pc lv (.int i :: st) h := by
  unfold znI at hf
  split at hf
  · rename_i hi
    exact z_newa (at_ := .int) C 0 m rfl hw (fun _ _ h => h) (fun _ => rfl) hi hm hk hn d (K hf)
  · cases hf
theorem z_newZ (C : zB X cc nL own rm) {i : Int32} (m : Nat) (hw : Cond.arrayClass .boolean ∈ zws) (hm : m * 4 ≤ 536870912) (hk : k + 1 ≤ rm.cells) (hn : n + m ≤ rm.slots) (d : decode cc pc = .ok (.newarray .boolean, 2)) {α : Type} {B : Nat × zH → Option α} {r : α} (hf : (znI h 2 m i).bind B = some r)
    (K : B (h.2, z_push h (.inl (2, i.toNatClampNeg, .inl (fun _ => 0)))) = some r → Zt X nL (k + 1) (n + m) (pc + 2) lv (.ref h.2 :: st) (z_push h (.inl (2, i.toNatClampNeg, .inl (fun _ => 0))))) : Zt X nL k n pc lv (.int i :: st) h := by
  unfold znI at hf
  split at hf
  · rename_i hi
    exact z_newa (at_ := .boolean) C 2 m rfl hw (fun _ _ h => h) (fun _ => rfl) hi (Nat.le_trans (Nat.mul_le_mul_left m (by decide)) hm) hk hn d (K hf)
  · cases hf
theorem z_newJ (C : zB X cc nL own rm) {i : Int32} (m : Nat) (hw : Cond.arrayClass .long ∈ zws) (hm : m * 8 ≤ 536870912) (hk : k + 1 ≤ rm.cells) (hn : n + m ≤ rm.slots) (d : decode cc pc = .ok (.newarray .long, 2)) {α : Type} {B : Nat × zH → Option α} {r : α} (hf : (znJ h 1 m i).bind B = some r)
    (K : B (h.2, z_push h (.inl (1, i.toNatClampNeg, .inr (.inl (fun _ => 0))))) = some r → Zt X nL (k + 1) (n + m) (pc + 2) lv (.ref h.2 :: st) (z_push h (.inl (1, i.toNatClampNeg, .inr (.inl (fun _ => 0)))))) : Zt X nL k n pc lv (.int i :: st) h := by
  unfold znJ at hf
  split at hf
  · rename_i hi
    exact z_newa (at_ := .long) C 1 m rfl hw (fun _ _ h => h) (fun _ => rfl) hi hm hk hn d (K hf)
  · cases hf
end ZROWS2
end
section
/-! calls, returns, a method's contract over the pure heap -/
/-- every word of the tables is one that a callee finds as the caller has it -/
theorem z_good : ∀ w ∈ zws, (w.onTables && w.keeps) = true ∨ ∃ ty, w = .arrayClass ty :=
  fun w hw => good_of_word (List.mem_filter.mp hw).2
/-- a method's contract: from the pure heap h it returns r, and the pure heap is h1 -/
def zM (l : Launch) (y : MethodName) (bytes : ByteArray) (maxL : Nat) (ret : Option FieldType) (rm : Room) (D : va_G) (T : List (ClassId × FieldType)) (As : List Value) (h : zH) (r : Option Value) (h1 : zH) : Prop :=
  Met l y (Cond.code y bytes maxL ret :: zws) rm (va_Pc As (fun U => z_Rep D zcl T h U.heap ∧ va_K D zcl T U ∧ zN T U)) (zPost D T h r h1) rm.cells rm.slots (z_A h)
theorem z_blind {As : List Value} {D : va_G} {T : List (ClassId × FieldType)} {h : zH} : FrameBlind (va_Pc As (fun U => z_Rep D zcl T h U.heap ∧ va_K D zcl T U ∧ zN T U)) := by
  intro a U g mk ⟨q0, q1, q2, q3⟩
  exact ⟨q0, q1, va_K.moved (u := U) (U := U.calling g mk a) (Vm.Alike.refl U.vm) q2, q3.same rfl⟩
section ZCALLS
variable {X : zX} {cc : ByteArray} {nL : Nat} {own : String} {rm : Room} {k n pc : Nat} {lv lv' : List (Nat × Value)} {st : List Value} {h : zH}
theorem z_callB (C : zB X cc nL own rm) {y : MethodName} {bytes : ByteArray} {maxL : Nat} {ret : Option FieldType} {rmc : Room} {idx na : Nat} (hcw : Cond.code y bytes maxL ret ∈ zws) (hini : Cond.initialized y.cls ∈ zws) (hlink : Cond.methodLink own idx y ∈ zws) (hd : y.cls ≠ "java/lang/invoke/MethodHandle" ∧ y.cls ≠ "java/lang/invoke/VarHandle" ∧ (parseMethodDescriptor y.desc).map (fun d => d.parameters.length) = some na) (hR : rmc.frames + 1 ≤ rm.frames ∧ 8 + (maxL + 11) + rmc.locals ≤ rm.locals) :
    CallB (x_R X) (x_s X) (x_a X) own idx y bytes maxL ret (Cond.code y bytes maxL ret :: zws) rmc rmc.cells rmc.slots na := by
  obtain ⟨⟨hx, hb, hml, hown, hts⟩, hK, hT, hRm, hA, hN⟩ := C
  refine callB_of (Ts := zws) na hts (fun w hw => ?_) rfl rfl rfl (hts _ hini) (hts _ hlink) hd (by rw [hRm]; exact hR)
  rcases List.mem_cons.mp hw with rfl | hw
  · exact ⟨hcw, Or.inl rfl⟩
  · exact ⟨hw, z_good w hw⟩
/-- behind a call -/
theorem z_after {rmc : Room} {As : Array Value} {r : Option Value} {h1 : zH} {H : Heap} {locs : List Loc} {g : JFrame} {rest : List Value} (hA : ∀ q, (x_H X).size ≤ q → x_A X q) (hI : zI X h H locs) (hr : va_Run (x_p X) (x_l X) (x_e X) (x_R X) (x_s X) (x_m X) (x_a X) (x_b X) (x_t X) (x_c X) H locs k n rmc.cells rmc.slots g rest (zPost (x_D X) (x_T X) h r h1 As) (z_A h))
    (kk : ∀ (H1 : Heap) (locs1 : List Loc), zI X h1 H1 locs1 → zWW X H1 locs1 (k + rmc.cells) (n + rmc.slots) { g with pc := g.pc + 3, stack := r.toList ++ rest }) : zWW X H locs k n g := by
  have hzA : ∀ q, z_A h q → x_A X q := by
    intro q hq
    rcases hq with hq | hq
    · exact hI.2.1 q hq
    · exact hA q (Nat.le_trans (Nat.le_trans hI.2.2.1 (Nat.le_of_eq hI.1.1)) hq)
  intro T hT XX
  obtain ⟨v, st₀, t, T', L, e0, X', hL, e1, e2, ⟨ho, hrep, hdom, hF⟩, goes⟩ := hr T hT XX
  cases ho
  rw [← e1] at hrep
  have hF1 : H.size ≤ T'.heap.size := by rw [e1, ← e0]; exact hF.1
  have hF2 : ∀ q : Nat, q < H.size → ¬ z_A h q → T'.heap[q]? = H[q]? := fun q h1 h2 => by rw [e1, ← e0]; exact hF.2 q (by rw [e0]; exact h1) h2
  obtain ⟨t2, a1, b1⟩ := kk T'.heap (locs ++ L) ⟨hrep, fun a ha => hzA a (hdom a ha), Nat.le_trans hI.2.2.1 hF1, fun q h1 h2 => by rw [hF2 q (Nat.lt_of_lt_of_le h1 hI.2.2.1) (fun z => h2 (hzA q z))]; exact hI.2.2.2.1 q h1 h2, fun q hq => by
    rcases List.mem_append.mp hq with h | h
    · exact hI.2.2.2.2 q h
    · exact hzA _ (hL q h)⟩ T' rfl X'
  exact ⟨t2, goes t2 a1, b1⟩
theorem z_pre {As : List Value} {H : Heap} {locs : List Loc} (C : zB X cc nL own rm) (hI : zI X h H locs) : ∀ U : State, U.heap = H → (x_s X).WarmedH U.vm → (va_Pc As (fun U => z_Rep (x_D X) zcl (x_T X) h U.heap ∧ va_K (x_D X) zcl (x_T X) U ∧ zN (x_T X) U)) As.toArray U :=
  fun U hU hW => ⟨rfl, by rw [hU]; exact hI.1, va_K.moved hW.alike C.2.1, C.2.2.2.2.2.warm hW⟩
/-- the class of the object at a -/
def zis (h : zH) (a ci : Nat) : Bool := match h.1 a with
  | some (.inr (c, _)) => c == ci
  | _ => false
theorem z_recv {a ci N : Nat} {CN : String} {T : u_T} {H : Heap} {locs : List Loc} (C : zB X cc nL own rm) (hI : zI X h H locs) (hc : zcl[ci]? = some (CN, T, N)) (hz : zis h a ci = true) : ∃ cell : Cell, H[a]? = some cell ∧ cell.vm.isStatics = false ∧ (x_s X).vm.findClass CN = some cell.cls := by
  unfold zis at hz
  split at hz
  · rename_i c fs he
    have hcc : c = ci := by simpa using hz
    subst hcc
    obtain ⟨r, h1, h2, cell, g1, g2, g3, -⟩ := hI.1.2 a _ he
    exact ⟨cell, g1, by rw [g3]; rfl, by rw [g2]; exact (C.2.1.1 c _ hc).2.1⟩
  · cases hz
/-- what a program does at a call of an object's method -/
def zck {α : Type} (b : Bool) (f : Option α) : Option α := if b = true then f else none
theorem zck_some {α : Type} {b : Bool} {f : Option α} {r : α} (h : zck b f = some r) : b = true ∧ f = some r := by
  unfold zck at h
  split at h
  · rename_i hb; exact ⟨hb, h⟩
  · cases h
theorem z_callV (C : zB X cc nL own rm) {y : MethodName} {bytes : ByteArray} {maxL : Nat} {ret : Option FieldType} {rmc : Room} {idx na a ci N : Nat} {CN : String} {T : u_T} {As stk : List Value} {r : Option Value} {h1 : zH} (hM : zM (x_l X) y bytes maxL ret rmc (x_D X) (x_T X) (.ref a :: As) h r h1) (hc : zcl[ci]? = some (CN, T, N)) (hz : zis h a ci = true) (hcw : Cond.code y bytes maxL ret ∈ zws) (hini : Cond.initialized y.cls ∈ zws) (hlink : Cond.methodLink own idx y ∈ zws) (hinst : Cond.instanceMethod y ∈ zws) (hsel : Cond.selects CN y y ∈ zws)
    (hd : y.cls ≠ "java/lang/invoke/MethodHandle" ∧ y.cls ≠ "java/lang/invoke/VarHandle" ∧ (parseMethodDescriptor y.desc).map (fun d => d.parameters.length) = some na) (hna : As.length = na) (hR : rmc.frames + 1 ≤ rm.frames ∧ 8 + (maxL + 11) + rmc.locals ≤ rm.locals) (hcs : k + rmc.cells ≤ rm.cells ∧ n + rmc.slots ≤ rm.slots) (hs : stk = As.reverse ++ .ref a :: st) (hrm : (st.map fun v => v.category).sum ≤ 8) (d : decode cc pc = .ok (.invokevirtual idx, 3))
    (K : Zt X nL (k + rmc.cells) (n + rmc.slots) (pc + 3) lv (r.toList ++ st) h1) : Zt X nL k n pc lv stk h := by
  intro H locs ls hI hl
  have hB := z_callB C (idx := idx) (rmc := rmc) hcw hini hlink hd hR
  have CC := C
  obtain ⟨⟨hx, hb, hml, hown, hts⟩, hK, hT, hRm, hA, hN⟩ := CC
  refine z_after hA hI (va_runV (As := As) (rest := st) (g := F0 (x_m X) pc ls stk) ⟨hx, hb, hml, hown, hts⟩ hM ⟨hB, hts _ hinst, hts _ hsel⟩ ⟨z_blind, z_recv C hI hc hz, z_pre C hI⟩ rfl hna hl.1 hs (lv_room hrm) d (by rw [hRm]; exact hcs)) ?_
  exact fun H1 locs1 hI1 => K H1 locs1 ls hI1 hl
theorem z_callS (C : zB X cc nL own rm) {y : MethodName} {bytes : ByteArray} {maxL : Nat} {ret : Option FieldType} {rmc : Room} {idx na : Nat} {As stk : List Value} {r : Option Value} {h1 : zH} (hM : zM (x_l X) y bytes maxL ret rmc (x_D X) (x_T X) As h r h1) (hcw : Cond.code y bytes maxL ret ∈ zws) (hini : Cond.initialized y.cls ∈ zws) (hlink : Cond.methodLink own idx y ∈ zws) (hstat : Cond.static y ∈ zws)
    (hd : y.cls ≠ "java/lang/invoke/MethodHandle" ∧ y.cls ≠ "java/lang/invoke/VarHandle" ∧ (parseMethodDescriptor y.desc).map (fun d => d.parameters.length) = some na) (hna : As.length = na) (hR : rmc.frames + 1 ≤ rm.frames ∧ 8 + (maxL + 11) + rmc.locals ≤ rm.locals) (hcs : k + rmc.cells ≤ rm.cells ∧ n + rmc.slots ≤ rm.slots) (hs : stk = As.reverse ++ st) (hrm : (st.map fun v => v.category).sum ≤ 8) (d : decode cc pc = .ok (.invokestatic idx, 3))
    (K : Zt X nL (k + rmc.cells) (n + rmc.slots) (pc + 3) lv (r.toList ++ st) h1) : Zt X nL k n pc lv stk h := by
  intro H locs ls hI hl
  have hB := z_callB C (idx := idx) (rmc := rmc) hcw hini hlink hd hR
  have CC := C
  obtain ⟨⟨hx, hb, hml, hown, hts⟩, hK, hT, hRm, hA, hN⟩ := CC
  refine z_after hA hI (va_runS (As := As) (rest := st) (g := F0 (x_m X) pc ls stk) ⟨hx, hb, hml, hown, hts⟩ hM ⟨hB, hts _ hstat⟩ ⟨z_blind, z_pre C hI⟩ rfl hna hl.1 hs (lv_room hrm) d (by rw [hRm]; exact hcs)) ?_
  exact fun H1 locs1 hI1 => K H1 locs1 ls hI1 hl
theorem z_callI (C : zB X cc nL own rm) {y : MethodName} {bytes : ByteArray} {maxL : Nat} {rmc : Room} {idx na a : Nat} {As stk : List Value} {h1 : zH} (hM : zM (x_l X) y bytes maxL none rmc (x_D X) (x_T X) (.ref a :: As) h none h1) (hcw : Cond.code y bytes maxL none ∈ zws) (hini : Cond.initialized y.cls ∈ zws) (hlink : Cond.methodLink own idx y ∈ zws) (hinst : Cond.instanceMethod y ∈ zws) (hy : y.name = "<init>")
    (hd : y.cls ≠ "java/lang/invoke/MethodHandle" ∧ y.cls ≠ "java/lang/invoke/VarHandle" ∧ (parseMethodDescriptor y.desc).map (fun d => d.parameters.length) = some na) (hna : As.length = na) (hR : rmc.frames + 1 ≤ rm.frames ∧ 8 + (maxL + 11) + rmc.locals ≤ rm.locals) (hcs : k + rmc.cells ≤ rm.cells ∧ n + rmc.slots ≤ rm.slots) (hs : stk = As.reverse ++ .ref a :: st) (hrm : (st.map fun v => v.category).sum ≤ 8) (d : decode cc pc = .ok (.invokespecial idx, 3))
    (K : Zt X nL (k + rmc.cells) (n + rmc.slots) (pc + 3) lv st h1) : Zt X nL k n pc lv stk h := by
  intro H locs ls hI hl
  have hB := z_callB C (idx := idx) (rmc := rmc) hcw hini hlink hd hR
  have CC := C
  obtain ⟨⟨hx, hb, hml, hown, hts⟩, hK, hT, hRm, hA, hN⟩ := CC
  refine z_after hA hI (va_runI (As := As) (rest := st) (g := F0 (x_m X) pc ls stk) ⟨hx, hb, hml, hown, hts⟩ hM ⟨hB, hy, hts _ hinst⟩ ⟨z_blind, z_pre C hI⟩ rfl hna hl.1 hs (lv_room hrm) d (by rw [hRm]; exact hcs)) ?_
  exact fun H1 locs1 hI1 => K H1 locs1 ls hI1 hl
/-- a private constructor of a class of the same nest -/
theorem z_callIN (C : zB X cc nL own rm) {y : MethodName} {bytes : ByteArray} {maxL : Nat} {rmc : Room} {idx na a : Nat} {host : String} {As stk : List Value} {h1 : zH} (hM : zM (x_l X) y bytes maxL none rmc (x_D X) (x_T X) (.ref a :: As) h none h1) (hcw : Cond.code y bytes maxL none ∈ zws) (hini : Cond.initialized y.cls ∈ zws) (hlink : Cond.methodLinkNest own idx y host ∈ znw) (hinst : Cond.instanceMethod y ∈ zws) (hy : y.name = "<init>")
    (hd : y.cls ≠ "java/lang/invoke/MethodHandle" ∧ y.cls ≠ "java/lang/invoke/VarHandle" ∧ (parseMethodDescriptor y.desc).map (fun d => d.parameters.length) = some na) (hna : As.length = na) (hR : rmc.frames + 1 ≤ rm.frames ∧ 8 + (maxL + 11) + rmc.locals ≤ rm.locals) (hcs : k + rmc.cells ≤ rm.cells ∧ n + rmc.slots ≤ rm.slots) (hs : stk = As.reverse ++ .ref a :: st) (hrm : (st.map fun v => v.category).sum ≤ 8) (d : decode cc pc = .ok (.invokespecial idx, 3))
    (K : Zt X nL (k + rmc.cells) (n + rmc.slots) (pc + 3) lv st h1) : Zt X nL k n pc lv stk h := by
  intro H locs ls hI hl
  have CC := C
  obtain ⟨⟨hx, hb, hml, hown, hts⟩, hK, hT, hRm, hA, hN⟩ := CC
  have hB : va_CN (x_R X) (x_s X) (x_a X) own idx y host bytes maxL none (Cond.code y bytes maxL none :: zws) rmc rmc.cells rmc.slots na := by
    refine va_cnB (Ts := zws) na hts (fun w hw => ?_) rfl rfl rfl (hN.1 _ hlink) (hts _ hini) hd (by rw [hRm]; exact hR)
    rcases List.mem_cons.mp hw with rfl | hw
    · exact ⟨hcw, Or.inl rfl⟩
    · exact ⟨hw, z_good w hw⟩
  refine z_after hA hI (va_runIN (As := As) (rest := st) (g := F0 (x_m X) pc ls stk) ⟨hx, hb, hml, hown, hts⟩ hM ⟨hB, hy, hts _ hinst⟩ ⟨z_blind, z_pre C hI⟩ rfl hna hl.1 hs (lv_room hrm) d (by rw [hRm]; exact hcs)) ?_
  exact fun H1 locs1 hI1 => K H1 locs1 ls hI1 hl
theorem z_objInit (C : zB X cc nL own rm) {idx a : Nat} (hlink : Cond.methodLink own idx Lib.objectInit ∈ zws) (hinst : Cond.instanceMethod Lib.objectInit ∈ zws) (hcode : Cond.code Lib.objectInit ⟨#[0xb1]⟩ 1 none ∈ zws) (hfr : 1 ≤ rm.frames) (hlo : (st.map fun v => v.category).sum + 12 ≤ rm.locals) (d : decode cc pc = .ok (.invokespecial idx, 3))
    (K : Zt X nL k n (pc + 3) lv st h) : Zt X nL k n pc lv (.ref a :: st) h := by
  intro H locs ls hI hl
  obtain ⟨⟨hx, hb, hml, hown, hts⟩, hK, hT, hRm, hA, hN⟩ := C
  exact W.objInit hx hb hown (hts _ hlink) (hts _ hinst) (hts _ hcode) rfl (by rw [hml]; exact hl.1) rfl d (by rw [hRm]; exact hfr) (by rw [hRm]; show 2 * 0 + _ + 12 ≤ _; omega) (K H locs ls hI hl)
/-- returns -/
theorem z_end {h0 h1 : zH} {ret : Option FieldType} {r : Option Value} {H : Heap} {locs : List Loc} (E : zR X ret rm h0 r h1) (hI : zI X h1 H locs) : (∀ t : State, t.heap = H → (x_s X).WarmedH t.vm → zPost (x_D X) (x_T X) h0 r h1 (x_a X) (x_s X) (.returned r) t) ∧ ∀ q ∈ locs, z_A h0 q.base := by
  obtain ⟨e1, e2, e3, e4, e5⟩ := E
  refine ⟨fun t ht hW => ⟨rfl, by rw [ht]; exact hI.1, fun a ha => by rw [← e3]; exact hI.2.1 a ha, ?_⟩, fun q hq => by rw [← e3]; exact hI.2.2.2.2 q hq⟩
  have hS := hI.2.2
  rw [e3, e4] at hS
  exact hS.F ht
theorem z_iret (C : zB X cc nL own rm) {h0 h1 : zH} {v v1 : Int32} (E : zR X (some .int) rm h0 (some (.int v1)) h1) (hk : k ≤ rm.cells) (hn : n ≤ rm.slots) (d : decode cc pc = .ok (.ireturn, 1)) (hf : some (v, h) = some (v1, h1)) : Zt X nL k n pc lv [.int v] h := by
  cases hf
  intro H locs ls hI hl
  obtain ⟨q1, q2⟩ := z_end E hI
  have e5 := E.2.2.2.2
  unfold zWW
  rw [e5]
  exact W.widen hk hn (W.iret C.1.1 C.1.2.1 E.1 q1 q2 d E.2.1)
/-- a boolean's return: 0 or 1 -/
def zrb (v : Int32) (h : zH) : Option (Int32 × zH) := if v = 0 ∨ v = 1 then some (v, h) else none
theorem z_zret (C : zB X cc nL own rm) {h0 h1 : zH} {v v1 : Int32} (E : zR X (some .boolean) rm h0 (some (.int v1)) h1) (hk : k ≤ rm.cells) (hn : n ≤ rm.slots) (d : decode cc pc = .ok (.ireturn, 1)) (hf : zrb v h = some (v1, h1)) : Zt X nL k n pc lv [.int v] h := by
  unfold zrb at hf
  split at hf
  · rename_i h01
    cases hf
    intro H locs ls hI hl
    obtain ⟨q1, q2⟩ := z_end E hI
    have e5 := E.2.2.2.2
    unfold zWW
    rw [e5]
    exact W.widen hk hn (W.zret C.1.1 C.1.2.1 E.1 (z_01 h01).1 q1 q2 d E.2.1)
  · cases hf
theorem z_lret (C : zB X cc nL own rm) {h0 h1 : zH} {v v1 : Int64} (E : zR X (some .long) rm h0 (some (.long v1)) h1) (hk : k ≤ rm.cells) (hn : n ≤ rm.slots) (d : decode cc pc = .ok (.lreturn, 1)) (hf : some (v, h) = some (v1, h1)) : Zt X nL k n pc lv [.long v] h := by
  cases hf
  intro H locs ls hI hl
  obtain ⟨q1, q2⟩ := z_end E hI
  have e5 := E.2.2.2.2
  unfold zWW
  rw [e5]
  exact W.widen hk hn (W.lret C.1.1 C.1.2.1 E.1 q1 q2 d E.2.1)
theorem z_aret (C : zB X cc nL own rm) {h0 h1 : zH} {v v1 : Nat} {cn : String} (E : zR X (some (.object cn)) rm h0 (some (.ref v1)) h1) (hk : k ≤ rm.cells) (hn : n ≤ rm.slots) (d : decode cc pc = .ok (.areturn, 1)) (hf : some (v, h) = some (v1, h1)) : Zt X nL k n pc lv [.ref v] h := by
  cases hf
  intro H locs ls hI hl
  obtain ⟨q1, q2⟩ := z_end E hI
  have e5 := E.2.2.2.2
  unfold zWW
  rw [e5]
  exact W.widen hk hn (W.aret C.1.1 C.1.2.1 E.1 (Or.inl ⟨_, rfl⟩) (Or.inr ⟨_, rfl⟩) q1 q2 d E.2.1)
theorem z_vret (C : zB X cc nL own rm) {h0 h1 : zH} {u1 : Unit} (E : zR X none rm h0 none h1) (hk : k ≤ rm.cells) (hn : n ≤ rm.slots) (d : decode cc pc = .ok (.return_, 1)) (hf : some ((), h) = some (u1, h1)) : Zt X nL k n pc lv [] h := by
  cases hf
  intro H locs ls hI hl
  obtain ⟨q1, q2⟩ := z_end E hI
  have e5 := E.2.2.2.2
  unfold zWW
  rw [e5]
  exact W.widen hk hn (W.vret C.1.1 C.1.2.1 E.1 q1 q2 d E.2.1)
end ZCALLS
/-- a method's entry -/
theorem z_enter {l : Launch} {y : MethodName} {bytes : ByteArray} {maxL : Nat} {ret : Option FieldType} {rm : Room} {D : va_G} {T : List (ClassId × FieldType)} {As : List Value} {h h1 : zH} {r : Option Value} (hy : plainName y.cls = true) (hT : T.map (fun q => q.2) = ztl) (hlen : (lg_sl As).length ≤ maxL)
    (body : ∀ X : zX, x_l X = l → x_D X = D → x_T X = T → ((y.name = "<init>") → (x_t X).name = "<init>") → zB X bytes maxL y.cls rm → zR X ret rm h r h1 → Zt X maxL 0 0 0 (lv_args 0 As) [] h) : zM l y bytes maxL ret rm D T As h r h1 := by
  refine Met.ofW (cc := bytes) (maxL := maxL) (ret := ret) hy rfl ?_
  intro p e s m args below meth c s₁ B hml hv
  obtain ⟨rfl, hrep, hK, hN⟩ := hv
  have hts0 := atoms_spec (ws := Cond.code y bytes maxL ret :: zws) B.pre
  have hown : s.vm.findClass y.cls = some m.cls := findClass_of_methodNamed B.named
  have hl := lv_entry As (n := maxL) hlen
  rw [lg_entry_eq]
  refine body (p, l, e, rm, s, m, As.toArray, below, meth, c, D, T, z_A h, s.heap, MQ below (zPost D T h r h1) As.toArray s rm.cells rm.slots (z_A h)) rfl rfl rfl (fun hin => ?_) ⟨⟨B.exec, B.bytes, hml, hown, fun w hw => hts0 w (List.mem_cons_of_mem _ hw)⟩, hK, hT, rfl, fun q hq => Or.inr (by rw [← hrep.1]; exact hq), hN⟩ ⟨B.returns, B.notSynchronized, rfl, rfl, rfl⟩ s.heap [] _ ⟨hrep, fun a ha => Or.inl ha, va_S.rf⟩ hl
  have := (name_of_methodNamed B.named B.method).1
  rw [hin] at this
  exact this
end
