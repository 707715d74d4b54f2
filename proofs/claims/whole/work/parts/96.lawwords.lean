/-! the words and the instructions of the law -/
theorem w_56 : Cond.initialized R_Law ∈ zws := List.mem_filter.mpr ⟨List.mem_of_getElem? (i := 56) (by decide +kernel), by decide +kernel⟩
theorem w_70 : Cond.classLink R_Law 7 R_LT ∈ zws := List.mem_filter.mpr ⟨List.mem_of_getElem? (i := 70) (by decide +kernel), by decide +kernel⟩
theorem w_71 : Cond.instantiable R_LT 10 ∈ zws := List.mem_filter.mpr ⟨List.mem_of_getElem? (i := 71) (by decide +kernel), by decide +kernel⟩
theorem w_72 : Cond.methodLink R_Law 15 (⟨R_LT, "<init>", "(II)V"⟩ : MethodName) ∈ zws := List.mem_filter.mpr ⟨List.mem_of_getElem? (i := 72) (by decide +kernel), by decide +kernel⟩
theorem w_73 : Cond.instanceMethod (⟨R_LT, "<init>", "(II)V"⟩ : MethodName) ∈ zws := List.mem_filter.mpr ⟨List.mem_of_getElem? (i := 73) (by decide +kernel), by decide +kernel⟩
theorem w_74 : Cond.code (⟨R_LT, "<init>", "(II)V"⟩ : MethodName) prog_1_method_1_code 5 none ∈ zws := List.mem_filter.mpr ⟨List.mem_of_getElem? (i := 74) (by decide +kernel), by decide +kernel⟩
theorem w_297 : Cond.methodLink R_Law 21 (⟨R_LT, "ground", "(II)Z"⟩ : MethodName) ∈ zws := List.mem_filter.mpr ⟨List.mem_of_getElem? (i := 297) (by decide +kernel), by decide +kernel⟩
theorem w_298 : Cond.instanceMethod (⟨R_LT, "ground", "(II)Z"⟩ : MethodName) ∈ zws := List.mem_filter.mpr ⟨List.mem_of_getElem? (i := 298) (by decide +kernel), by decide +kernel⟩
theorem w_299 : Cond.selects R_LT (⟨R_LT, "ground", "(II)Z"⟩ : MethodName) (⟨R_LT, "ground", "(II)Z"⟩ : MethodName) ∈ zws := List.mem_filter.mpr ⟨List.mem_of_getElem? (i := 299) (by decide +kernel), by decide +kernel⟩
theorem w_300 : Cond.code (⟨R_LT, "ground", "(II)Z"⟩ : MethodName) prog_1_method_2_code 3 (some .boolean) ∈ zws := List.mem_filter.mpr ⟨List.mem_of_getElem? (i := 300) (by decide +kernel), by decide +kernel⟩
theorem w_318 : Cond.methodLink R_Law 26 (⟨R_LT, "prices", "(III)Z"⟩ : MethodName) ∈ zws := List.mem_filter.mpr ⟨List.mem_of_getElem? (i := 318) (by decide +kernel), by decide +kernel⟩
theorem w_319 : Cond.instanceMethod (⟨R_LT, "prices", "(III)Z"⟩ : MethodName) ∈ zws := List.mem_filter.mpr ⟨List.mem_of_getElem? (i := 319) (by decide +kernel), by decide +kernel⟩
theorem w_320 : Cond.selects R_LT (⟨R_LT, "prices", "(III)Z"⟩ : MethodName) (⟨R_LT, "prices", "(III)Z"⟩ : MethodName) ∈ zws := List.mem_filter.mpr ⟨List.mem_of_getElem? (i := 320) (by decide +kernel), by decide +kernel⟩
theorem w_321 : Cond.code (⟨R_LT, "prices", "(III)Z"⟩ : MethodName) prog_1_method_3_code 4 (some .boolean) ∈ zws := List.mem_filter.mpr ⟨List.mem_of_getElem? (i := 321) (by decide +kernel), by decide +kernel⟩
theorem w_326 : Cond.methodLink R_Law 33 (⟨R_LT, "span", "(IIIJ)I"⟩ : MethodName) ∈ zws := List.mem_filter.mpr ⟨List.mem_of_getElem? (i := 326) (by decide +kernel), by decide +kernel⟩
theorem w_327 : Cond.instanceMethod (⟨R_LT, "span", "(IIIJ)I"⟩ : MethodName) ∈ zws := List.mem_filter.mpr ⟨List.mem_of_getElem? (i := 327) (by decide +kernel), by decide +kernel⟩
theorem w_328 : Cond.selects R_LT (⟨R_LT, "span", "(IIIJ)I"⟩ : MethodName) (⟨R_LT, "span", "(IIIJ)I"⟩ : MethodName) ∈ zws := List.mem_filter.mpr ⟨List.mem_of_getElem? (i := 328) (by decide +kernel), by decide +kernel⟩
theorem w_329 : Cond.code (⟨R_LT, "span", "(IIIJ)I"⟩ : MethodName) prog_1_method_4_code 8 (some .int) ∈ zws := List.mem_filter.mpr ⟨List.mem_of_getElem? (i := 329) (by decide +kernel), by decide +kernel⟩
theorem w_339 : Cond.methodLink R_Law 38 (⟨R_LT, "drop", "(I)Z"⟩ : MethodName) ∈ zws := List.mem_filter.mpr ⟨List.mem_of_getElem? (i := 339) (by decide +kernel), by decide +kernel⟩
theorem w_340 : Cond.instanceMethod (⟨R_LT, "drop", "(I)Z"⟩ : MethodName) ∈ zws := List.mem_filter.mpr ⟨List.mem_of_getElem? (i := 340) (by decide +kernel), by decide +kernel⟩
theorem w_341 : Cond.selects R_LT (⟨R_LT, "drop", "(I)Z"⟩ : MethodName) (⟨R_LT, "drop", "(I)Z"⟩ : MethodName) ∈ zws := List.mem_filter.mpr ⟨List.mem_of_getElem? (i := 341) (by decide +kernel), by decide +kernel⟩
theorem w_342 : Cond.code (⟨R_LT, "drop", "(I)Z"⟩ : MethodName) prog_1_method_5_code 2 (some .boolean) ∈ zws := List.mem_filter.mpr ⟨List.mem_of_getElem? (i := 342) (by decide +kernel), by decide +kernel⟩
theorem w_347 : Cond.methodLink R_Law 43 (⟨R_LT, "fixed", "(II)Z"⟩ : MethodName) ∈ zws := List.mem_filter.mpr ⟨List.mem_of_getElem? (i := 347) (by decide +kernel), by decide +kernel⟩
theorem w_348 : Cond.instanceMethod (⟨R_LT, "fixed", "(II)Z"⟩ : MethodName) ∈ zws := List.mem_filter.mpr ⟨List.mem_of_getElem? (i := 348) (by decide +kernel), by decide +kernel⟩
theorem w_349 : Cond.selects R_LT (⟨R_LT, "fixed", "(II)Z"⟩ : MethodName) (⟨R_LT, "fixed", "(II)Z"⟩ : MethodName) ∈ zws := List.mem_filter.mpr ⟨List.mem_of_getElem? (i := 349) (by decide +kernel), by decide +kernel⟩
theorem w_350 : Cond.code (⟨R_LT, "fixed", "(II)Z"⟩ : MethodName) prog_1_method_6_code 3 (some .boolean) ∈ zws := List.mem_filter.mpr ⟨List.mem_of_getElem? (i := 350) (by decide +kernel), by decide +kernel⟩
theorem w_356 : Cond.methodLink R_Law 47 (⟨R_LT, "slopes", "(III)Z"⟩ : MethodName) ∈ zws := List.mem_filter.mpr ⟨List.mem_of_getElem? (i := 356) (by decide +kernel), by decide +kernel⟩
theorem w_357 : Cond.instanceMethod (⟨R_LT, "slopes", "(III)Z"⟩ : MethodName) ∈ zws := List.mem_filter.mpr ⟨List.mem_of_getElem? (i := 357) (by decide +kernel), by decide +kernel⟩
theorem w_358 : Cond.selects R_LT (⟨R_LT, "slopes", "(III)Z"⟩ : MethodName) (⟨R_LT, "slopes", "(III)Z"⟩ : MethodName) ∈ zws := List.mem_filter.mpr ⟨List.mem_of_getElem? (i := 358) (by decide +kernel), by decide +kernel⟩
theorem w_359 : Cond.code (⟨R_LT, "slopes", "(III)Z"⟩ : MethodName) prog_1_method_7_code 4 (some .boolean) ∈ zws := List.mem_filter.mpr ⟨List.mem_of_getElem? (i := 359) (by decide +kernel), by decide +kernel⟩
theorem w_360 : Cond.methodLink R_Law 51 (⟨R_LT, "run", "()I"⟩ : MethodName) ∈ zws := List.mem_filter.mpr ⟨List.mem_of_getElem? (i := 360) (by decide +kernel), by decide +kernel⟩
theorem w_361 : Cond.instanceMethod (⟨R_LT, "run", "()I"⟩ : MethodName) ∈ zws := List.mem_filter.mpr ⟨List.mem_of_getElem? (i := 361) (by decide +kernel), by decide +kernel⟩
theorem w_362 : Cond.selects R_LT (⟨R_LT, "run", "()I"⟩ : MethodName) (⟨R_LT, "run", "()I"⟩ : MethodName) ∈ zws := List.mem_filter.mpr ⟨List.mem_of_getElem? (i := 362) (by decide +kernel), by decide +kernel⟩
theorem w_363 : Cond.code (⟨R_LT, "run", "()I"⟩ : MethodName) prog_1_method_8_code 3 (some .int) ∈ zws := List.mem_filter.mpr ⟨List.mem_of_getElem? (i := 363) (by decide +kernel), by decide +kernel⟩
theorem w_584 : Cond.methodLink R_Law 56 (⟨R_LT, "level", "(I)I"⟩ : MethodName) ∈ zws := List.mem_filter.mpr ⟨List.mem_of_getElem? (i := 584) (by decide +kernel), by decide +kernel⟩
theorem w_585 : Cond.instanceMethod (⟨R_LT, "level", "(I)I"⟩ : MethodName) ∈ zws := List.mem_filter.mpr ⟨List.mem_of_getElem? (i := 585) (by decide +kernel), by decide +kernel⟩
theorem w_586 : Cond.selects R_LT (⟨R_LT, "level", "(I)I"⟩ : MethodName) (⟨R_LT, "level", "(I)I"⟩ : MethodName) ∈ zws := List.mem_filter.mpr ⟨List.mem_of_getElem? (i := 586) (by decide +kernel), by decide +kernel⟩
theorem w_587 : Cond.code (⟨R_LT, "level", "(I)I"⟩ : MethodName) prog_1_method_9_code 2 (some .int) ∈ zws := List.mem_filter.mpr ⟨List.mem_of_getElem? (i := 587) (by decide +kernel), by decide +kernel⟩
theorem w_588 : Cond.methodLink R_Law 61 (⟨R_LT, "cost", "()J"⟩ : MethodName) ∈ zws := List.mem_filter.mpr ⟨List.mem_of_getElem? (i := 588) (by decide +kernel), by decide +kernel⟩
theorem w_589 : Cond.instanceMethod (⟨R_LT, "cost", "()J"⟩ : MethodName) ∈ zws := List.mem_filter.mpr ⟨List.mem_of_getElem? (i := 589) (by decide +kernel), by decide +kernel⟩
theorem w_590 : Cond.selects R_LT (⟨R_LT, "cost", "()J"⟩ : MethodName) (⟨R_LT, "cost", "()J"⟩ : MethodName) ∈ zws := List.mem_filter.mpr ⟨List.mem_of_getElem? (i := 590) (by decide +kernel), by decide +kernel⟩
theorem w_591 : Cond.code (⟨R_LT, "cost", "()J"⟩ : MethodName) prog_1_method_10_code 1 (some .long) ∈ zws := List.mem_filter.mpr ⟨List.mem_of_getElem? (i := 591) (by decide +kernel), by decide +kernel⟩
theorem w_593 : Cond.methodLink R_Law 66 (⟨R_LT, "other", "(I)J"⟩ : MethodName) ∈ zws := List.mem_filter.mpr ⟨List.mem_of_getElem? (i := 593) (by decide +kernel), by decide +kernel⟩
theorem w_594 : Cond.instanceMethod (⟨R_LT, "other", "(I)J"⟩ : MethodName) ∈ zws := List.mem_filter.mpr ⟨List.mem_of_getElem? (i := 594) (by decide +kernel), by decide +kernel⟩
theorem w_595 : Cond.selects R_LT (⟨R_LT, "other", "(I)J"⟩ : MethodName) (⟨R_LT, "other", "(I)J"⟩ : MethodName) ∈ zws := List.mem_filter.mpr ⟨List.mem_of_getElem? (i := 595) (by decide +kernel), by decide +kernel⟩
theorem w_596 : Cond.code (⟨R_LT, "other", "(I)J"⟩ : MethodName) prog_1_method_11_code 2 (some .long) ∈ zws := List.mem_filter.mpr ⟨List.mem_of_getElem? (i := 596) (by decide +kernel), by decide +kernel⟩
theorem w_602 : Cond.methodLink R_Law 71 (⟨R_LT, "move", "(II)Z"⟩ : MethodName) ∈ zws := List.mem_filter.mpr ⟨List.mem_of_getElem? (i := 602) (by decide +kernel), by decide +kernel⟩
theorem w_603 : Cond.instanceMethod (⟨R_LT, "move", "(II)Z"⟩ : MethodName) ∈ zws := List.mem_filter.mpr ⟨List.mem_of_getElem? (i := 603) (by decide +kernel), by decide +kernel⟩
theorem w_604 : Cond.selects R_LT (⟨R_LT, "move", "(II)Z"⟩ : MethodName) (⟨R_LT, "move", "(II)Z"⟩ : MethodName) ∈ zws := List.mem_filter.mpr ⟨List.mem_of_getElem? (i := 604) (by decide +kernel), by decide +kernel⟩
theorem w_605 : Cond.code (⟨R_LT, "move", "(II)Z"⟩ : MethodName) prog_1_method_12_code 5 (some .boolean) ∈ zws := List.mem_filter.mpr ⟨List.mem_of_getElem? (i := 605) (by decide +kernel), by decide +kernel⟩
theorem w_606 : Cond.methodLink R_Law 75 (⟨R_LT, "speed", "(I)Z"⟩ : MethodName) ∈ zws := List.mem_filter.mpr ⟨List.mem_of_getElem? (i := 606) (by decide +kernel), by decide +kernel⟩
theorem w_607 : Cond.instanceMethod (⟨R_LT, "speed", "(I)Z"⟩ : MethodName) ∈ zws := List.mem_filter.mpr ⟨List.mem_of_getElem? (i := 607) (by decide +kernel), by decide +kernel⟩
theorem w_608 : Cond.selects R_LT (⟨R_LT, "speed", "(I)Z"⟩ : MethodName) (⟨R_LT, "speed", "(I)Z"⟩ : MethodName) ∈ zws := List.mem_filter.mpr ⟨List.mem_of_getElem? (i := 608) (by decide +kernel), by decide +kernel⟩
theorem w_609 : Cond.code (⟨R_LT, "speed", "(I)Z"⟩ : MethodName) prog_1_method_13_code 2 (some .boolean) ∈ zws := List.mem_filter.mpr ⟨List.mem_of_getElem? (i := 609) (by decide +kernel), by decide +kernel⟩
theorem w_610 : Cond.methodLink R_Law 79 (⟨R_LT, "curve", "(II)I"⟩ : MethodName) ∈ zws := List.mem_filter.mpr ⟨List.mem_of_getElem? (i := 610) (by decide +kernel), by decide +kernel⟩
theorem w_611 : Cond.instanceMethod (⟨R_LT, "curve", "(II)I"⟩ : MethodName) ∈ zws := List.mem_filter.mpr ⟨List.mem_of_getElem? (i := 611) (by decide +kernel), by decide +kernel⟩
theorem w_612 : Cond.selects R_LT (⟨R_LT, "curve", "(II)I"⟩ : MethodName) (⟨R_LT, "curve", "(II)I"⟩ : MethodName) ∈ zws := List.mem_filter.mpr ⟨List.mem_of_getElem? (i := 612) (by decide +kernel), by decide +kernel⟩
theorem w_613 : Cond.code (⟨R_LT, "curve", "(II)I"⟩ : MethodName) prog_1_method_14_code 4 (some .int) ∈ zws := List.mem_filter.mpr ⟨List.mem_of_getElem? (i := 613) (by decide +kernel), by decide +kernel⟩
theorem w_633 : Cond.methodLink R_Law 84 (⟨R_LT, "curveAt", "(II)J"⟩ : MethodName) ∈ zws := List.mem_filter.mpr ⟨List.mem_of_getElem? (i := 633) (by decide +kernel), by decide +kernel⟩
theorem w_634 : Cond.instanceMethod (⟨R_LT, "curveAt", "(II)J"⟩ : MethodName) ∈ zws := List.mem_filter.mpr ⟨List.mem_of_getElem? (i := 634) (by decide +kernel), by decide +kernel⟩
theorem w_635 : Cond.selects R_LT (⟨R_LT, "curveAt", "(II)J"⟩ : MethodName) (⟨R_LT, "curveAt", "(II)J"⟩ : MethodName) ∈ zws := List.mem_filter.mpr ⟨List.mem_of_getElem? (i := 635) (by decide +kernel), by decide +kernel⟩
theorem w_636 : Cond.code (⟨R_LT, "curveAt", "(II)J"⟩ : MethodName) prog_1_method_15_code 10 (some .long) ∈ zws := List.mem_filter.mpr ⟨List.mem_of_getElem? (i := 636) (by decide +kernel), by decide +kernel⟩
theorem w_640 : Cond.methodLink R_Law 89 (⟨R_LT, "lorry", "(IIII)Z"⟩ : MethodName) ∈ zws := List.mem_filter.mpr ⟨List.mem_of_getElem? (i := 640) (by decide +kernel), by decide +kernel⟩
theorem w_641 : Cond.instanceMethod (⟨R_LT, "lorry", "(IIII)Z"⟩ : MethodName) ∈ zws := List.mem_filter.mpr ⟨List.mem_of_getElem? (i := 641) (by decide +kernel), by decide +kernel⟩
theorem w_642 : Cond.selects R_LT (⟨R_LT, "lorry", "(IIII)Z"⟩ : MethodName) (⟨R_LT, "lorry", "(IIII)Z"⟩ : MethodName) ∈ zws := List.mem_filter.mpr ⟨List.mem_of_getElem? (i := 642) (by decide +kernel), by decide +kernel⟩
theorem w_643 : Cond.code (⟨R_LT, "lorry", "(IIII)Z"⟩ : MethodName) prog_1_method_16_code 6 (some .boolean) ∈ zws := List.mem_filter.mpr ⟨List.mem_of_getElem? (i := 643) (by decide +kernel), by decide +kernel⟩
theorem w_644 : Cond.methodLink R_Law 94 (⟨R_LT, "lane", "(II)I"⟩ : MethodName) ∈ zws := List.mem_filter.mpr ⟨List.mem_of_getElem? (i := 644) (by decide +kernel), by decide +kernel⟩
theorem w_645 : Cond.instanceMethod (⟨R_LT, "lane", "(II)I"⟩ : MethodName) ∈ zws := List.mem_filter.mpr ⟨List.mem_of_getElem? (i := 645) (by decide +kernel), by decide +kernel⟩
theorem w_646 : Cond.selects R_LT (⟨R_LT, "lane", "(II)I"⟩ : MethodName) (⟨R_LT, "lane", "(II)I"⟩ : MethodName) ∈ zws := List.mem_filter.mpr ⟨List.mem_of_getElem? (i := 646) (by decide +kernel), by decide +kernel⟩
theorem w_647 : Cond.code (⟨R_LT, "lane", "(II)I"⟩ : MethodName) prog_1_method_17_code 3 (some .int) ∈ zws := List.mem_filter.mpr ⟨List.mem_of_getElem? (i := 647) (by decide +kernel), by decide +kernel⟩
theorem w_659 : Cond.methodLink R_Law 98 (⟨R_LT, "order", "(I)I"⟩ : MethodName) ∈ zws := List.mem_filter.mpr ⟨List.mem_of_getElem? (i := 659) (by decide +kernel), by decide +kernel⟩
theorem w_660 : Cond.instanceMethod (⟨R_LT, "order", "(I)I"⟩ : MethodName) ∈ zws := List.mem_filter.mpr ⟨List.mem_of_getElem? (i := 660) (by decide +kernel), by decide +kernel⟩
theorem w_661 : Cond.selects R_LT (⟨R_LT, "order", "(I)I"⟩ : MethodName) (⟨R_LT, "order", "(I)I"⟩ : MethodName) ∈ zws := List.mem_filter.mpr ⟨List.mem_of_getElem? (i := 661) (by decide +kernel), by decide +kernel⟩
theorem w_662 : Cond.code (⟨R_LT, "order", "(I)I"⟩ : MethodName) prog_1_method_18_code 3 (some .int) ∈ zws := List.mem_filter.mpr ⟨List.mem_of_getElem? (i := 662) (by decide +kernel), by decide +kernel⟩
theorem w_676 : Cond.methodLink R_Law 102 (⟨R_LT, "told", "(I)I"⟩ : MethodName) ∈ zws := List.mem_filter.mpr ⟨List.mem_of_getElem? (i := 676) (by decide +kernel), by decide +kernel⟩
theorem w_677 : Cond.instanceMethod (⟨R_LT, "told", "(I)I"⟩ : MethodName) ∈ zws := List.mem_filter.mpr ⟨List.mem_of_getElem? (i := 677) (by decide +kernel), by decide +kernel⟩
theorem w_678 : Cond.selects R_LT (⟨R_LT, "told", "(I)I"⟩ : MethodName) (⟨R_LT, "told", "(I)I"⟩ : MethodName) ∈ zws := List.mem_filter.mpr ⟨List.mem_of_getElem? (i := 678) (by decide +kernel), by decide +kernel⟩
theorem w_679 : Cond.code (⟨R_LT, "told", "(I)I"⟩ : MethodName) prog_1_method_19_code 2 (some .int) ∈ zws := List.mem_filter.mpr ⟨List.mem_of_getElem? (i := 679) (by decide +kernel), by decide +kernel⟩
theorem w_702 : Cond.methodLink R_Law 106 (⟨R_LT, "keeps", "()Z"⟩ : MethodName) ∈ zws := List.mem_filter.mpr ⟨List.mem_of_getElem? (i := 702) (by decide +kernel), by decide +kernel⟩
theorem w_703 : Cond.instanceMethod (⟨R_LT, "keeps", "()Z"⟩ : MethodName) ∈ zws := List.mem_filter.mpr ⟨List.mem_of_getElem? (i := 703) (by decide +kernel), by decide +kernel⟩
theorem w_704 : Cond.selects R_LT (⟨R_LT, "keeps", "()Z"⟩ : MethodName) (⟨R_LT, "keeps", "()Z"⟩ : MethodName) ∈ zws := List.mem_filter.mpr ⟨List.mem_of_getElem? (i := 704) (by decide +kernel), by decide +kernel⟩
theorem w_705 : Cond.code (⟨R_LT, "keeps", "()Z"⟩ : MethodName) prog_1_method_20_code 1 (some .boolean) ∈ zws := List.mem_filter.mpr ⟨List.mem_of_getElem? (i := 705) (by decide +kernel), by decide +kernel⟩
theorem w_731 : Cond.methodLink R_Law 9 (⟨R_Law, "cell", "([II)I"⟩ : MethodName) ∈ zws := List.mem_filter.mpr ⟨List.mem_of_getElem? (i := 731) (by decide +kernel), by decide +kernel⟩
theorem w_732 : Cond.static (⟨R_Law, "cell", "([II)I"⟩ : MethodName) ∈ zws := List.mem_filter.mpr ⟨List.mem_of_getElem? (i := 732) (by decide +kernel), by decide +kernel⟩
theorem w_733 : Cond.code (⟨R_Law, "cell", "([II)I"⟩ : MethodName) method_2_code 2 (some .int) ∈ zws := List.mem_filter.mpr ⟨List.mem_of_getElem? (i := 733) (by decide +kernel), by decide +kernel⟩
theorem w_734 : Cond.classLink R_Law 18 R_Model ∈ zws := List.mem_filter.mpr ⟨List.mem_of_getElem? (i := 734) (by decide +kernel), by decide +kernel⟩
theorem w_735 : Cond.instantiable R_Model 35 ∈ zws := List.mem_filter.mpr ⟨List.mem_of_getElem? (i := 735) (by decide +kernel), by decide +kernel⟩
theorem w_736 : Cond.methodLink R_Law 20 (⟨R_Model, "<init>", "(II)V"⟩ : MethodName) ∈ zws := List.mem_filter.mpr ⟨List.mem_of_getElem? (i := 736) (by decide +kernel), by decide +kernel⟩
theorem w_737 : Cond.instanceMethod (⟨R_Model, "<init>", "(II)V"⟩ : MethodName) ∈ zws := List.mem_filter.mpr ⟨List.mem_of_getElem? (i := 737) (by decide +kernel), by decide +kernel⟩
theorem w_738 : Cond.code (⟨R_Model, "<init>", "(II)V"⟩ : MethodName) prog_10_method_1_code 4 none ∈ zws := List.mem_filter.mpr ⟨List.mem_of_getElem? (i := 738) (by decide +kernel), by decide +kernel⟩
theorem w_848 : Cond.methodLink R_Law 25 (⟨R_Model, "ground", "(II)Z"⟩ : MethodName) ∈ zws := List.mem_filter.mpr ⟨List.mem_of_getElem? (i := 848) (by decide +kernel), by decide +kernel⟩
theorem w_849 : Cond.instanceMethod (⟨R_Model, "ground", "(II)Z"⟩ : MethodName) ∈ zws := List.mem_filter.mpr ⟨List.mem_of_getElem? (i := 849) (by decide +kernel), by decide +kernel⟩
theorem w_850 : Cond.selects R_Model (⟨R_Model, "ground", "(II)Z"⟩ : MethodName) (⟨R_Model, "ground", "(II)Z"⟩ : MethodName) ∈ zws := List.mem_filter.mpr ⟨List.mem_of_getElem? (i := 850) (by decide +kernel), by decide +kernel⟩
theorem w_851 : Cond.code (⟨R_Model, "ground", "(II)Z"⟩ : MethodName) prog_10_method_6_code 3 (some .boolean) ∈ zws := List.mem_filter.mpr ⟨List.mem_of_getElem? (i := 851) (by decide +kernel), by decide +kernel⟩
theorem w_868 : Cond.methodLink R_Law 30 (⟨R_Model, "prices", "(III)Z"⟩ : MethodName) ∈ zws := List.mem_filter.mpr ⟨List.mem_of_getElem? (i := 868) (by decide +kernel), by decide +kernel⟩
theorem w_869 : Cond.instanceMethod (⟨R_Model, "prices", "(III)Z"⟩ : MethodName) ∈ zws := List.mem_filter.mpr ⟨List.mem_of_getElem? (i := 869) (by decide +kernel), by decide +kernel⟩
theorem w_870 : Cond.selects R_Model (⟨R_Model, "prices", "(III)Z"⟩ : MethodName) (⟨R_Model, "prices", "(III)Z"⟩ : MethodName) ∈ zws := List.mem_filter.mpr ⟨List.mem_of_getElem? (i := 870) (by decide +kernel), by decide +kernel⟩
theorem w_871 : Cond.code (⟨R_Model, "prices", "(III)Z"⟩ : MethodName) prog_10_method_8_code 4 (some .boolean) ∈ zws := List.mem_filter.mpr ⟨List.mem_of_getElem? (i := 871) (by decide +kernel), by decide +kernel⟩
theorem w_876 : Cond.methodLink R_Law 37 (⟨R_Model, "span", "(IIIJ)I"⟩ : MethodName) ∈ zws := List.mem_filter.mpr ⟨List.mem_of_getElem? (i := 876) (by decide +kernel), by decide +kernel⟩
theorem w_877 : Cond.instanceMethod (⟨R_Model, "span", "(IIIJ)I"⟩ : MethodName) ∈ zws := List.mem_filter.mpr ⟨List.mem_of_getElem? (i := 877) (by decide +kernel), by decide +kernel⟩
theorem w_878 : Cond.selects R_Model (⟨R_Model, "span", "(IIIJ)I"⟩ : MethodName) (⟨R_Model, "span", "(IIIJ)I"⟩ : MethodName) ∈ zws := List.mem_filter.mpr ⟨List.mem_of_getElem? (i := 878) (by decide +kernel), by decide +kernel⟩
theorem w_879 : Cond.code (⟨R_Model, "span", "(IIIJ)I"⟩ : MethodName) prog_10_method_9_code 8 (some .int) ∈ zws := List.mem_filter.mpr ⟨List.mem_of_getElem? (i := 879) (by decide +kernel), by decide +kernel⟩
theorem w_882 : Cond.methodLink R_Law 42 (⟨R_Model, "drop", "(I)Z"⟩ : MethodName) ∈ zws := List.mem_filter.mpr ⟨List.mem_of_getElem? (i := 882) (by decide +kernel), by decide +kernel⟩
theorem w_883 : Cond.instanceMethod (⟨R_Model, "drop", "(I)Z"⟩ : MethodName) ∈ zws := List.mem_filter.mpr ⟨List.mem_of_getElem? (i := 883) (by decide +kernel), by decide +kernel⟩
theorem w_884 : Cond.selects R_Model (⟨R_Model, "drop", "(I)Z"⟩ : MethodName) (⟨R_Model, "drop", "(I)Z"⟩ : MethodName) ∈ zws := List.mem_filter.mpr ⟨List.mem_of_getElem? (i := 884) (by decide +kernel), by decide +kernel⟩
theorem w_885 : Cond.code (⟨R_Model, "drop", "(I)Z"⟩ : MethodName) prog_10_method_10_code 3 (some .boolean) ∈ zws := List.mem_filter.mpr ⟨List.mem_of_getElem? (i := 885) (by decide +kernel), by decide +kernel⟩
theorem w_886 : Cond.methodLink R_Law 46 (⟨R_Model, "fixed", "(II)Z"⟩ : MethodName) ∈ zws := List.mem_filter.mpr ⟨List.mem_of_getElem? (i := 886) (by decide +kernel), by decide +kernel⟩
theorem w_887 : Cond.instanceMethod (⟨R_Model, "fixed", "(II)Z"⟩ : MethodName) ∈ zws := List.mem_filter.mpr ⟨List.mem_of_getElem? (i := 887) (by decide +kernel), by decide +kernel⟩
theorem w_888 : Cond.selects R_Model (⟨R_Model, "fixed", "(II)Z"⟩ : MethodName) (⟨R_Model, "fixed", "(II)Z"⟩ : MethodName) ∈ zws := List.mem_filter.mpr ⟨List.mem_of_getElem? (i := 888) (by decide +kernel), by decide +kernel⟩
theorem w_889 : Cond.code (⟨R_Model, "fixed", "(II)Z"⟩ : MethodName) prog_10_method_11_code 3 (some .boolean) ∈ zws := List.mem_filter.mpr ⟨List.mem_of_getElem? (i := 889) (by decide +kernel), by decide +kernel⟩
theorem w_890 : Cond.methodLink R_Law 50 (⟨R_Model, "slopes", "(III)Z"⟩ : MethodName) ∈ zws := List.mem_filter.mpr ⟨List.mem_of_getElem? (i := 890) (by decide +kernel), by decide +kernel⟩
theorem w_891 : Cond.instanceMethod (⟨R_Model, "slopes", "(III)Z"⟩ : MethodName) ∈ zws := List.mem_filter.mpr ⟨List.mem_of_getElem? (i := 891) (by decide +kernel), by decide +kernel⟩
theorem w_892 : Cond.selects R_Model (⟨R_Model, "slopes", "(III)Z"⟩ : MethodName) (⟨R_Model, "slopes", "(III)Z"⟩ : MethodName) ∈ zws := List.mem_filter.mpr ⟨List.mem_of_getElem? (i := 892) (by decide +kernel), by decide +kernel⟩
theorem w_893 : Cond.code (⟨R_Model, "slopes", "(III)Z"⟩ : MethodName) prog_10_method_12_code 4 (some .boolean) ∈ zws := List.mem_filter.mpr ⟨List.mem_of_getElem? (i := 893) (by decide +kernel), by decide +kernel⟩
theorem w_894 : Cond.methodLink R_Law 55 (⟨R_Model, "run", "()I"⟩ : MethodName) ∈ zws := List.mem_filter.mpr ⟨List.mem_of_getElem? (i := 894) (by decide +kernel), by decide +kernel⟩
theorem w_895 : Cond.instanceMethod (⟨R_Model, "run", "()I"⟩ : MethodName) ∈ zws := List.mem_filter.mpr ⟨List.mem_of_getElem? (i := 895) (by decide +kernel), by decide +kernel⟩
theorem w_896 : Cond.selects R_Model (⟨R_Model, "run", "()I"⟩ : MethodName) (⟨R_Model, "run", "()I"⟩ : MethodName) ∈ zws := List.mem_filter.mpr ⟨List.mem_of_getElem? (i := 896) (by decide +kernel), by decide +kernel⟩
theorem w_897 : Cond.code (⟨R_Model, "run", "()I"⟩ : MethodName) prog_10_method_26_code 2 (some .int) ∈ zws := List.mem_filter.mpr ⟨List.mem_of_getElem? (i := 897) (by decide +kernel), by decide +kernel⟩
theorem w_953 : Cond.methodLink R_Law 74 (⟨R_Model, "move", "(II)Z"⟩ : MethodName) ∈ zws := List.mem_filter.mpr ⟨List.mem_of_getElem? (i := 953) (by decide +kernel), by decide +kernel⟩
theorem w_954 : Cond.instanceMethod (⟨R_Model, "move", "(II)Z"⟩ : MethodName) ∈ zws := List.mem_filter.mpr ⟨List.mem_of_getElem? (i := 954) (by decide +kernel), by decide +kernel⟩
theorem w_955 : Cond.selects R_Model (⟨R_Model, "move", "(II)Z"⟩ : MethodName) (⟨R_Model, "move", "(II)Z"⟩ : MethodName) ∈ zws := List.mem_filter.mpr ⟨List.mem_of_getElem? (i := 955) (by decide +kernel), by decide +kernel⟩
theorem w_956 : Cond.code (⟨R_Model, "move", "(II)Z"⟩ : MethodName) prog_10_method_28_code 4 (some .boolean) ∈ zws := List.mem_filter.mpr ⟨List.mem_of_getElem? (i := 956) (by decide +kernel), by decide +kernel⟩
theorem w_957 : Cond.methodLink R_Law 60 (⟨R_Model, "level", "(I)I"⟩ : MethodName) ∈ zws := List.mem_filter.mpr ⟨List.mem_of_getElem? (i := 957) (by decide +kernel), by decide +kernel⟩
theorem w_958 : Cond.instanceMethod (⟨R_Model, "level", "(I)I"⟩ : MethodName) ∈ zws := List.mem_filter.mpr ⟨List.mem_of_getElem? (i := 958) (by decide +kernel), by decide +kernel⟩
theorem w_959 : Cond.selects R_Model (⟨R_Model, "level", "(I)I"⟩ : MethodName) (⟨R_Model, "level", "(I)I"⟩ : MethodName) ∈ zws := List.mem_filter.mpr ⟨List.mem_of_getElem? (i := 959) (by decide +kernel), by decide +kernel⟩
theorem w_960 : Cond.code (⟨R_Model, "level", "(I)I"⟩ : MethodName) prog_10_method_29_code 2 (some .int) ∈ zws := List.mem_filter.mpr ⟨List.mem_of_getElem? (i := 960) (by decide +kernel), by decide +kernel⟩
theorem w_961 : Cond.methodLink R_Law 65 (⟨R_Model, "cost", "()J"⟩ : MethodName) ∈ zws := List.mem_filter.mpr ⟨List.mem_of_getElem? (i := 961) (by decide +kernel), by decide +kernel⟩
theorem w_962 : Cond.instanceMethod (⟨R_Model, "cost", "()J"⟩ : MethodName) ∈ zws := List.mem_filter.mpr ⟨List.mem_of_getElem? (i := 962) (by decide +kernel), by decide +kernel⟩
theorem w_963 : Cond.selects R_Model (⟨R_Model, "cost", "()J"⟩ : MethodName) (⟨R_Model, "cost", "()J"⟩ : MethodName) ∈ zws := List.mem_filter.mpr ⟨List.mem_of_getElem? (i := 963) (by decide +kernel), by decide +kernel⟩
theorem w_964 : Cond.code (⟨R_Model, "cost", "()J"⟩ : MethodName) prog_10_method_30_code 1 (some .long) ∈ zws := List.mem_filter.mpr ⟨List.mem_of_getElem? (i := 964) (by decide +kernel), by decide +kernel⟩
theorem w_965 : Cond.methodLink R_Law 70 (⟨R_Model, "other", "(I)J"⟩ : MethodName) ∈ zws := List.mem_filter.mpr ⟨List.mem_of_getElem? (i := 965) (by decide +kernel), by decide +kernel⟩
theorem w_966 : Cond.instanceMethod (⟨R_Model, "other", "(I)J"⟩ : MethodName) ∈ zws := List.mem_filter.mpr ⟨List.mem_of_getElem? (i := 966) (by decide +kernel), by decide +kernel⟩
theorem w_967 : Cond.selects R_Model (⟨R_Model, "other", "(I)J"⟩ : MethodName) (⟨R_Model, "other", "(I)J"⟩ : MethodName) ∈ zws := List.mem_filter.mpr ⟨List.mem_of_getElem? (i := 967) (by decide +kernel), by decide +kernel⟩
theorem w_968 : Cond.code (⟨R_Model, "other", "(I)J"⟩ : MethodName) prog_10_method_35_code 2 (some .long) ∈ zws := List.mem_filter.mpr ⟨List.mem_of_getElem? (i := 968) (by decide +kernel), by decide +kernel⟩
theorem w_984 : Cond.methodLink R_Law 78 (⟨R_Model, "speed", "(I)Z"⟩ : MethodName) ∈ zws := List.mem_filter.mpr ⟨List.mem_of_getElem? (i := 984) (by decide +kernel), by decide +kernel⟩
theorem w_985 : Cond.instanceMethod (⟨R_Model, "speed", "(I)Z"⟩ : MethodName) ∈ zws := List.mem_filter.mpr ⟨List.mem_of_getElem? (i := 985) (by decide +kernel), by decide +kernel⟩
theorem w_986 : Cond.selects R_Model (⟨R_Model, "speed", "(I)Z"⟩ : MethodName) (⟨R_Model, "speed", "(I)Z"⟩ : MethodName) ∈ zws := List.mem_filter.mpr ⟨List.mem_of_getElem? (i := 986) (by decide +kernel), by decide +kernel⟩
theorem w_987 : Cond.code (⟨R_Model, "speed", "(I)Z"⟩ : MethodName) prog_10_method_36_code 2 (some .boolean) ∈ zws := List.mem_filter.mpr ⟨List.mem_of_getElem? (i := 987) (by decide +kernel), by decide +kernel⟩
theorem w_988 : Cond.methodLink R_Law 83 (⟨R_Model, "curve", "(II)I"⟩ : MethodName) ∈ zws := List.mem_filter.mpr ⟨List.mem_of_getElem? (i := 988) (by decide +kernel), by decide +kernel⟩
theorem w_989 : Cond.instanceMethod (⟨R_Model, "curve", "(II)I"⟩ : MethodName) ∈ zws := List.mem_filter.mpr ⟨List.mem_of_getElem? (i := 989) (by decide +kernel), by decide +kernel⟩
theorem w_990 : Cond.selects R_Model (⟨R_Model, "curve", "(II)I"⟩ : MethodName) (⟨R_Model, "curve", "(II)I"⟩ : MethodName) ∈ zws := List.mem_filter.mpr ⟨List.mem_of_getElem? (i := 990) (by decide +kernel), by decide +kernel⟩
theorem w_991 : Cond.code (⟨R_Model, "curve", "(II)I"⟩ : MethodName) prog_10_method_39_code 5 (some .int) ∈ zws := List.mem_filter.mpr ⟨List.mem_of_getElem? (i := 991) (by decide +kernel), by decide +kernel⟩
theorem w_1000 : Cond.methodLink R_Law 88 (⟨R_Model, "curveAt", "(II)J"⟩ : MethodName) ∈ zws := List.mem_filter.mpr ⟨List.mem_of_getElem? (i := 1000) (by decide +kernel), by decide +kernel⟩
theorem w_1001 : Cond.instanceMethod (⟨R_Model, "curveAt", "(II)J"⟩ : MethodName) ∈ zws := List.mem_filter.mpr ⟨List.mem_of_getElem? (i := 1001) (by decide +kernel), by decide +kernel⟩
theorem w_1002 : Cond.selects R_Model (⟨R_Model, "curveAt", "(II)J"⟩ : MethodName) (⟨R_Model, "curveAt", "(II)J"⟩ : MethodName) ∈ zws := List.mem_filter.mpr ⟨List.mem_of_getElem? (i := 1002) (by decide +kernel), by decide +kernel⟩
theorem w_1003 : Cond.code (⟨R_Model, "curveAt", "(II)J"⟩ : MethodName) prog_10_method_40_code 7 (some .long) ∈ zws := List.mem_filter.mpr ⟨List.mem_of_getElem? (i := 1003) (by decide +kernel), by decide +kernel⟩
theorem w_1007 : Cond.methodLink R_Law 93 (⟨R_Model, "lorry", "(IIII)Z"⟩ : MethodName) ∈ zws := List.mem_filter.mpr ⟨List.mem_of_getElem? (i := 1007) (by decide +kernel), by decide +kernel⟩
theorem w_1008 : Cond.instanceMethod (⟨R_Model, "lorry", "(IIII)Z"⟩ : MethodName) ∈ zws := List.mem_filter.mpr ⟨List.mem_of_getElem? (i := 1008) (by decide +kernel), by decide +kernel⟩
theorem w_1009 : Cond.selects R_Model (⟨R_Model, "lorry", "(IIII)Z"⟩ : MethodName) (⟨R_Model, "lorry", "(IIII)Z"⟩ : MethodName) ∈ zws := List.mem_filter.mpr ⟨List.mem_of_getElem? (i := 1009) (by decide +kernel), by decide +kernel⟩
theorem w_1010 : Cond.code (⟨R_Model, "lorry", "(IIII)Z"⟩ : MethodName) prog_10_method_41_code 5 (some .boolean) ∈ zws := List.mem_filter.mpr ⟨List.mem_of_getElem? (i := 1010) (by decide +kernel), by decide +kernel⟩
theorem w_1011 : Cond.methodLink R_Law 97 (⟨R_Model, "lane", "(II)I"⟩ : MethodName) ∈ zws := List.mem_filter.mpr ⟨List.mem_of_getElem? (i := 1011) (by decide +kernel), by decide +kernel⟩
theorem w_1012 : Cond.instanceMethod (⟨R_Model, "lane", "(II)I"⟩ : MethodName) ∈ zws := List.mem_filter.mpr ⟨List.mem_of_getElem? (i := 1012) (by decide +kernel), by decide +kernel⟩
theorem w_1013 : Cond.selects R_Model (⟨R_Model, "lane", "(II)I"⟩ : MethodName) (⟨R_Model, "lane", "(II)I"⟩ : MethodName) ∈ zws := List.mem_filter.mpr ⟨List.mem_of_getElem? (i := 1013) (by decide +kernel), by decide +kernel⟩
theorem w_1014 : Cond.code (⟨R_Model, "lane", "(II)I"⟩ : MethodName) prog_10_method_42_code 7 (some .int) ∈ zws := List.mem_filter.mpr ⟨List.mem_of_getElem? (i := 1014) (by decide +kernel), by decide +kernel⟩
theorem w_1015 : Cond.methodLink R_Law 101 (⟨R_Model, "order", "(I)I"⟩ : MethodName) ∈ zws := List.mem_filter.mpr ⟨List.mem_of_getElem? (i := 1015) (by decide +kernel), by decide +kernel⟩
theorem w_1016 : Cond.instanceMethod (⟨R_Model, "order", "(I)I"⟩ : MethodName) ∈ zws := List.mem_filter.mpr ⟨List.mem_of_getElem? (i := 1016) (by decide +kernel), by decide +kernel⟩
theorem w_1017 : Cond.selects R_Model (⟨R_Model, "order", "(I)I"⟩ : MethodName) (⟨R_Model, "order", "(I)I"⟩ : MethodName) ∈ zws := List.mem_filter.mpr ⟨List.mem_of_getElem? (i := 1017) (by decide +kernel), by decide +kernel⟩
theorem w_1018 : Cond.code (⟨R_Model, "order", "(I)I"⟩ : MethodName) prog_10_method_46_code 5 (some .int) ∈ zws := List.mem_filter.mpr ⟨List.mem_of_getElem? (i := 1018) (by decide +kernel), by decide +kernel⟩
theorem w_1031 : Cond.methodLink R_Law 105 (⟨R_Model, "told", "(I)I"⟩ : MethodName) ∈ zws := List.mem_filter.mpr ⟨List.mem_of_getElem? (i := 1031) (by decide +kernel), by decide +kernel⟩
theorem w_1032 : Cond.instanceMethod (⟨R_Model, "told", "(I)I"⟩ : MethodName) ∈ zws := List.mem_filter.mpr ⟨List.mem_of_getElem? (i := 1032) (by decide +kernel), by decide +kernel⟩
theorem w_1033 : Cond.selects R_Model (⟨R_Model, "told", "(I)I"⟩ : MethodName) (⟨R_Model, "told", "(I)I"⟩ : MethodName) ∈ zws := List.mem_filter.mpr ⟨List.mem_of_getElem? (i := 1033) (by decide +kernel), by decide +kernel⟩
theorem w_1034 : Cond.code (⟨R_Model, "told", "(I)I"⟩ : MethodName) prog_10_method_47_code 5 (some .int) ∈ zws := List.mem_filter.mpr ⟨List.mem_of_getElem? (i := 1034) (by decide +kernel), by decide +kernel⟩
theorem w_1035 : Cond.methodLink R_Law 110 (⟨R_Model, "keeps", "()Z"⟩ : MethodName) ∈ zws := List.mem_filter.mpr ⟨List.mem_of_getElem? (i := 1035) (by decide +kernel), by decide +kernel⟩
theorem w_1036 : Cond.instanceMethod (⟨R_Model, "keeps", "()Z"⟩ : MethodName) ∈ zws := List.mem_filter.mpr ⟨List.mem_of_getElem? (i := 1036) (by decide +kernel), by decide +kernel⟩
theorem w_1037 : Cond.selects R_Model (⟨R_Model, "keeps", "()Z"⟩ : MethodName) (⟨R_Model, "keeps", "()Z"⟩ : MethodName) ∈ zws := List.mem_filter.mpr ⟨List.mem_of_getElem? (i := 1037) (by decide +kernel), by decide +kernel⟩
theorem w_1038 : Cond.code (⟨R_Model, "keeps", "()Z"⟩ : MethodName) prog_10_method_48_code 1 (some .boolean) ∈ zws := List.mem_filter.mpr ⟨List.mem_of_getElem? (i := 1038) (by decide +kernel), by decide +kernel⟩
theorem w_1039 : Jvm.Cond.constantLong R_Law 31 (4294967295 : Int64) ∈ zws := List.mem_filter.mpr ⟨List.mem_of_getElem? (i := 1039) (by decide +kernel), by decide +kernel⟩
theorem d_law_0 : decode code 0 = .ok (.new (7), 3) := by decide +kernel
theorem d_law_3 : decode code 3 = .ok (.dup, 1) := by decide +kernel
theorem d_law_4 : decode code 4 = .ok (.aload_n (0), 1) := by decide +kernel
theorem d_law_5 : decode code 5 = .ok (.iconst (0), 1) := by decide +kernel
theorem d_law_6 : decode code 6 = .ok (.invokestatic (9), 3) := by decide +kernel
theorem d_law_9 : decode code 9 = .ok (.aload_n (0), 1) := by decide +kernel
theorem d_law_10 : decode code 10 = .ok (.iconst (1), 1) := by decide +kernel
theorem d_law_11 : decode code 11 = .ok (.invokestatic (9), 3) := by decide +kernel
theorem d_law_14 : decode code 14 = .ok (.invokespecial (15), 3) := by decide +kernel
theorem d_law_17 : decode code 17 = .ok (.astore_n (1), 1) := by decide +kernel
theorem d_law_18 : decode code 18 = .ok (.new (18), 3) := by decide +kernel
theorem d_law_21 : decode code 21 = .ok (.dup, 1) := by decide +kernel
theorem d_law_22 : decode code 22 = .ok (.aload_n (0), 1) := by decide +kernel
theorem d_law_23 : decode code 23 = .ok (.iconst (0), 1) := by decide +kernel
theorem d_law_24 : decode code 24 = .ok (.invokestatic (9), 3) := by decide +kernel
theorem d_law_27 : decode code 27 = .ok (.aload_n (0), 1) := by decide +kernel
theorem d_law_28 : decode code 28 = .ok (.iconst (1), 1) := by decide +kernel
theorem d_law_29 : decode code 29 = .ok (.invokestatic (9), 3) := by decide +kernel
theorem d_law_32 : decode code 32 = .ok (.invokespecial (20), 3) := by decide +kernel
theorem d_law_35 : decode code 35 = .ok (.astore_n (2), 1) := by decide +kernel
theorem d_law_36 : decode code 36 = .ok (.iconst (2), 1) := by decide +kernel
theorem d_law_37 : decode code 37 = .ok (.istore_n (3), 1) := by decide +kernel
theorem d_law_38 : decode code 38 = .ok (.iload_n (3), 1) := by decide +kernel
theorem d_law_39 : decode code 39 = .ok (.aload_n (0), 1) := by decide +kernel
theorem d_law_40 : decode code 40 = .ok (.arraylength, 1) := by decide +kernel
theorem d_law_41 : decode code 41 = .ok (.bipush (6), 2) := by decide +kernel
theorem d_law_43 : decode code 43 = .ok (.isub, 1) := by decide +kernel
theorem d_law_44 : decode code 44 = .ok (.if_icmp .gt (706), 3) := by decide +kernel
theorem d_law_47 : decode code 47 = .ok (.aload_n (0), 1) := by decide +kernel
theorem d_law_48 : decode code 48 = .ok (.iload_n (3), 1) := by decide +kernel
theorem d_law_49 : decode code 49 = .ok (.iaload, 1) := by decide +kernel
theorem d_law_50 : decode code 50 = .ok (.bipush (31), 2) := by decide +kernel
theorem d_law_52 : decode code 52 = .ok (.iand, 1) := by decide +kernel
theorem d_law_53 : decode code 53 = .ok (.tableswitch (691) (0) (18) #[91, 124, 167, 250, 273, 306, 349, 362, 385, 399, 423, 456, 479, 512, 546, 599, 632, 655, 678], 91) := by decide +kernel
theorem d_law_144 : decode code 144 = .ok (.aload_n (1), 1) := by decide +kernel
theorem d_law_145 : decode code 145 = .ok (.aload_n (0), 1) := by decide +kernel
theorem d_law_146 : decode code 146 = .ok (.iload_n (3), 1) := by decide +kernel
theorem d_law_147 : decode code 147 = .ok (.iconst (1), 1) := by decide +kernel
theorem d_law_148 : decode code 148 = .ok (.iadd, 1) := by decide +kernel
theorem d_law_149 : decode code 149 = .ok (.iaload, 1) := by decide +kernel
theorem d_law_150 : decode code 150 = .ok (.aload_n (0), 1) := by decide +kernel
theorem d_law_151 : decode code 151 = .ok (.iload_n (3), 1) := by decide +kernel
theorem d_law_152 : decode code 152 = .ok (.iconst (2), 1) := by decide +kernel
theorem d_law_153 : decode code 153 = .ok (.iadd, 1) := by decide +kernel
theorem d_law_154 : decode code 154 = .ok (.iaload, 1) := by decide +kernel
theorem d_law_155 : decode code 155 = .ok (.invokevirtual (21), 3) := by decide +kernel
theorem d_law_158 : decode code 158 = .ok (.aload_n (2), 1) := by decide +kernel
theorem d_law_159 : decode code 159 = .ok (.aload_n (0), 1) := by decide +kernel
theorem d_law_160 : decode code 160 = .ok (.iload_n (3), 1) := by decide +kernel
theorem d_law_161 : decode code 161 = .ok (.iconst (1), 1) := by decide +kernel
theorem d_law_162 : decode code 162 = .ok (.iadd, 1) := by decide +kernel
theorem d_law_163 : decode code 163 = .ok (.iaload, 1) := by decide +kernel
theorem d_law_164 : decode code 164 = .ok (.aload_n (0), 1) := by decide +kernel
theorem d_law_165 : decode code 165 = .ok (.iload_n (3), 1) := by decide +kernel
theorem d_law_166 : decode code 166 = .ok (.iconst (2), 1) := by decide +kernel
theorem d_law_167 : decode code 167 = .ok (.iadd, 1) := by decide +kernel
theorem d_law_168 : decode code 168 = .ok (.iaload, 1) := by decide +kernel
theorem d_law_169 : decode code 169 = .ok (.invokevirtual (25), 3) := by decide +kernel
theorem d_law_172 : decode code 172 = .ok (.if_icmp .eq (572), 3) := by decide +kernel
theorem d_law_175 : decode code 175 = .ok (.iconst (0), 1) := by decide +kernel
theorem d_law_176 : decode code 176 = .ok (.ireturn, 1) := by decide +kernel
theorem d_law_177 : decode code 177 = .ok (.aload_n (1), 1) := by decide +kernel
theorem d_law_178 : decode code 178 = .ok (.aload_n (0), 1) := by decide +kernel
theorem d_law_179 : decode code 179 = .ok (.iload_n (3), 1) := by decide +kernel
theorem d_law_180 : decode code 180 = .ok (.iconst (1), 1) := by decide +kernel
theorem d_law_181 : decode code 181 = .ok (.iadd, 1) := by decide +kernel
theorem d_law_182 : decode code 182 = .ok (.iaload, 1) := by decide +kernel
theorem d_law_183 : decode code 183 = .ok (.aload_n (0), 1) := by decide +kernel
theorem d_law_184 : decode code 184 = .ok (.iload_n (3), 1) := by decide +kernel
theorem d_law_185 : decode code 185 = .ok (.iconst (2), 1) := by decide +kernel
theorem d_law_186 : decode code 186 = .ok (.iadd, 1) := by decide +kernel
theorem d_law_187 : decode code 187 = .ok (.iaload, 1) := by decide +kernel
theorem d_law_188 : decode code 188 = .ok (.aload_n (0), 1) := by decide +kernel
theorem d_law_189 : decode code 189 = .ok (.iload_n (3), 1) := by decide +kernel
theorem d_law_190 : decode code 190 = .ok (.iconst (3), 1) := by decide +kernel
theorem d_law_191 : decode code 191 = .ok (.iadd, 1) := by decide +kernel
theorem d_law_192 : decode code 192 = .ok (.iaload, 1) := by decide +kernel
theorem d_law_193 : decode code 193 = .ok (.invokevirtual (26), 3) := by decide +kernel
theorem d_law_196 : decode code 196 = .ok (.aload_n (2), 1) := by decide +kernel
theorem d_law_197 : decode code 197 = .ok (.aload_n (0), 1) := by decide +kernel
theorem d_law_198 : decode code 198 = .ok (.iload_n (3), 1) := by decide +kernel
theorem d_law_199 : decode code 199 = .ok (.iconst (1), 1) := by decide +kernel
theorem d_law_200 : decode code 200 = .ok (.iadd, 1) := by decide +kernel
theorem d_law_201 : decode code 201 = .ok (.iaload, 1) := by decide +kernel
theorem d_law_202 : decode code 202 = .ok (.aload_n (0), 1) := by decide +kernel
theorem d_law_203 : decode code 203 = .ok (.iload_n (3), 1) := by decide +kernel
theorem d_law_204 : decode code 204 = .ok (.iconst (2), 1) := by decide +kernel
theorem d_law_205 : decode code 205 = .ok (.iadd, 1) := by decide +kernel
theorem d_law_206 : decode code 206 = .ok (.iaload, 1) := by decide +kernel
theorem d_law_207 : decode code 207 = .ok (.aload_n (0), 1) := by decide +kernel
theorem d_law_208 : decode code 208 = .ok (.iload_n (3), 1) := by decide +kernel
theorem d_law_209 : decode code 209 = .ok (.iconst (3), 1) := by decide +kernel
theorem d_law_210 : decode code 210 = .ok (.iadd, 1) := by decide +kernel
theorem d_law_211 : decode code 211 = .ok (.iaload, 1) := by decide +kernel
theorem d_law_212 : decode code 212 = .ok (.invokevirtual (30), 3) := by decide +kernel
theorem d_law_215 : decode code 215 = .ok (.if_icmp .eq (529), 3) := by decide +kernel
theorem d_law_218 : decode code 218 = .ok (.iconst (0), 1) := by decide +kernel
theorem d_law_219 : decode code 219 = .ok (.ireturn, 1) := by decide +kernel
theorem d_law_220 : decode code 220 = .ok (.aload_n (1), 1) := by decide +kernel
theorem d_law_221 : decode code 221 = .ok (.aload_n (0), 1) := by decide +kernel
theorem d_law_222 : decode code 222 = .ok (.iload_n (3), 1) := by decide +kernel
theorem d_law_223 : decode code 223 = .ok (.iconst (1), 1) := by decide +kernel
theorem d_law_224 : decode code 224 = .ok (.iadd, 1) := by decide +kernel
theorem d_law_225 : decode code 225 = .ok (.iaload, 1) := by decide +kernel
theorem d_law_226 : decode code 226 = .ok (.aload_n (0), 1) := by decide +kernel
theorem d_law_227 : decode code 227 = .ok (.iload_n (3), 1) := by decide +kernel
theorem d_law_228 : decode code 228 = .ok (.iconst (2), 1) := by decide +kernel
theorem d_law_229 : decode code 229 = .ok (.iadd, 1) := by decide +kernel
theorem d_law_230 : decode code 230 = .ok (.iaload, 1) := by decide +kernel
theorem d_law_231 : decode code 231 = .ok (.aload_n (0), 1) := by decide +kernel
theorem d_law_232 : decode code 232 = .ok (.iload_n (3), 1) := by decide +kernel
theorem d_law_233 : decode code 233 = .ok (.iconst (3), 1) := by decide +kernel
theorem d_law_234 : decode code 234 = .ok (.iadd, 1) := by decide +kernel
theorem d_law_235 : decode code 235 = .ok (.iaload, 1) := by decide +kernel
theorem d_law_236 : decode code 236 = .ok (.aload_n (0), 1) := by decide +kernel
theorem d_law_237 : decode code 237 = .ok (.iload_n (3), 1) := by decide +kernel
theorem d_law_238 : decode code 238 = .ok (.iconst (4), 1) := by decide +kernel
theorem d_law_239 : decode code 239 = .ok (.iadd, 1) := by decide +kernel
theorem d_law_240 : decode code 240 = .ok (.iaload, 1) := by decide +kernel
theorem d_law_241 : decode code 241 = .ok (.i2l, 1) := by decide +kernel
theorem d_law_242 : decode code 242 = .ok (.bipush (32), 2) := by decide +kernel
theorem d_law_244 : decode code 244 = .ok (.lshl, 1) := by decide +kernel
theorem d_law_245 : decode code 245 = .ok (.aload_n (0), 1) := by decide +kernel
theorem d_law_246 : decode code 246 = .ok (.iload_n (3), 1) := by decide +kernel
theorem d_law_247 : decode code 247 = .ok (.iconst (5), 1) := by decide +kernel
theorem d_law_248 : decode code 248 = .ok (.iadd, 1) := by decide +kernel
theorem d_law_249 : decode code 249 = .ok (.iaload, 1) := by decide +kernel
theorem d_law_250 : decode code 250 = .ok (.i2l, 1) := by decide +kernel
theorem d_law_251 : decode code 251 = .ok (.ldc2_w (31), 3) := by decide +kernel
theorem d_law_254 : decode code 254 = .ok (.land, 1) := by decide +kernel
theorem d_law_255 : decode code 255 = .ok (.lor, 1) := by decide +kernel
theorem d_law_256 : decode code 256 = .ok (.invokevirtual (33), 3) := by decide +kernel
theorem d_law_259 : decode code 259 = .ok (.aload_n (2), 1) := by decide +kernel
theorem d_law_260 : decode code 260 = .ok (.aload_n (0), 1) := by decide +kernel
theorem d_law_261 : decode code 261 = .ok (.iload_n (3), 1) := by decide +kernel
theorem d_law_262 : decode code 262 = .ok (.iconst (1), 1) := by decide +kernel
theorem d_law_263 : decode code 263 = .ok (.iadd, 1) := by decide +kernel
theorem d_law_264 : decode code 264 = .ok (.iaload, 1) := by decide +kernel
theorem d_law_265 : decode code 265 = .ok (.aload_n (0), 1) := by decide +kernel
theorem d_law_266 : decode code 266 = .ok (.iload_n (3), 1) := by decide +kernel
theorem d_law_267 : decode code 267 = .ok (.iconst (2), 1) := by decide +kernel
theorem d_law_268 : decode code 268 = .ok (.iadd, 1) := by decide +kernel
theorem d_law_269 : decode code 269 = .ok (.iaload, 1) := by decide +kernel
theorem d_law_270 : decode code 270 = .ok (.aload_n (0), 1) := by decide +kernel
theorem d_law_271 : decode code 271 = .ok (.iload_n (3), 1) := by decide +kernel
theorem d_law_272 : decode code 272 = .ok (.iconst (3), 1) := by decide +kernel
theorem d_law_273 : decode code 273 = .ok (.iadd, 1) := by decide +kernel
theorem d_law_274 : decode code 274 = .ok (.iaload, 1) := by decide +kernel
theorem d_law_275 : decode code 275 = .ok (.aload_n (0), 1) := by decide +kernel
theorem d_law_276 : decode code 276 = .ok (.iload_n (3), 1) := by decide +kernel
theorem d_law_277 : decode code 277 = .ok (.iconst (4), 1) := by decide +kernel
theorem d_law_278 : decode code 278 = .ok (.iadd, 1) := by decide +kernel
theorem d_law_279 : decode code 279 = .ok (.iaload, 1) := by decide +kernel
theorem d_law_280 : decode code 280 = .ok (.i2l, 1) := by decide +kernel
theorem d_law_281 : decode code 281 = .ok (.bipush (32), 2) := by decide +kernel
theorem d_law_283 : decode code 283 = .ok (.lshl, 1) := by decide +kernel
theorem d_law_284 : decode code 284 = .ok (.aload_n (0), 1) := by decide +kernel
theorem d_law_285 : decode code 285 = .ok (.iload_n (3), 1) := by decide +kernel
theorem d_law_286 : decode code 286 = .ok (.iconst (5), 1) := by decide +kernel
theorem d_law_287 : decode code 287 = .ok (.iadd, 1) := by decide +kernel
theorem d_law_288 : decode code 288 = .ok (.iaload, 1) := by decide +kernel
theorem d_law_289 : decode code 289 = .ok (.i2l, 1) := by decide +kernel
theorem d_law_290 : decode code 290 = .ok (.ldc2_w (31), 3) := by decide +kernel
theorem d_law_293 : decode code 293 = .ok (.land, 1) := by decide +kernel
theorem d_law_294 : decode code 294 = .ok (.lor, 1) := by decide +kernel
theorem d_law_295 : decode code 295 = .ok (.invokevirtual (37), 3) := by decide +kernel
theorem d_law_298 : decode code 298 = .ok (.if_icmp .eq (446), 3) := by decide +kernel
theorem d_law_301 : decode code 301 = .ok (.iconst (0), 1) := by decide +kernel
theorem d_law_302 : decode code 302 = .ok (.ireturn, 1) := by decide +kernel
theorem d_law_303 : decode code 303 = .ok (.aload_n (1), 1) := by decide +kernel
theorem d_law_304 : decode code 304 = .ok (.aload_n (0), 1) := by decide +kernel
theorem d_law_305 : decode code 305 = .ok (.iload_n (3), 1) := by decide +kernel
theorem d_law_306 : decode code 306 = .ok (.iconst (1), 1) := by decide +kernel
theorem d_law_307 : decode code 307 = .ok (.iadd, 1) := by decide +kernel
theorem d_law_308 : decode code 308 = .ok (.iaload, 1) := by decide +kernel
theorem d_law_309 : decode code 309 = .ok (.invokevirtual (38), 3) := by decide +kernel
theorem d_law_312 : decode code 312 = .ok (.aload_n (2), 1) := by decide +kernel
theorem d_law_313 : decode code 313 = .ok (.aload_n (0), 1) := by decide +kernel
theorem d_law_314 : decode code 314 = .ok (.iload_n (3), 1) := by decide +kernel
theorem d_law_315 : decode code 315 = .ok (.iconst (1), 1) := by decide +kernel
theorem d_law_316 : decode code 316 = .ok (.iadd, 1) := by decide +kernel
theorem d_law_317 : decode code 317 = .ok (.iaload, 1) := by decide +kernel
theorem d_law_318 : decode code 318 = .ok (.invokevirtual (42), 3) := by decide +kernel
theorem d_law_321 : decode code 321 = .ok (.if_icmp .eq (423), 3) := by decide +kernel
theorem d_law_324 : decode code 324 = .ok (.iconst (0), 1) := by decide +kernel
theorem d_law_325 : decode code 325 = .ok (.ireturn, 1) := by decide +kernel
theorem d_law_326 : decode code 326 = .ok (.aload_n (1), 1) := by decide +kernel
theorem d_law_327 : decode code 327 = .ok (.aload_n (0), 1) := by decide +kernel
theorem d_law_328 : decode code 328 = .ok (.iload_n (3), 1) := by decide +kernel
theorem d_law_329 : decode code 329 = .ok (.iconst (1), 1) := by decide +kernel
theorem d_law_330 : decode code 330 = .ok (.iadd, 1) := by decide +kernel
theorem d_law_331 : decode code 331 = .ok (.iaload, 1) := by decide +kernel
theorem d_law_332 : decode code 332 = .ok (.aload_n (0), 1) := by decide +kernel
theorem d_law_333 : decode code 333 = .ok (.iload_n (3), 1) := by decide +kernel
theorem d_law_334 : decode code 334 = .ok (.iconst (2), 1) := by decide +kernel
theorem d_law_335 : decode code 335 = .ok (.iadd, 1) := by decide +kernel
theorem d_law_336 : decode code 336 = .ok (.iaload, 1) := by decide +kernel
theorem d_law_337 : decode code 337 = .ok (.invokevirtual (43), 3) := by decide +kernel
theorem d_law_340 : decode code 340 = .ok (.aload_n (2), 1) := by decide +kernel
theorem d_law_341 : decode code 341 = .ok (.aload_n (0), 1) := by decide +kernel
theorem d_law_342 : decode code 342 = .ok (.iload_n (3), 1) := by decide +kernel
theorem d_law_343 : decode code 343 = .ok (.iconst (1), 1) := by decide +kernel
theorem d_law_344 : decode code 344 = .ok (.iadd, 1) := by decide +kernel
theorem d_law_345 : decode code 345 = .ok (.iaload, 1) := by decide +kernel
theorem d_law_346 : decode code 346 = .ok (.aload_n (0), 1) := by decide +kernel
theorem d_law_347 : decode code 347 = .ok (.iload_n (3), 1) := by decide +kernel
theorem d_law_348 : decode code 348 = .ok (.iconst (2), 1) := by decide +kernel
theorem d_law_349 : decode code 349 = .ok (.iadd, 1) := by decide +kernel
theorem d_law_350 : decode code 350 = .ok (.iaload, 1) := by decide +kernel
theorem d_law_351 : decode code 351 = .ok (.invokevirtual (46), 3) := by decide +kernel
theorem d_law_354 : decode code 354 = .ok (.if_icmp .eq (390), 3) := by decide +kernel
theorem d_law_357 : decode code 357 = .ok (.iconst (0), 1) := by decide +kernel
theorem d_law_358 : decode code 358 = .ok (.ireturn, 1) := by decide +kernel
theorem d_law_359 : decode code 359 = .ok (.aload_n (1), 1) := by decide +kernel
theorem d_law_360 : decode code 360 = .ok (.aload_n (0), 1) := by decide +kernel
theorem d_law_361 : decode code 361 = .ok (.iload_n (3), 1) := by decide +kernel
theorem d_law_362 : decode code 362 = .ok (.iconst (1), 1) := by decide +kernel
theorem d_law_363 : decode code 363 = .ok (.iadd, 1) := by decide +kernel
theorem d_law_364 : decode code 364 = .ok (.iaload, 1) := by decide +kernel
theorem d_law_365 : decode code 365 = .ok (.aload_n (0), 1) := by decide +kernel
theorem d_law_366 : decode code 366 = .ok (.iload_n (3), 1) := by decide +kernel
theorem d_law_367 : decode code 367 = .ok (.iconst (2), 1) := by decide +kernel
theorem d_law_368 : decode code 368 = .ok (.iadd, 1) := by decide +kernel
theorem d_law_369 : decode code 369 = .ok (.iaload, 1) := by decide +kernel
theorem d_law_370 : decode code 370 = .ok (.aload_n (0), 1) := by decide +kernel
theorem d_law_371 : decode code 371 = .ok (.iload_n (3), 1) := by decide +kernel
theorem d_law_372 : decode code 372 = .ok (.iconst (3), 1) := by decide +kernel
theorem d_law_373 : decode code 373 = .ok (.iadd, 1) := by decide +kernel
theorem d_law_374 : decode code 374 = .ok (.iaload, 1) := by decide +kernel
theorem d_law_375 : decode code 375 = .ok (.invokevirtual (47), 3) := by decide +kernel
theorem d_law_378 : decode code 378 = .ok (.aload_n (2), 1) := by decide +kernel
theorem d_law_379 : decode code 379 = .ok (.aload_n (0), 1) := by decide +kernel
theorem d_law_380 : decode code 380 = .ok (.iload_n (3), 1) := by decide +kernel
theorem d_law_381 : decode code 381 = .ok (.iconst (1), 1) := by decide +kernel
theorem d_law_382 : decode code 382 = .ok (.iadd, 1) := by decide +kernel
theorem d_law_383 : decode code 383 = .ok (.iaload, 1) := by decide +kernel
theorem d_law_384 : decode code 384 = .ok (.aload_n (0), 1) := by decide +kernel
theorem d_law_385 : decode code 385 = .ok (.iload_n (3), 1) := by decide +kernel
theorem d_law_386 : decode code 386 = .ok (.iconst (2), 1) := by decide +kernel
theorem d_law_387 : decode code 387 = .ok (.iadd, 1) := by decide +kernel
theorem d_law_388 : decode code 388 = .ok (.iaload, 1) := by decide +kernel
theorem d_law_389 : decode code 389 = .ok (.aload_n (0), 1) := by decide +kernel
theorem d_law_390 : decode code 390 = .ok (.iload_n (3), 1) := by decide +kernel
theorem d_law_391 : decode code 391 = .ok (.iconst (3), 1) := by decide +kernel
theorem d_law_392 : decode code 392 = .ok (.iadd, 1) := by decide +kernel
theorem d_law_393 : decode code 393 = .ok (.iaload, 1) := by decide +kernel
theorem d_law_394 : decode code 394 = .ok (.invokevirtual (50), 3) := by decide +kernel
theorem d_law_397 : decode code 397 = .ok (.if_icmp .eq (347), 3) := by decide +kernel
theorem d_law_400 : decode code 400 = .ok (.iconst (0), 1) := by decide +kernel
theorem d_law_401 : decode code 401 = .ok (.ireturn, 1) := by decide +kernel
theorem d_law_402 : decode code 402 = .ok (.aload_n (1), 1) := by decide +kernel
theorem d_law_403 : decode code 403 = .ok (.invokevirtual (51), 3) := by decide +kernel
theorem d_law_406 : decode code 406 = .ok (.aload_n (2), 1) := by decide +kernel
theorem d_law_407 : decode code 407 = .ok (.invokevirtual (55), 3) := by decide +kernel
theorem d_law_410 : decode code 410 = .ok (.if_icmp .eq (334), 3) := by decide +kernel
theorem d_law_413 : decode code 413 = .ok (.iconst (0), 1) := by decide +kernel
theorem d_law_414 : decode code 414 = .ok (.ireturn, 1) := by decide +kernel
theorem d_law_415 : decode code 415 = .ok (.aload_n (1), 1) := by decide +kernel
theorem d_law_416 : decode code 416 = .ok (.aload_n (0), 1) := by decide +kernel
theorem d_law_417 : decode code 417 = .ok (.iload_n (3), 1) := by decide +kernel
theorem d_law_418 : decode code 418 = .ok (.iconst (1), 1) := by decide +kernel
theorem d_law_419 : decode code 419 = .ok (.iadd, 1) := by decide +kernel
theorem d_law_420 : decode code 420 = .ok (.iaload, 1) := by decide +kernel
theorem d_law_421 : decode code 421 = .ok (.invokevirtual (56), 3) := by decide +kernel
theorem d_law_424 : decode code 424 = .ok (.aload_n (2), 1) := by decide +kernel
theorem d_law_425 : decode code 425 = .ok (.aload_n (0), 1) := by decide +kernel
theorem d_law_426 : decode code 426 = .ok (.iload_n (3), 1) := by decide +kernel
theorem d_law_427 : decode code 427 = .ok (.iconst (1), 1) := by decide +kernel
theorem d_law_428 : decode code 428 = .ok (.iadd, 1) := by decide +kernel
theorem d_law_429 : decode code 429 = .ok (.iaload, 1) := by decide +kernel
theorem d_law_430 : decode code 430 = .ok (.invokevirtual (60), 3) := by decide +kernel
theorem d_law_433 : decode code 433 = .ok (.if_icmp .eq (311), 3) := by decide +kernel
theorem d_law_436 : decode code 436 = .ok (.iconst (0), 1) := by decide +kernel
theorem d_law_437 : decode code 437 = .ok (.ireturn, 1) := by decide +kernel
theorem d_law_438 : decode code 438 = .ok (.aload_n (1), 1) := by decide +kernel
theorem d_law_439 : decode code 439 = .ok (.invokevirtual (61), 3) := by decide +kernel
theorem d_law_442 : decode code 442 = .ok (.aload_n (2), 1) := by decide +kernel
theorem d_law_443 : decode code 443 = .ok (.invokevirtual (65), 3) := by decide +kernel
theorem d_law_446 : decode code 446 = .ok (.lcmp, 1) := by decide +kernel
theorem d_law_447 : decode code 447 = .ok (.ifCond .eq (297), 3) := by decide +kernel
theorem d_law_450 : decode code 450 = .ok (.iconst (0), 1) := by decide +kernel
theorem d_law_451 : decode code 451 = .ok (.ireturn, 1) := by decide +kernel
theorem d_law_452 : decode code 452 = .ok (.aload_n (1), 1) := by decide +kernel
theorem d_law_453 : decode code 453 = .ok (.aload_n (0), 1) := by decide +kernel
theorem d_law_454 : decode code 454 = .ok (.iload_n (3), 1) := by decide +kernel
theorem d_law_455 : decode code 455 = .ok (.iconst (1), 1) := by decide +kernel
theorem d_law_456 : decode code 456 = .ok (.iadd, 1) := by decide +kernel
theorem d_law_457 : decode code 457 = .ok (.iaload, 1) := by decide +kernel
theorem d_law_458 : decode code 458 = .ok (.invokevirtual (66), 3) := by decide +kernel
theorem d_law_461 : decode code 461 = .ok (.aload_n (2), 1) := by decide +kernel
theorem d_law_462 : decode code 462 = .ok (.aload_n (0), 1) := by decide +kernel
theorem d_law_463 : decode code 463 = .ok (.iload_n (3), 1) := by decide +kernel
theorem d_law_464 : decode code 464 = .ok (.iconst (1), 1) := by decide +kernel
theorem d_law_465 : decode code 465 = .ok (.iadd, 1) := by decide +kernel
theorem d_law_466 : decode code 466 = .ok (.iaload, 1) := by decide +kernel
theorem d_law_467 : decode code 467 = .ok (.invokevirtual (70), 3) := by decide +kernel
theorem d_law_470 : decode code 470 = .ok (.lcmp, 1) := by decide +kernel
theorem d_law_471 : decode code 471 = .ok (.ifCond .eq (273), 3) := by decide +kernel
theorem d_law_474 : decode code 474 = .ok (.iconst (0), 1) := by decide +kernel
theorem d_law_475 : decode code 475 = .ok (.ireturn, 1) := by decide +kernel
theorem d_law_476 : decode code 476 = .ok (.aload_n (1), 1) := by decide +kernel
theorem d_law_477 : decode code 477 = .ok (.aload_n (0), 1) := by decide +kernel
theorem d_law_478 : decode code 478 = .ok (.iload_n (3), 1) := by decide +kernel
theorem d_law_479 : decode code 479 = .ok (.iconst (1), 1) := by decide +kernel
theorem d_law_480 : decode code 480 = .ok (.iadd, 1) := by decide +kernel
theorem d_law_481 : decode code 481 = .ok (.iaload, 1) := by decide +kernel
theorem d_law_482 : decode code 482 = .ok (.aload_n (0), 1) := by decide +kernel
theorem d_law_483 : decode code 483 = .ok (.iload_n (3), 1) := by decide +kernel
theorem d_law_484 : decode code 484 = .ok (.iconst (2), 1) := by decide +kernel
theorem d_law_485 : decode code 485 = .ok (.iadd, 1) := by decide +kernel
theorem d_law_486 : decode code 486 = .ok (.iaload, 1) := by decide +kernel
theorem d_law_487 : decode code 487 = .ok (.invokevirtual (71), 3) := by decide +kernel
theorem d_law_490 : decode code 490 = .ok (.aload_n (2), 1) := by decide +kernel
theorem d_law_491 : decode code 491 = .ok (.aload_n (0), 1) := by decide +kernel
theorem d_law_492 : decode code 492 = .ok (.iload_n (3), 1) := by decide +kernel
theorem d_law_493 : decode code 493 = .ok (.iconst (1), 1) := by decide +kernel
theorem d_law_494 : decode code 494 = .ok (.iadd, 1) := by decide +kernel
theorem d_law_495 : decode code 495 = .ok (.iaload, 1) := by decide +kernel
theorem d_law_496 : decode code 496 = .ok (.aload_n (0), 1) := by decide +kernel
theorem d_law_497 : decode code 497 = .ok (.iload_n (3), 1) := by decide +kernel
theorem d_law_498 : decode code 498 = .ok (.iconst (2), 1) := by decide +kernel
theorem d_law_499 : decode code 499 = .ok (.iadd, 1) := by decide +kernel
theorem d_law_500 : decode code 500 = .ok (.iaload, 1) := by decide +kernel
theorem d_law_501 : decode code 501 = .ok (.invokevirtual (74), 3) := by decide +kernel
theorem d_law_504 : decode code 504 = .ok (.if_icmp .eq (240), 3) := by decide +kernel
theorem d_law_507 : decode code 507 = .ok (.iconst (0), 1) := by decide +kernel
theorem d_law_508 : decode code 508 = .ok (.ireturn, 1) := by decide +kernel
theorem d_law_509 : decode code 509 = .ok (.aload_n (1), 1) := by decide +kernel
theorem d_law_510 : decode code 510 = .ok (.aload_n (0), 1) := by decide +kernel
theorem d_law_511 : decode code 511 = .ok (.iload_n (3), 1) := by decide +kernel
theorem d_law_512 : decode code 512 = .ok (.iconst (1), 1) := by decide +kernel
theorem d_law_513 : decode code 513 = .ok (.iadd, 1) := by decide +kernel
theorem d_law_514 : decode code 514 = .ok (.iaload, 1) := by decide +kernel
theorem d_law_515 : decode code 515 = .ok (.invokevirtual (75), 3) := by decide +kernel
theorem d_law_518 : decode code 518 = .ok (.aload_n (2), 1) := by decide +kernel
theorem d_law_519 : decode code 519 = .ok (.aload_n (0), 1) := by decide +kernel
theorem d_law_520 : decode code 520 = .ok (.iload_n (3), 1) := by decide +kernel
theorem d_law_521 : decode code 521 = .ok (.iconst (1), 1) := by decide +kernel
theorem d_law_522 : decode code 522 = .ok (.iadd, 1) := by decide +kernel
theorem d_law_523 : decode code 523 = .ok (.iaload, 1) := by decide +kernel
theorem d_law_524 : decode code 524 = .ok (.invokevirtual (78), 3) := by decide +kernel
theorem d_law_527 : decode code 527 = .ok (.if_icmp .eq (217), 3) := by decide +kernel
theorem d_law_530 : decode code 530 = .ok (.iconst (0), 1) := by decide +kernel
theorem d_law_531 : decode code 531 = .ok (.ireturn, 1) := by decide +kernel
theorem d_law_532 : decode code 532 = .ok (.aload_n (1), 1) := by decide +kernel
theorem d_law_533 : decode code 533 = .ok (.aload_n (0), 1) := by decide +kernel
theorem d_law_534 : decode code 534 = .ok (.iload_n (3), 1) := by decide +kernel
theorem d_law_535 : decode code 535 = .ok (.iconst (1), 1) := by decide +kernel
theorem d_law_536 : decode code 536 = .ok (.iadd, 1) := by decide +kernel
theorem d_law_537 : decode code 537 = .ok (.iaload, 1) := by decide +kernel
theorem d_law_538 : decode code 538 = .ok (.aload_n (0), 1) := by decide +kernel
theorem d_law_539 : decode code 539 = .ok (.iload_n (3), 1) := by decide +kernel
theorem d_law_540 : decode code 540 = .ok (.iconst (2), 1) := by decide +kernel
theorem d_law_541 : decode code 541 = .ok (.iadd, 1) := by decide +kernel
theorem d_law_542 : decode code 542 = .ok (.iaload, 1) := by decide +kernel
theorem d_law_543 : decode code 543 = .ok (.invokevirtual (79), 3) := by decide +kernel
theorem d_law_546 : decode code 546 = .ok (.aload_n (2), 1) := by decide +kernel
theorem d_law_547 : decode code 547 = .ok (.aload_n (0), 1) := by decide +kernel
theorem d_law_548 : decode code 548 = .ok (.iload_n (3), 1) := by decide +kernel
theorem d_law_549 : decode code 549 = .ok (.iconst (1), 1) := by decide +kernel
theorem d_law_550 : decode code 550 = .ok (.iadd, 1) := by decide +kernel
theorem d_law_551 : decode code 551 = .ok (.iaload, 1) := by decide +kernel
theorem d_law_552 : decode code 552 = .ok (.aload_n (0), 1) := by decide +kernel
theorem d_law_553 : decode code 553 = .ok (.iload_n (3), 1) := by decide +kernel
theorem d_law_554 : decode code 554 = .ok (.iconst (2), 1) := by decide +kernel
theorem d_law_555 : decode code 555 = .ok (.iadd, 1) := by decide +kernel
theorem d_law_556 : decode code 556 = .ok (.iaload, 1) := by decide +kernel
theorem d_law_557 : decode code 557 = .ok (.invokevirtual (83), 3) := by decide +kernel
theorem d_law_560 : decode code 560 = .ok (.if_icmp .eq (184), 3) := by decide +kernel
theorem d_law_563 : decode code 563 = .ok (.iconst (0), 1) := by decide +kernel
theorem d_law_564 : decode code 564 = .ok (.ireturn, 1) := by decide +kernel
theorem d_law_565 : decode code 565 = .ok (.aload_n (1), 1) := by decide +kernel
theorem d_law_566 : decode code 566 = .ok (.aload_n (0), 1) := by decide +kernel
theorem d_law_567 : decode code 567 = .ok (.iload_n (3), 1) := by decide +kernel
theorem d_law_568 : decode code 568 = .ok (.iconst (1), 1) := by decide +kernel
theorem d_law_569 : decode code 569 = .ok (.iadd, 1) := by decide +kernel
theorem d_law_570 : decode code 570 = .ok (.iaload, 1) := by decide +kernel
theorem d_law_571 : decode code 571 = .ok (.aload_n (0), 1) := by decide +kernel
theorem d_law_572 : decode code 572 = .ok (.iload_n (3), 1) := by decide +kernel
theorem d_law_573 : decode code 573 = .ok (.iconst (2), 1) := by decide +kernel
theorem d_law_574 : decode code 574 = .ok (.iadd, 1) := by decide +kernel
theorem d_law_575 : decode code 575 = .ok (.iaload, 1) := by decide +kernel
theorem d_law_576 : decode code 576 = .ok (.invokevirtual (84), 3) := by decide +kernel
theorem d_law_579 : decode code 579 = .ok (.aload_n (2), 1) := by decide +kernel
theorem d_law_580 : decode code 580 = .ok (.aload_n (0), 1) := by decide +kernel
theorem d_law_581 : decode code 581 = .ok (.iload_n (3), 1) := by decide +kernel
theorem d_law_582 : decode code 582 = .ok (.iconst (1), 1) := by decide +kernel
theorem d_law_583 : decode code 583 = .ok (.iadd, 1) := by decide +kernel
theorem d_law_584 : decode code 584 = .ok (.iaload, 1) := by decide +kernel
theorem d_law_585 : decode code 585 = .ok (.aload_n (0), 1) := by decide +kernel
theorem d_law_586 : decode code 586 = .ok (.iload_n (3), 1) := by decide +kernel
theorem d_law_587 : decode code 587 = .ok (.iconst (2), 1) := by decide +kernel
theorem d_law_588 : decode code 588 = .ok (.iadd, 1) := by decide +kernel
theorem d_law_589 : decode code 589 = .ok (.iaload, 1) := by decide +kernel
theorem d_law_590 : decode code 590 = .ok (.invokevirtual (88), 3) := by decide +kernel
theorem d_law_593 : decode code 593 = .ok (.lcmp, 1) := by decide +kernel
theorem d_law_594 : decode code 594 = .ok (.ifCond .eq (150), 3) := by decide +kernel
theorem d_law_597 : decode code 597 = .ok (.iconst (0), 1) := by decide +kernel
theorem d_law_598 : decode code 598 = .ok (.ireturn, 1) := by decide +kernel
theorem d_law_599 : decode code 599 = .ok (.aload_n (1), 1) := by decide +kernel
theorem d_law_600 : decode code 600 = .ok (.aload_n (0), 1) := by decide +kernel
theorem d_law_601 : decode code 601 = .ok (.iload_n (3), 1) := by decide +kernel
theorem d_law_602 : decode code 602 = .ok (.iconst (1), 1) := by decide +kernel
theorem d_law_603 : decode code 603 = .ok (.iadd, 1) := by decide +kernel
theorem d_law_604 : decode code 604 = .ok (.iaload, 1) := by decide +kernel
theorem d_law_605 : decode code 605 = .ok (.aload_n (0), 1) := by decide +kernel
theorem d_law_606 : decode code 606 = .ok (.iload_n (3), 1) := by decide +kernel
theorem d_law_607 : decode code 607 = .ok (.iconst (2), 1) := by decide +kernel
theorem d_law_608 : decode code 608 = .ok (.iadd, 1) := by decide +kernel
theorem d_law_609 : decode code 609 = .ok (.iaload, 1) := by decide +kernel
theorem d_law_610 : decode code 610 = .ok (.aload_n (0), 1) := by decide +kernel
theorem d_law_611 : decode code 611 = .ok (.iload_n (3), 1) := by decide +kernel
theorem d_law_612 : decode code 612 = .ok (.iconst (3), 1) := by decide +kernel
theorem d_law_613 : decode code 613 = .ok (.iadd, 1) := by decide +kernel
theorem d_law_614 : decode code 614 = .ok (.iaload, 1) := by decide +kernel
theorem d_law_615 : decode code 615 = .ok (.aload_n (0), 1) := by decide +kernel
theorem d_law_616 : decode code 616 = .ok (.iload_n (3), 1) := by decide +kernel
theorem d_law_617 : decode code 617 = .ok (.iconst (4), 1) := by decide +kernel
theorem d_law_618 : decode code 618 = .ok (.iadd, 1) := by decide +kernel
theorem d_law_619 : decode code 619 = .ok (.iaload, 1) := by decide +kernel
theorem d_law_620 : decode code 620 = .ok (.invokevirtual (89), 3) := by decide +kernel
theorem d_law_623 : decode code 623 = .ok (.aload_n (2), 1) := by decide +kernel
theorem d_law_624 : decode code 624 = .ok (.aload_n (0), 1) := by decide +kernel
theorem d_law_625 : decode code 625 = .ok (.iload_n (3), 1) := by decide +kernel
theorem d_law_626 : decode code 626 = .ok (.iconst (1), 1) := by decide +kernel
theorem d_law_627 : decode code 627 = .ok (.iadd, 1) := by decide +kernel
theorem d_law_628 : decode code 628 = .ok (.iaload, 1) := by decide +kernel
theorem d_law_629 : decode code 629 = .ok (.aload_n (0), 1) := by decide +kernel
theorem d_law_630 : decode code 630 = .ok (.iload_n (3), 1) := by decide +kernel
theorem d_law_631 : decode code 631 = .ok (.iconst (2), 1) := by decide +kernel
theorem d_law_632 : decode code 632 = .ok (.iadd, 1) := by decide +kernel
theorem d_law_633 : decode code 633 = .ok (.iaload, 1) := by decide +kernel
theorem d_law_634 : decode code 634 = .ok (.aload_n (0), 1) := by decide +kernel
theorem d_law_635 : decode code 635 = .ok (.iload_n (3), 1) := by decide +kernel
theorem d_law_636 : decode code 636 = .ok (.iconst (3), 1) := by decide +kernel
theorem d_law_637 : decode code 637 = .ok (.iadd, 1) := by decide +kernel
theorem d_law_638 : decode code 638 = .ok (.iaload, 1) := by decide +kernel
theorem d_law_639 : decode code 639 = .ok (.aload_n (0), 1) := by decide +kernel
theorem d_law_640 : decode code 640 = .ok (.iload_n (3), 1) := by decide +kernel
theorem d_law_641 : decode code 641 = .ok (.iconst (4), 1) := by decide +kernel
theorem d_law_642 : decode code 642 = .ok (.iadd, 1) := by decide +kernel
theorem d_law_643 : decode code 643 = .ok (.iaload, 1) := by decide +kernel
theorem d_law_644 : decode code 644 = .ok (.invokevirtual (93), 3) := by decide +kernel
theorem d_law_647 : decode code 647 = .ok (.if_icmp .eq (97), 3) := by decide +kernel
theorem d_law_650 : decode code 650 = .ok (.iconst (0), 1) := by decide +kernel
theorem d_law_651 : decode code 651 = .ok (.ireturn, 1) := by decide +kernel
theorem d_law_652 : decode code 652 = .ok (.aload_n (1), 1) := by decide +kernel
theorem d_law_653 : decode code 653 = .ok (.aload_n (0), 1) := by decide +kernel
theorem d_law_654 : decode code 654 = .ok (.iload_n (3), 1) := by decide +kernel
theorem d_law_655 : decode code 655 = .ok (.iconst (1), 1) := by decide +kernel
theorem d_law_656 : decode code 656 = .ok (.iadd, 1) := by decide +kernel
theorem d_law_657 : decode code 657 = .ok (.iaload, 1) := by decide +kernel
theorem d_law_658 : decode code 658 = .ok (.aload_n (0), 1) := by decide +kernel
theorem d_law_659 : decode code 659 = .ok (.iload_n (3), 1) := by decide +kernel
theorem d_law_660 : decode code 660 = .ok (.iconst (2), 1) := by decide +kernel
theorem d_law_661 : decode code 661 = .ok (.iadd, 1) := by decide +kernel
theorem d_law_662 : decode code 662 = .ok (.iaload, 1) := by decide +kernel
theorem d_law_663 : decode code 663 = .ok (.invokevirtual (94), 3) := by decide +kernel
theorem d_law_666 : decode code 666 = .ok (.aload_n (2), 1) := by decide +kernel
theorem d_law_667 : decode code 667 = .ok (.aload_n (0), 1) := by decide +kernel
theorem d_law_668 : decode code 668 = .ok (.iload_n (3), 1) := by decide +kernel
theorem d_law_669 : decode code 669 = .ok (.iconst (1), 1) := by decide +kernel
theorem d_law_670 : decode code 670 = .ok (.iadd, 1) := by decide +kernel
theorem d_law_671 : decode code 671 = .ok (.iaload, 1) := by decide +kernel
theorem d_law_672 : decode code 672 = .ok (.aload_n (0), 1) := by decide +kernel
theorem d_law_673 : decode code 673 = .ok (.iload_n (3), 1) := by decide +kernel
theorem d_law_674 : decode code 674 = .ok (.iconst (2), 1) := by decide +kernel
theorem d_law_675 : decode code 675 = .ok (.iadd, 1) := by decide +kernel
theorem d_law_676 : decode code 676 = .ok (.iaload, 1) := by decide +kernel
theorem d_law_677 : decode code 677 = .ok (.invokevirtual (97), 3) := by decide +kernel
theorem d_law_680 : decode code 680 = .ok (.if_icmp .eq (64), 3) := by decide +kernel
theorem d_law_683 : decode code 683 = .ok (.iconst (0), 1) := by decide +kernel
theorem d_law_684 : decode code 684 = .ok (.ireturn, 1) := by decide +kernel
theorem d_law_685 : decode code 685 = .ok (.aload_n (1), 1) := by decide +kernel
theorem d_law_686 : decode code 686 = .ok (.aload_n (0), 1) := by decide +kernel
theorem d_law_687 : decode code 687 = .ok (.iload_n (3), 1) := by decide +kernel
theorem d_law_688 : decode code 688 = .ok (.iconst (1), 1) := by decide +kernel
theorem d_law_689 : decode code 689 = .ok (.iadd, 1) := by decide +kernel
theorem d_law_690 : decode code 690 = .ok (.iaload, 1) := by decide +kernel
theorem d_law_691 : decode code 691 = .ok (.invokevirtual (98), 3) := by decide +kernel
theorem d_law_694 : decode code 694 = .ok (.aload_n (2), 1) := by decide +kernel
theorem d_law_695 : decode code 695 = .ok (.aload_n (0), 1) := by decide +kernel
theorem d_law_696 : decode code 696 = .ok (.iload_n (3), 1) := by decide +kernel
theorem d_law_697 : decode code 697 = .ok (.iconst (1), 1) := by decide +kernel
theorem d_law_698 : decode code 698 = .ok (.iadd, 1) := by decide +kernel
theorem d_law_699 : decode code 699 = .ok (.iaload, 1) := by decide +kernel
theorem d_law_700 : decode code 700 = .ok (.invokevirtual (101), 3) := by decide +kernel
theorem d_law_703 : decode code 703 = .ok (.if_icmp .eq (41), 3) := by decide +kernel
theorem d_law_706 : decode code 706 = .ok (.iconst (0), 1) := by decide +kernel
theorem d_law_707 : decode code 707 = .ok (.ireturn, 1) := by decide +kernel
theorem d_law_708 : decode code 708 = .ok (.aload_n (1), 1) := by decide +kernel
theorem d_law_709 : decode code 709 = .ok (.aload_n (0), 1) := by decide +kernel
theorem d_law_710 : decode code 710 = .ok (.iload_n (3), 1) := by decide +kernel
theorem d_law_711 : decode code 711 = .ok (.iconst (1), 1) := by decide +kernel
theorem d_law_712 : decode code 712 = .ok (.iadd, 1) := by decide +kernel
theorem d_law_713 : decode code 713 = .ok (.iaload, 1) := by decide +kernel
theorem d_law_714 : decode code 714 = .ok (.invokevirtual (102), 3) := by decide +kernel
theorem d_law_717 : decode code 717 = .ok (.aload_n (2), 1) := by decide +kernel
theorem d_law_718 : decode code 718 = .ok (.aload_n (0), 1) := by decide +kernel
theorem d_law_719 : decode code 719 = .ok (.iload_n (3), 1) := by decide +kernel
theorem d_law_720 : decode code 720 = .ok (.iconst (1), 1) := by decide +kernel
theorem d_law_721 : decode code 721 = .ok (.iadd, 1) := by decide +kernel
theorem d_law_722 : decode code 722 = .ok (.iaload, 1) := by decide +kernel
theorem d_law_723 : decode code 723 = .ok (.invokevirtual (105), 3) := by decide +kernel
theorem d_law_726 : decode code 726 = .ok (.if_icmp .eq (18), 3) := by decide +kernel
theorem d_law_729 : decode code 729 = .ok (.iconst (0), 1) := by decide +kernel
theorem d_law_730 : decode code 730 = .ok (.ireturn, 1) := by decide +kernel
theorem d_law_731 : decode code 731 = .ok (.aload_n (1), 1) := by decide +kernel
theorem d_law_732 : decode code 732 = .ok (.invokevirtual (106), 3) := by decide +kernel
theorem d_law_735 : decode code 735 = .ok (.aload_n (2), 1) := by decide +kernel
theorem d_law_736 : decode code 736 = .ok (.invokevirtual (110), 3) := by decide +kernel
theorem d_law_739 : decode code 739 = .ok (.if_icmp .eq (5), 3) := by decide +kernel
theorem d_law_742 : decode code 742 = .ok (.iconst (0), 1) := by decide +kernel
theorem d_law_743 : decode code 743 = .ok (.ireturn, 1) := by decide +kernel
theorem d_law_744 : decode code 744 = .ok (.iinc 3 (6), 3) := by decide +kernel
theorem d_law_747 : decode code 747 = .ok (.goto (-709), 3) := by decide +kernel
theorem d_law_750 : decode code 750 = .ok (.iconst (1), 1) := by decide +kernel
theorem d_law_751 : decode code 751 = .ok (.ireturn, 1) := by decide +kernel
