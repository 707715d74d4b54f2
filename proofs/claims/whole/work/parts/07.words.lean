def df_Model : List Value := [.int 0, .int 0, .null, .null, .null, .null, .null, .int 0, .int 0, .int 0, .int 0, .null, .null, .null, .null, .null, .null, .null, .null, .int 0, .int 0, .null, .null, .null, .int 0, .null, .int 0, .long 0, .null, .int 0, .int 0, .int 0, .int 0, .int 0, .null]
theorem df_Model_ok : df_Model = (List.range 35).map (fun j => defaultValue (ty_Model j)) := rfl
def df_LT : List Value := [.null, .null, .null, .null, .null, .null, .null, .null, .int 0, .int 0]
theorem df_LT_ok : df_LT = (List.range 10).map (fun j => defaultValue (ty_LT j)) := rfl
def df_Site : List Value := [.int 0, .int 0, .null, .null, .null, .null, .null, .int 0, .int 0, .int 0]
theorem df_Site_ok : df_Site = (List.range 10).map (fun j => defaultValue (ty_Site j)) := rfl
def df_Spans : List Value := [.int 0, .null, .null, .null, .null]
theorem df_Spans_ok : df_Spans = (List.range 5).map (fun j => defaultValue (ty_Spans j)) := rfl
def df_Reach : List Value := [.null, .null, .null]
theorem df_Reach_ok : df_Reach = (List.range 3).map (fun j => defaultValue (ty_Reach j)) := rfl
def df_Table : List Value := [.null, .null, .null, .null, .int 0, .int 0, .long 0]
theorem df_Table_ok : df_Table = (List.range 7).map (fun j => defaultValue (ty_Table j)) := rfl
def df_Curves : List Value := [.null, .int 0]
theorem df_Curves_ok : df_Curves = (List.range 2).map (fun j => defaultValue (ty_Curves j)) := rfl
def df_Lorry : List Value := [.int 0, .int 0, .int 0, .int 0]
theorem df_Lorry_ok : df_Lorry = (List.range 4).map (fun j => defaultValue (ty_Lorry j)) := rfl
def df_Search : List Value := [.null, .null, .int 0, .int 0, .int 0, .long 0, .long 0, .null, .null, .null, .int 0]
theorem df_Search_ok : df_Search = (List.range 11).map (fun j => defaultValue (ty_Search j)) := rfl
theorem w_32 : Cond.selects R_Model (⟨R_Model, "isPlace", "(I)Z"⟩ : MethodName) (⟨R_Model, "isPlace", "(I)Z"⟩ : MethodName) ∈ zws := List.mem_filter.mpr ⟨List.mem_of_getElem? (i := 32) (by decide +kernel), by decide +kernel⟩
theorem w_33 : Cond.selects R_Model (⟨R_Model, "isLevel", "(I)Z"⟩ : MethodName) (⟨R_Model, "isLevel", "(I)Z"⟩ : MethodName) ∈ zws := List.mem_filter.mpr ⟨List.mem_of_getElem? (i := 33) (by decide +kernel), by decide +kernel⟩
theorem w_34 : Cond.selects R_Model (⟨R_Model, "forget", "()V"⟩ : MethodName) (⟨R_Model, "forget", "()V"⟩ : MethodName) ∈ zws := List.mem_filter.mpr ⟨List.mem_of_getElem? (i := 34) (by decide +kernel), by decide +kernel⟩
theorem w_35 : Cond.selects R_Model (⟨R_Model, "dropCurves", "()V"⟩ : MethodName) (⟨R_Model, "dropCurves", "()V"⟩ : MethodName) ∈ zws := List.mem_filter.mpr ⟨List.mem_of_getElem? (i := 35) (by decide +kernel), by decide +kernel⟩
theorem w_36 : Cond.selects R_Model (⟨R_Model, "barred", "()I"⟩ : MethodName) (⟨R_Model, "barred", "()I"⟩ : MethodName) ∈ zws := List.mem_filter.mpr ⟨List.mem_of_getElem? (i := 36) (by decide +kernel), by decide +kernel⟩
theorem w_37 : Cond.selects R_Model (⟨R_Model, "may", "(II)Z"⟩ : MethodName) (⟨R_Model, "may", "(II)Z"⟩ : MethodName) ∈ zws := List.mem_filter.mpr ⟨List.mem_of_getElem? (i := 37) (by decide +kernel), by decide +kernel⟩
theorem w_38 : Cond.selects R_Model (⟨R_Model, "follows", "(II)Z"⟩ : MethodName) (⟨R_Model, "follows", "(II)Z"⟩ : MethodName) ∈ zws := List.mem_filter.mpr ⟨List.mem_of_getElem? (i := 38) (by decide +kernel), by decide +kernel⟩
theorem w_39 : Cond.selects R_Model (⟨R_Model, "search", "()Z"⟩ : MethodName) (⟨R_Model, "search", "()Z"⟩ : MethodName) ∈ zws := List.mem_filter.mpr ⟨List.mem_of_getElem? (i := 39) (by decide +kernel), by decide +kernel⟩
theorem w_40 : Cond.selects R_Model (⟨R_Model, "workOut", "(III)V"⟩ : MethodName) (⟨R_Model, "workOut", "(III)V"⟩ : MethodName) ∈ zws := List.mem_filter.mpr ⟨List.mem_of_getElem? (i := 40) (by decide +kernel), by decide +kernel⟩
theorem w_41 : Cond.selects R_Model (⟨R_Model, "spanAt", "(I)I"⟩ : MethodName) (⟨R_Model, "spanAt", "(I)I"⟩ : MethodName) ∈ zws := List.mem_filter.mpr ⟨List.mem_of_getElem? (i := 41) (by decide +kernel), by decide +kernel⟩
theorem w_42 : Cond.selects R_Model (⟨R_Model, "placeCost", "(II)J"⟩ : MethodName) (⟨R_Model, "placeCost", "(II)J"⟩ : MethodName) ∈ zws := List.mem_filter.mpr ⟨List.mem_of_getElem? (i := 42) (by decide +kernel), by decide +kernel⟩
theorem w_43 : Cond.selects R_Model (⟨R_Model, "isLess", "(JIJI)Z"⟩ : MethodName) (⟨R_Model, "isLess", "(JIJI)Z"⟩ : MethodName) ∈ zws := List.mem_filter.mpr ⟨List.mem_of_getElem? (i := 43) (by decide +kernel), by decide +kernel⟩
theorem w_44 : Cond.selects R_Model (⟨R_Model, "mayUse", "(III)Z"⟩ : MethodName) (⟨R_Model, "mayUse", "(III)Z"⟩ : MethodName) ∈ zws := List.mem_filter.mpr ⟨List.mem_of_getElem? (i := 44) (by decide +kernel), by decide +kernel⟩
theorem w_45 : Cond.selects R_Model (⟨R_Model, "firstLevel", "()I"⟩ : MethodName) (⟨R_Model, "firstLevel", "()I"⟩ : MethodName) ∈ zws := List.mem_filter.mpr ⟨List.mem_of_getElem? (i := 45) (by decide +kernel), by decide +kernel⟩
theorem w_46 : Cond.selects R_Model (⟨R_Model, "goAlong", "()V"⟩ : MethodName) (⟨R_Model, "goAlong", "()V"⟩ : MethodName) ∈ zws := List.mem_filter.mpr ⟨List.mem_of_getElem? (i := 46) (by decide +kernel), by decide +kernel⟩
theorem w_47 : Cond.selects R_Model (⟨R_Model, "usedSpans", "()I"⟩ : MethodName) (⟨R_Model, "usedSpans", "()I"⟩ : MethodName) ∈ zws := List.mem_filter.mpr ⟨List.mem_of_getElem? (i := 47) (by decide +kernel), by decide +kernel⟩
theorem w_48 : Cond.selects R_Model (⟨R_Model, "listAll", "()V"⟩ : MethodName) (⟨R_Model, "listAll", "()V"⟩ : MethodName) ∈ zws := List.mem_filter.mpr ⟨List.mem_of_getElem? (i := 48) (by decide +kernel), by decide +kernel⟩
theorem w_49 : Cond.selects R_Model (⟨R_Model, "list", "(III)V"⟩ : MethodName) (⟨R_Model, "list", "(III)V"⟩ : MethodName) ∈ zws := List.mem_filter.mpr ⟨List.mem_of_getElem? (i := 49) (by decide +kernel), by decide +kernel⟩
theorem w_50 : Cond.selects R_Model (⟨R_Model, "listFrom", "(IIJ)V"⟩ : MethodName) (⟨R_Model, "listFrom", "(IIJ)V"⟩ : MethodName) ∈ zws := List.mem_filter.mpr ⟨List.mem_of_getElem? (i := 50) (by decide +kernel), by decide +kernel⟩
theorem w_51 : Cond.selects R_Model (⟨R_Model, "isSpanned", "(I)Z"⟩ : MethodName) (⟨R_Model, "isSpanned", "(I)Z"⟩ : MethodName) ∈ zws := List.mem_filter.mpr ⟨List.mem_of_getElem? (i := 51) (by decide +kernel), by decide +kernel⟩
theorem w_52 : Cond.selects R_Model (⟨R_Model, "curves", "()I"⟩ : MethodName) (⟨R_Model, "curves", "()I"⟩ : MethodName) ∈ zws := List.mem_filter.mpr ⟨List.mem_of_getElem? (i := 52) (by decide +kernel), by decide +kernel⟩
theorem w_53 : Cond.selects R_Model (⟨R_Model, "filled", "(I)I"⟩ : MethodName) (⟨R_Model, "filled", "(I)I"⟩ : MethodName) ∈ zws := List.mem_filter.mpr ⟨List.mem_of_getElem? (i := 53) (by decide +kernel), by decide +kernel⟩
theorem w_54 : Cond.selects R_Model (⟨R_Model, "isInside", "(I)Z"⟩ : MethodName) (⟨R_Model, "isInside", "(I)Z"⟩ : MethodName) ∈ zws := List.mem_filter.mpr ⟨List.mem_of_getElem? (i := 54) (by decide +kernel), by decide +kernel⟩
theorem w_55 : Cond.selects R_Model (⟨R_Model, "spanOf", "(I)I"⟩ : MethodName) (⟨R_Model, "spanOf", "(I)I"⟩ : MethodName) ∈ zws := List.mem_filter.mpr ⟨List.mem_of_getElem? (i := 55) (by decide +kernel), by decide +kernel⟩
theorem w_66 : Cond.initialized R_Model ∈ zws := List.mem_filter.mpr ⟨List.mem_of_getElem? (i := 66) (by decide +kernel), by decide +kernel⟩
theorem w_76 : Cond.instanceMethod Lib.objectInit ∈ zws := List.mem_filter.mpr ⟨List.mem_of_getElem? (i := 76) (by decide +kernel), by decide +kernel⟩
theorem w_77 : Cond.code Lib.objectInit ⟨#[0xb1]⟩ 1 none ∈ zws := List.mem_filter.mpr ⟨List.mem_of_getElem? (i := 77) (by decide +kernel), by decide +kernel⟩
theorem w_142 : Cond.arrayClass .int ∈ zws := List.mem_filter.mpr ⟨List.mem_of_getElem? (i := 142) (by decide +kernel), by decide +kernel⟩
theorem w_172 : Cond.arrayClass .long ∈ zws := List.mem_filter.mpr ⟨List.mem_of_getElem? (i := 172) (by decide +kernel), by decide +kernel⟩
theorem w_581 : Jvm.Cond.constant R_Integer 265 (1431655765 : Int32) ∈ zws := List.mem_filter.mpr ⟨List.mem_of_getElem? (i := 581) (by decide +kernel), by decide +kernel⟩
theorem w_582 : Jvm.Cond.constant R_Integer 266 (858993459 : Int32) ∈ zws := List.mem_filter.mpr ⟨List.mem_of_getElem? (i := 582) (by decide +kernel), by decide +kernel⟩
theorem w_583 : Jvm.Cond.constant R_Integer 267 (252645135 : Int32) ∈ zws := List.mem_filter.mpr ⟨List.mem_of_getElem? (i := 583) (by decide +kernel), by decide +kernel⟩
theorem w_739 : Cond.methodLink R_Model 1 Lib.objectInit ∈ zws := List.mem_filter.mpr ⟨List.mem_of_getElem? (i := 739) (by decide +kernel), by decide +kernel⟩
theorem w_740 : Jvm.Cond.constant R_Model 51 (187500 : Int32) ∈ zws := List.mem_filter.mpr ⟨List.mem_of_getElem? (i := 740) (by decide +kernel), by decide +kernel⟩
theorem w_741 : Cond.fieldLink R_Model 89 R_Model "n" "I" ∈ zws := List.mem_filter.mpr ⟨List.mem_of_getElem? (i := 741) (by decide +kernel), by decide +kernel⟩
theorem w_742 : Cond.fieldLink R_Model 92 R_Model "m" "I" ∈ zws := List.mem_filter.mpr ⟨List.mem_of_getElem? (i := 742) (by decide +kernel), by decide +kernel⟩
theorem w_743 : Cond.fieldLink R_Model 7 R_Model "grounds" "[I" ∈ zws := List.mem_filter.mpr ⟨List.mem_of_getElem? (i := 743) (by decide +kernel), by decide +kernel⟩
theorem w_744 : Cond.fieldLink R_Model 13 R_Model "cuts" "[I" ∈ zws := List.mem_filter.mpr ⟨List.mem_of_getElem? (i := 744) (by decide +kernel), by decide +kernel⟩
theorem w_745 : Cond.fieldLink R_Model 16 R_Model "fills" "[I" ∈ zws := List.mem_filter.mpr ⟨List.mem_of_getElem? (i := 745) (by decide +kernel), by decide +kernel⟩
theorem w_746 : Cond.fieldLink R_Model 19 R_Model "fixedAt" "[I" ∈ zws := List.mem_filter.mpr ⟨List.mem_of_getElem? (i := 746) (by decide +kernel), by decide +kernel⟩
theorem w_747 : Cond.fieldLink R_Model 22 R_Model "movedAt" "[I" ∈ zws := List.mem_filter.mpr ⟨List.mem_of_getElem? (i := 747) (by decide +kernel), by decide +kernel⟩
theorem w_748 : Cond.fieldLink R_Model 25 R_Model "most" "I" ∈ zws := List.mem_filter.mpr ⟨List.mem_of_getElem? (i := 748) (by decide +kernel), by decide +kernel⟩
theorem w_749 : Cond.fieldLink R_Model 29 R_Model "change" "I" ∈ zws := List.mem_filter.mpr ⟨List.mem_of_getElem? (i := 749) (by decide +kernel), by decide +kernel⟩
theorem w_750 : Cond.fieldLink R_Model 126 R_Model "falls" "I" ∈ zws := List.mem_filter.mpr ⟨List.mem_of_getElem? (i := 750) (by decide +kernel), by decide +kernel⟩
theorem w_751 : Cond.fieldLink R_Model 119 R_Model "spans" "I" ∈ zws := List.mem_filter.mpr ⟨List.mem_of_getElem? (i := 751) (by decide +kernel), by decide +kernel⟩
theorem w_752 : Cond.fieldLink R_Model 32 R_Model "froms" "[I" ∈ zws := List.mem_filter.mpr ⟨List.mem_of_getElem? (i := 752) (by decide +kernel), by decide +kernel⟩
theorem w_753 : Cond.fieldLink R_Model 35 R_Model "tos" "[I" ∈ zws := List.mem_filter.mpr ⟨List.mem_of_getElem? (i := 753) (by decide +kernel), by decide +kernel⟩
theorem w_754 : Cond.fieldLink R_Model 38 R_Model "kinds" "[I" ∈ zws := List.mem_filter.mpr ⟨List.mem_of_getElem? (i := 754) (by decide +kernel), by decide +kernel⟩
theorem w_755 : Cond.fieldLink R_Model 41 R_Model "cents" "[J" ∈ zws := List.mem_filter.mpr ⟨List.mem_of_getElem? (i := 755) (by decide +kernel), by decide +kernel⟩
theorem w_756 : Cond.fieldLink R_Model 45 R_Model "costs" "[J" ∈ zws := List.mem_filter.mpr ⟨List.mem_of_getElem? (i := 756) (by decide +kernel), by decide +kernel⟩
theorem w_757 : Cond.fieldLink R_Model 48 R_Model "sums" "[I" ∈ zws := List.mem_filter.mpr ⟨List.mem_of_getElem? (i := 757) (by decide +kernel), by decide +kernel⟩
theorem w_758 : Cond.fieldLink R_Model 52 R_Model "lists" "[J" ∈ zws := List.mem_filter.mpr ⟨List.mem_of_getElem? (i := 758) (by decide +kernel), by decide +kernel⟩
theorem w_759 : Cond.fieldLink R_Model 55 R_Model "many" "[I" ∈ zws := List.mem_filter.mpr ⟨List.mem_of_getElem? (i := 759) (by decide +kernel), by decide +kernel⟩
theorem w_760 : Cond.fieldLink R_Model 99 R_Model "knowsOthers" "Z" ∈ zws := List.mem_filter.mpr ⟨List.mem_of_getElem? (i := 760) (by decide +kernel), by decide +kernel⟩
theorem w_761 : Cond.fieldLink R_Model 200 R_Model "otherCount" "I" ∈ zws := List.mem_filter.mpr ⟨List.mem_of_getElem? (i := 761) (by decide +kernel), by decide +kernel⟩
theorem w_762 : Cond.fieldLink R_Model 58 R_Model "others" "[J" ∈ zws := List.mem_filter.mpr ⟨List.mem_of_getElem? (i := 762) (by decide +kernel), by decide +kernel⟩
theorem w_763 : Cond.fieldLink R_Model 61 R_Model "reached" "[Z" ∈ zws := List.mem_filter.mpr ⟨List.mem_of_getElem? (i := 763) (by decide +kernel), by decide +kernel⟩
theorem w_764 : Cond.fieldLink R_Model 65 R_Model "next" "[Z" ∈ zws := List.mem_filter.mpr ⟨List.mem_of_getElem? (i := 764) (by decide +kernel), by decide +kernel⟩
theorem w_765 : Cond.fieldLink R_Model 95 R_Model "has" "Z" ∈ zws := List.mem_filter.mpr ⟨List.mem_of_getElem? (i := 765) (by decide +kernel), by decide +kernel⟩
theorem w_766 : Cond.fieldLink R_Model 68 R_Model "levels" "[I" ∈ zws := List.mem_filter.mpr ⟨List.mem_of_getElem? (i := 766) (by decide +kernel), by decide +kernel⟩
theorem w_767 : Cond.fieldLink R_Model 169 R_Model "used" "I" ∈ zws := List.mem_filter.mpr ⟨List.mem_of_getElem? (i := 767) (by decide +kernel), by decide +kernel⟩
theorem w_768 : Cond.fieldLink R_Model 172 R_Model "cost" "J" ∈ zws := List.mem_filter.mpr ⟨List.mem_of_getElem? (i := 768) (by decide +kernel), by decide +kernel⟩
theorem w_769 : Cond.fieldLink R_Model 71 R_Model "halves" "[I" ∈ zws := List.mem_filter.mpr ⟨List.mem_of_getElem? (i := 769) (by decide +kernel), by decide +kernel⟩
theorem w_770 : Cond.fieldLink R_Model 206 R_Model "speed" "I" ∈ zws := List.mem_filter.mpr ⟨List.mem_of_getElem? (i := 770) (by decide +kernel), by decide +kernel⟩
theorem w_771 : Cond.fieldLink R_Model 74 R_Model "top" "I" ∈ zws := List.mem_filter.mpr ⟨List.mem_of_getElem? (i := 771) (by decide +kernel), by decide +kernel⟩
theorem w_772 : Cond.fieldLink R_Model 77 R_Model "least" "I" ∈ zws := List.mem_filter.mpr ⟨List.mem_of_getElem? (i := 772) (by decide +kernel), by decide +kernel⟩
theorem w_773 : Cond.fieldLink R_Model 80 R_Model "loss" "I" ∈ zws := List.mem_filter.mpr ⟨List.mem_of_getElem? (i := 773) (by decide +kernel), by decide +kernel⟩
theorem w_774 : Cond.fieldLink R_Model 83 R_Model "gain" "I" ∈ zws := List.mem_filter.mpr ⟨List.mem_of_getElem? (i := 774) (by decide +kernel), by decide +kernel⟩
theorem w_775 : Cond.fieldLink R_Model 86 R_Model "speeds" "[I" ∈ zws := List.mem_filter.mpr ⟨List.mem_of_getElem? (i := 775) (by decide +kernel), by decide +kernel⟩
theorem w_847 : Cond.arrayClass .boolean ∈ zws := List.mem_filter.mpr ⟨List.mem_of_getElem? (i := 847) (by decide +kernel), by decide +kernel⟩
theorem w_852 : Cond.methodLink R_Model 105 (⟨R_Model, "isPlace", "(I)Z"⟩ : MethodName) ∈ zws := List.mem_filter.mpr ⟨List.mem_of_getElem? (i := 852) (by decide +kernel), by decide +kernel⟩
theorem w_854 : Cond.instanceMethod (⟨R_Model, "isPlace", "(I)Z"⟩ : MethodName) ∈ zws := List.mem_filter.mpr ⟨List.mem_of_getElem? (i := 854) (by decide +kernel), by decide +kernel⟩
theorem w_855 : Cond.code (⟨R_Model, "isPlace", "(I)Z"⟩ : MethodName) prog_10_method_2_code 2 (some .boolean) ∈ zws := List.mem_filter.mpr ⟨List.mem_of_getElem? (i := 855) (by decide +kernel), by decide +kernel⟩
theorem w_856 : Cond.methodLink R_Model 109 (⟨R_Model, "isLevel", "(I)Z"⟩ : MethodName) ∈ zws := List.mem_filter.mpr ⟨List.mem_of_getElem? (i := 856) (by decide +kernel), by decide +kernel⟩
theorem w_858 : Cond.instanceMethod (⟨R_Model, "isLevel", "(I)Z"⟩ : MethodName) ∈ zws := List.mem_filter.mpr ⟨List.mem_of_getElem? (i := 858) (by decide +kernel), by decide +kernel⟩
theorem w_859 : Cond.code (⟨R_Model, "isLevel", "(I)Z"⟩ : MethodName) prog_10_method_3_code 2 (some .boolean) ∈ zws := List.mem_filter.mpr ⟨List.mem_of_getElem? (i := 859) (by decide +kernel), by decide +kernel⟩
theorem w_860 : Cond.methodLink R_Model 112 (⟨R_Model, "forget", "()V"⟩ : MethodName) ∈ zws := List.mem_filter.mpr ⟨List.mem_of_getElem? (i := 860) (by decide +kernel), by decide +kernel⟩
theorem w_862 : Cond.instanceMethod (⟨R_Model, "forget", "()V"⟩ : MethodName) ∈ zws := List.mem_filter.mpr ⟨List.mem_of_getElem? (i := 862) (by decide +kernel), by decide +kernel⟩
theorem w_863 : Cond.code (⟨R_Model, "forget", "()V"⟩ : MethodName) prog_10_method_4_code 1 none ∈ zws := List.mem_filter.mpr ⟨List.mem_of_getElem? (i := 863) (by decide +kernel), by decide +kernel⟩
theorem w_864 : Cond.methodLink R_Model 102 (⟨R_Model, "dropCurves", "()V"⟩ : MethodName) ∈ zws := List.mem_filter.mpr ⟨List.mem_of_getElem? (i := 864) (by decide +kernel), by decide +kernel⟩
theorem w_866 : Cond.instanceMethod (⟨R_Model, "dropCurves", "()V"⟩ : MethodName) ∈ zws := List.mem_filter.mpr ⟨List.mem_of_getElem? (i := 866) (by decide +kernel), by decide +kernel⟩
theorem w_867 : Cond.code (⟨R_Model, "dropCurves", "()V"⟩ : MethodName) prog_10_method_5_code 2 none ∈ zws := List.mem_filter.mpr ⟨List.mem_of_getElem? (i := 867) (by decide +kernel), by decide +kernel⟩
theorem w_872 : Cond.methodLink R_Model 116 (⟨R_Model, "isPrice", "(I)Z"⟩ : MethodName) ∈ zws := List.mem_filter.mpr ⟨List.mem_of_getElem? (i := 872) (by decide +kernel), by decide +kernel⟩
theorem w_873 : Cond.static (⟨R_Model, "isPrice", "(I)Z"⟩ : MethodName) ∈ zws := List.mem_filter.mpr ⟨List.mem_of_getElem? (i := 873) (by decide +kernel), by decide +kernel⟩
theorem w_874 : Cond.code (⟨R_Model, "isPrice", "(I)Z"⟩ : MethodName) prog_10_method_7_code 1 (some .boolean) ∈ zws := List.mem_filter.mpr ⟨List.mem_of_getElem? (i := 874) (by decide +kernel), by decide +kernel⟩
theorem w_875 : Jvm.Cond.constant R_Model 115 (1000000 : Int32) ∈ zws := List.mem_filter.mpr ⟨List.mem_of_getElem? (i := 875) (by decide +kernel), by decide +kernel⟩
theorem w_880 : Jvm.Cond.constantLong R_Model 122 (2 : Int64) ∈ zws := List.mem_filter.mpr ⟨List.mem_of_getElem? (i := 880) (by decide +kernel), by decide +kernel⟩
theorem w_881 : Jvm.Cond.constantLong R_Model 124 (1000000000 : Int64) ∈ zws := List.mem_filter.mpr ⟨List.mem_of_getElem? (i := 881) (by decide +kernel), by decide +kernel⟩
theorem w_898 : Cond.methodLink R_Model 176 (⟨R_Model, "barred", "()I"⟩ : MethodName) ∈ zws := List.mem_filter.mpr ⟨List.mem_of_getElem? (i := 898) (by decide +kernel), by decide +kernel⟩
theorem w_900 : Cond.instanceMethod (⟨R_Model, "barred", "()I"⟩ : MethodName) ∈ zws := List.mem_filter.mpr ⟨List.mem_of_getElem? (i := 900) (by decide +kernel), by decide +kernel⟩
theorem w_901 : Cond.code (⟨R_Model, "barred", "()I"⟩ : MethodName) prog_10_method_25_code 6 (some .int) ∈ zws := List.mem_filter.mpr ⟨List.mem_of_getElem? (i := 901) (by decide +kernel), by decide +kernel⟩
theorem w_902 : Cond.methodLink R_Model 133 (⟨R_Model, "may", "(II)Z"⟩ : MethodName) ∈ zws := List.mem_filter.mpr ⟨List.mem_of_getElem? (i := 902) (by decide +kernel), by decide +kernel⟩
theorem w_904 : Cond.instanceMethod (⟨R_Model, "may", "(II)Z"⟩ : MethodName) ∈ zws := List.mem_filter.mpr ⟨List.mem_of_getElem? (i := 904) (by decide +kernel), by decide +kernel⟩
theorem w_905 : Cond.code (⟨R_Model, "may", "(II)Z"⟩ : MethodName) prog_10_method_13_code 3 (some .boolean) ∈ zws := List.mem_filter.mpr ⟨List.mem_of_getElem? (i := 905) (by decide +kernel), by decide +kernel⟩
theorem w_906 : Cond.methodLink R_Model 142 (⟨R_Model, "follows", "(II)Z"⟩ : MethodName) ∈ zws := List.mem_filter.mpr ⟨List.mem_of_getElem? (i := 906) (by decide +kernel), by decide +kernel⟩
theorem w_908 : Cond.instanceMethod (⟨R_Model, "follows", "(II)Z"⟩ : MethodName) ∈ zws := List.mem_filter.mpr ⟨List.mem_of_getElem? (i := 908) (by decide +kernel), by decide +kernel⟩
theorem w_909 : Cond.code (⟨R_Model, "follows", "(II)Z"⟩ : MethodName) prog_10_method_15_code 3 (some .boolean) ∈ zws := List.mem_filter.mpr ⟨List.mem_of_getElem? (i := 909) (by decide +kernel), by decide +kernel⟩
theorem w_910 : Cond.methodLink R_Model 129 (⟨R_Model, "size", "(I)I"⟩ : MethodName) ∈ zws := List.mem_filter.mpr ⟨List.mem_of_getElem? (i := 910) (by decide +kernel), by decide +kernel⟩
theorem w_911 : Cond.static (⟨R_Model, "size", "(I)I"⟩ : MethodName) ∈ zws := List.mem_filter.mpr ⟨List.mem_of_getElem? (i := 911) (by decide +kernel), by decide +kernel⟩
theorem w_912 : Cond.code (⟨R_Model, "size", "(I)I"⟩ : MethodName) prog_10_method_14_code 1 (some .int) ∈ zws := List.mem_filter.mpr ⟨List.mem_of_getElem? (i := 912) (by decide +kernel), by decide +kernel⟩
theorem w_913 : Cond.methodLink R_Model 179 (⟨R_Model, "search", "()Z"⟩ : MethodName) ∈ zws := List.mem_filter.mpr ⟨List.mem_of_getElem? (i := 913) (by decide +kernel), by decide +kernel⟩
theorem w_915 : Cond.instanceMethod (⟨R_Model, "search", "()Z"⟩ : MethodName) ∈ zws := List.mem_filter.mpr ⟨List.mem_of_getElem? (i := 915) (by decide +kernel), by decide +kernel⟩
theorem w_916 : Cond.code (⟨R_Model, "search", "()Z"⟩ : MethodName) prog_10_method_22_code 4 (some .boolean) ∈ zws := List.mem_filter.mpr ⟨List.mem_of_getElem? (i := 916) (by decide +kernel), by decide +kernel⟩
theorem w_917 : Cond.methodLink R_Model 145 (⟨R_Model, "at", "(III)I"⟩ : MethodName) ∈ zws := List.mem_filter.mpr ⟨List.mem_of_getElem? (i := 917) (by decide +kernel), by decide +kernel⟩
theorem w_918 : Cond.static (⟨R_Model, "at", "(III)I"⟩ : MethodName) ∈ zws := List.mem_filter.mpr ⟨List.mem_of_getElem? (i := 918) (by decide +kernel), by decide +kernel⟩
theorem w_919 : Cond.code (⟨R_Model, "at", "(III)I"⟩ : MethodName) prog_10_method_19_code 3 (some .int) ∈ zws := List.mem_filter.mpr ⟨List.mem_of_getElem? (i := 919) (by decide +kernel), by decide +kernel⟩
theorem w_920 : Cond.methodLink R_Model 161 (⟨R_Model, "workOut", "(III)V"⟩ : MethodName) ∈ zws := List.mem_filter.mpr ⟨List.mem_of_getElem? (i := 920) (by decide +kernel), by decide +kernel⟩
theorem w_922 : Cond.instanceMethod (⟨R_Model, "workOut", "(III)V"⟩ : MethodName) ∈ zws := List.mem_filter.mpr ⟨List.mem_of_getElem? (i := 922) (by decide +kernel), by decide +kernel⟩
theorem w_923 : Cond.code (⟨R_Model, "workOut", "(III)V"⟩ : MethodName) prog_10_method_21_code 14 none ∈ zws := List.mem_filter.mpr ⟨List.mem_of_getElem? (i := 923) (by decide +kernel), by decide +kernel⟩
theorem w_924 : Jvm.Cond.constantLong R_Model 137 (-1 : Int64) ∈ zws := List.mem_filter.mpr ⟨List.mem_of_getElem? (i := 924) (by decide +kernel), by decide +kernel⟩
theorem w_925 : Cond.methodLink R_Model 139 (⟨R_Model, "spanAt", "(I)I"⟩ : MethodName) ∈ zws := List.mem_filter.mpr ⟨List.mem_of_getElem? (i := 925) (by decide +kernel), by decide +kernel⟩
theorem w_927 : Cond.instanceMethod (⟨R_Model, "spanAt", "(I)I"⟩ : MethodName) ∈ zws := List.mem_filter.mpr ⟨List.mem_of_getElem? (i := 927) (by decide +kernel), by decide +kernel⟩
theorem w_928 : Cond.code (⟨R_Model, "spanAt", "(I)I"⟩ : MethodName) prog_10_method_17_code 4 (some .int) ∈ zws := List.mem_filter.mpr ⟨List.mem_of_getElem? (i := 928) (by decide +kernel), by decide +kernel⟩
theorem w_929 : Cond.methodLink R_Model 149 (⟨R_Model, "placeCost", "(II)J"⟩ : MethodName) ∈ zws := List.mem_filter.mpr ⟨List.mem_of_getElem? (i := 929) (by decide +kernel), by decide +kernel⟩
theorem w_931 : Cond.instanceMethod (⟨R_Model, "placeCost", "(II)J"⟩ : MethodName) ∈ zws := List.mem_filter.mpr ⟨List.mem_of_getElem? (i := 931) (by decide +kernel), by decide +kernel⟩
theorem w_932 : Cond.code (⟨R_Model, "placeCost", "(II)J"⟩ : MethodName) prog_10_method_16_code 3 (some .long) ∈ zws := List.mem_filter.mpr ⟨List.mem_of_getElem? (i := 932) (by decide +kernel), by decide +kernel⟩
theorem w_933 : Cond.methodLink R_Model 153 (⟨R_Model, "isLess", "(JIJI)Z"⟩ : MethodName) ∈ zws := List.mem_filter.mpr ⟨List.mem_of_getElem? (i := 933) (by decide +kernel), by decide +kernel⟩
theorem w_935 : Cond.instanceMethod (⟨R_Model, "isLess", "(JIJI)Z"⟩ : MethodName) ∈ zws := List.mem_filter.mpr ⟨List.mem_of_getElem? (i := 935) (by decide +kernel), by decide +kernel⟩
theorem w_936 : Cond.code (⟨R_Model, "isLess", "(JIJI)Z"⟩ : MethodName) prog_10_method_20_code 7 (some .boolean) ∈ zws := List.mem_filter.mpr ⟨List.mem_of_getElem? (i := 936) (by decide +kernel), by decide +kernel⟩
theorem w_937 : Cond.methodLink R_Model 157 (⟨R_Model, "mayUse", "(III)Z"⟩ : MethodName) ∈ zws := List.mem_filter.mpr ⟨List.mem_of_getElem? (i := 937) (by decide +kernel), by decide +kernel⟩
theorem w_939 : Cond.instanceMethod (⟨R_Model, "mayUse", "(III)Z"⟩ : MethodName) ∈ zws := List.mem_filter.mpr ⟨List.mem_of_getElem? (i := 939) (by decide +kernel), by decide +kernel⟩
theorem w_940 : Cond.code (⟨R_Model, "mayUse", "(III)Z"⟩ : MethodName) prog_10_method_18_code 8 (some .boolean) ∈ zws := List.mem_filter.mpr ⟨List.mem_of_getElem? (i := 940) (by decide +kernel), by decide +kernel⟩
theorem w_941 : Cond.methodLink R_Model 165 (⟨R_Model, "firstLevel", "()I"⟩ : MethodName) ∈ zws := List.mem_filter.mpr ⟨List.mem_of_getElem? (i := 941) (by decide +kernel), by decide +kernel⟩
theorem w_943 : Cond.instanceMethod (⟨R_Model, "firstLevel", "()I"⟩ : MethodName) ∈ zws := List.mem_filter.mpr ⟨List.mem_of_getElem? (i := 943) (by decide +kernel), by decide +kernel⟩
theorem w_944 : Cond.code (⟨R_Model, "firstLevel", "()I"⟩ : MethodName) prog_10_method_23_code 7 (some .int) ∈ zws := List.mem_filter.mpr ⟨List.mem_of_getElem? (i := 944) (by decide +kernel), by decide +kernel⟩
theorem w_945 : Cond.methodLink R_Model 183 (⟨R_Model, "goAlong", "()V"⟩ : MethodName) ∈ zws := List.mem_filter.mpr ⟨List.mem_of_getElem? (i := 945) (by decide +kernel), by decide +kernel⟩
theorem w_947 : Cond.instanceMethod (⟨R_Model, "goAlong", "()V"⟩ : MethodName) ∈ zws := List.mem_filter.mpr ⟨List.mem_of_getElem? (i := 947) (by decide +kernel), by decide +kernel⟩
theorem w_948 : Cond.code (⟨R_Model, "goAlong", "()V"⟩ : MethodName) prog_10_method_24_code 10 none ∈ zws := List.mem_filter.mpr ⟨List.mem_of_getElem? (i := 948) (by decide +kernel), by decide +kernel⟩
theorem w_949 : Cond.methodLink R_Model 186 (⟨R_Model, "usedSpans", "()I"⟩ : MethodName) ∈ zws := List.mem_filter.mpr ⟨List.mem_of_getElem? (i := 949) (by decide +kernel), by decide +kernel⟩
theorem w_951 : Cond.instanceMethod (⟨R_Model, "usedSpans", "()I"⟩ : MethodName) ∈ zws := List.mem_filter.mpr ⟨List.mem_of_getElem? (i := 951) (by decide +kernel), by decide +kernel⟩
theorem w_952 : Cond.code (⟨R_Model, "usedSpans", "()I"⟩ : MethodName) prog_10_method_27_code 3 (some .int) ∈ zws := List.mem_filter.mpr ⟨List.mem_of_getElem? (i := 952) (by decide +kernel), by decide +kernel⟩
theorem w_969 : Cond.methodLink R_Model 203 (⟨R_Model, "listAll", "()V"⟩ : MethodName) ∈ zws := List.mem_filter.mpr ⟨List.mem_of_getElem? (i := 969) (by decide +kernel), by decide +kernel⟩
theorem w_971 : Cond.instanceMethod (⟨R_Model, "listAll", "()V"⟩ : MethodName) ∈ zws := List.mem_filter.mpr ⟨List.mem_of_getElem? (i := 971) (by decide +kernel), by decide +kernel⟩
theorem w_972 : Cond.code (⟨R_Model, "listAll", "()V"⟩ : MethodName) prog_10_method_34_code 4 none ∈ zws := List.mem_filter.mpr ⟨List.mem_of_getElem? (i := 972) (by decide +kernel), by decide +kernel⟩
theorem w_973 : Cond.methodLink R_Model 197 (⟨R_Model, "list", "(III)V"⟩ : MethodName) ∈ zws := List.mem_filter.mpr ⟨List.mem_of_getElem? (i := 973) (by decide +kernel), by decide +kernel⟩
theorem w_975 : Cond.instanceMethod (⟨R_Model, "list", "(III)V"⟩ : MethodName) ∈ zws := List.mem_filter.mpr ⟨List.mem_of_getElem? (i := 975) (by decide +kernel), by decide +kernel⟩
theorem w_976 : Cond.code (⟨R_Model, "list", "(III)V"⟩ : MethodName) prog_10_method_33_code 8 none ∈ zws := List.mem_filter.mpr ⟨List.mem_of_getElem? (i := 976) (by decide +kernel), by decide +kernel⟩
theorem w_977 : Cond.methodLink R_Model 193 (⟨R_Model, "listFrom", "(IIJ)V"⟩ : MethodName) ∈ zws := List.mem_filter.mpr ⟨List.mem_of_getElem? (i := 977) (by decide +kernel), by decide +kernel⟩
theorem w_979 : Cond.instanceMethod (⟨R_Model, "listFrom", "(IIJ)V"⟩ : MethodName) ∈ zws := List.mem_filter.mpr ⟨List.mem_of_getElem? (i := 979) (by decide +kernel), by decide +kernel⟩
theorem w_980 : Cond.code (⟨R_Model, "listFrom", "(IIJ)V"⟩ : MethodName) prog_10_method_32_code 6 none ∈ zws := List.mem_filter.mpr ⟨List.mem_of_getElem? (i := 980) (by decide +kernel), by decide +kernel⟩
theorem w_981 : Cond.methodLink R_Model 189 (⟨R_Model, "insert", "([JIIJ)I"⟩ : MethodName) ∈ zws := List.mem_filter.mpr ⟨List.mem_of_getElem? (i := 981) (by decide +kernel), by decide +kernel⟩
theorem w_982 : Cond.static (⟨R_Model, "insert", "([JIIJ)I"⟩ : MethodName) ∈ zws := List.mem_filter.mpr ⟨List.mem_of_getElem? (i := 982) (by decide +kernel), by decide +kernel⟩
theorem w_983 : Cond.code (⟨R_Model, "insert", "([JIIJ)I"⟩ : MethodName) prog_10_method_31_code 8 (some .int) ∈ zws := List.mem_filter.mpr ⟨List.mem_of_getElem? (i := 983) (by decide +kernel), by decide +kernel⟩
theorem w_992 : Cond.methodLink R_Model 209 (⟨R_Model, "isSpanned", "(I)Z"⟩ : MethodName) ∈ zws := List.mem_filter.mpr ⟨List.mem_of_getElem? (i := 992) (by decide +kernel), by decide +kernel⟩
theorem w_994 : Cond.instanceMethod (⟨R_Model, "isSpanned", "(I)Z"⟩ : MethodName) ∈ zws := List.mem_filter.mpr ⟨List.mem_of_getElem? (i := 994) (by decide +kernel), by decide +kernel⟩
theorem w_995 : Cond.code (⟨R_Model, "isSpanned", "(I)Z"⟩ : MethodName) prog_10_method_38_code 4 (some .boolean) ∈ zws := List.mem_filter.mpr ⟨List.mem_of_getElem? (i := 995) (by decide +kernel), by decide +kernel⟩
theorem w_996 : Cond.methodLink R_Model 212 (⟨R_Model, "curves", "()I"⟩ : MethodName) ∈ zws := List.mem_filter.mpr ⟨List.mem_of_getElem? (i := 996) (by decide +kernel), by decide +kernel⟩
theorem w_998 : Cond.instanceMethod (⟨R_Model, "curves", "()I"⟩ : MethodName) ∈ zws := List.mem_filter.mpr ⟨List.mem_of_getElem? (i := 998) (by decide +kernel), by decide +kernel⟩
theorem w_999 : Cond.code (⟨R_Model, "curves", "()I"⟩ : MethodName) prog_10_method_37_code 3 (some .int) ∈ zws := List.mem_filter.mpr ⟨List.mem_of_getElem? (i := 999) (by decide +kernel), by decide +kernel⟩
theorem w_1004 : Jvm.Cond.constantLong R_Model 215 (64000 : Int64) ∈ zws := List.mem_filter.mpr ⟨List.mem_of_getElem? (i := 1004) (by decide +kernel), by decide +kernel⟩
theorem w_1005 : Jvm.Cond.constantLong R_Model 217 (16 : Int64) ∈ zws := List.mem_filter.mpr ⟨List.mem_of_getElem? (i := 1005) (by decide +kernel), by decide +kernel⟩
theorem w_1006 : Jvm.Cond.constantLong R_Model 219 (64 : Int64) ∈ zws := List.mem_filter.mpr ⟨List.mem_of_getElem? (i := 1006) (by decide +kernel), by decide +kernel⟩
theorem w_1019 : Cond.methodLink R_Model 227 (⟨R_Model, "filled", "(I)I"⟩ : MethodName) ∈ zws := List.mem_filter.mpr ⟨List.mem_of_getElem? (i := 1019) (by decide +kernel), by decide +kernel⟩
theorem w_1021 : Cond.instanceMethod (⟨R_Model, "filled", "(I)I"⟩ : MethodName) ∈ zws := List.mem_filter.mpr ⟨List.mem_of_getElem? (i := 1021) (by decide +kernel), by decide +kernel⟩
theorem w_1022 : Cond.code (⟨R_Model, "filled", "(I)I"⟩ : MethodName) prog_10_method_45_code 2 (some .int) ∈ zws := List.mem_filter.mpr ⟨List.mem_of_getElem? (i := 1022) (by decide +kernel), by decide +kernel⟩
theorem w_1023 : Cond.methodLink R_Model 224 (⟨R_Model, "isInside", "(I)Z"⟩ : MethodName) ∈ zws := List.mem_filter.mpr ⟨List.mem_of_getElem? (i := 1023) (by decide +kernel), by decide +kernel⟩
theorem w_1025 : Cond.instanceMethod (⟨R_Model, "isInside", "(I)Z"⟩ : MethodName) ∈ zws := List.mem_filter.mpr ⟨List.mem_of_getElem? (i := 1025) (by decide +kernel), by decide +kernel⟩
theorem w_1026 : Cond.code (⟨R_Model, "isInside", "(I)Z"⟩ : MethodName) prog_10_method_43_code 2 (some .boolean) ∈ zws := List.mem_filter.mpr ⟨List.mem_of_getElem? (i := 1026) (by decide +kernel), by decide +kernel⟩
theorem w_1027 : Cond.methodLink R_Model 221 (⟨R_Model, "spanOf", "(I)I"⟩ : MethodName) ∈ zws := List.mem_filter.mpr ⟨List.mem_of_getElem? (i := 1027) (by decide +kernel), by decide +kernel⟩
theorem w_1029 : Cond.instanceMethod (⟨R_Model, "spanOf", "(I)I"⟩ : MethodName) ∈ zws := List.mem_filter.mpr ⟨List.mem_of_getElem? (i := 1029) (by decide +kernel), by decide +kernel⟩
theorem w_1030 : Cond.code (⟨R_Model, "spanOf", "(I)I"⟩ : MethodName) prog_10_method_44_code 4 (some .int) ∈ zws := List.mem_filter.mpr ⟨List.mem_of_getElem? (i := 1030) (by decide +kernel), by decide +kernel⟩
