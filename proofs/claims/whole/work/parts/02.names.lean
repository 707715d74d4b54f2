abbrev R_Model : String := "LevelTablesModel"
abbrev R_LT : String := "LevelTables"
abbrev R_Site : String := "LevelTables$Site"
abbrev R_Spans : String := "LevelTables$Spans"
abbrev R_Reach : String := "LevelTables$Reach"
abbrev R_Table : String := "LevelTables$Table"
abbrev R_Curves : String := "LevelTables$Curves"
abbrev R_Lorry : String := "LevelTables$Lorry"
abbrev R_Search : String := "LevelTables$Search"
abbrev R_Law : String := "LevelTablesLaw"
abbrev R_Math : String := "java/lang/Math"
abbrev R_Arrays : String := "java/util/Arrays"
abbrev R_Integer : String := "java/lang/Integer"
abbrev R_System : String := "java/lang/System"
abbrev R_Object : String := "java/lang/Object"
def T_Model : u_T := fun k => match k with
  | 0 => ("LevelTablesModel", "n", "I", true)
  | 1 => ("LevelTablesModel", "m", "I", true)
  | 2 => ("LevelTablesModel", "grounds", "[I", true)
  | 3 => ("LevelTablesModel", "cuts", "[I", true)
  | 4 => ("LevelTablesModel", "fills", "[I", true)
  | 5 => ("LevelTablesModel", "fixedAt", "[I", true)
  | 6 => ("LevelTablesModel", "movedAt", "[I", true)
  | 7 => ("LevelTablesModel", "most", "I", false)
  | 8 => ("LevelTablesModel", "change", "I", false)
  | 9 => ("LevelTablesModel", "falls", "I", false)
  | 10 => ("LevelTablesModel", "spans", "I", false)
  | 11 => ("LevelTablesModel", "froms", "[I", true)
  | 12 => ("LevelTablesModel", "tos", "[I", true)
  | 13 => ("LevelTablesModel", "kinds", "[I", true)
  | 14 => ("LevelTablesModel", "cents", "[J", true)
  | 15 => ("LevelTablesModel", "costs", "[J", true)
  | 16 => ("LevelTablesModel", "sums", "[I", true)
  | 17 => ("LevelTablesModel", "lists", "[J", true)
  | 18 => ("LevelTablesModel", "many", "[I", true)
  | 19 => ("LevelTablesModel", "knowsOthers", "Z", false)
  | 20 => ("LevelTablesModel", "otherCount", "I", false)
  | 21 => ("LevelTablesModel", "others", "[J", true)
  | 22 => ("LevelTablesModel", "reached", "[Z", true)
  | 23 => ("LevelTablesModel", "next", "[Z", true)
  | 24 => ("LevelTablesModel", "has", "Z", false)
  | 25 => ("LevelTablesModel", "levels", "[I", true)
  | 26 => ("LevelTablesModel", "used", "I", false)
  | 27 => ("LevelTablesModel", "cost", "J", false)
  | 28 => ("LevelTablesModel", "halves", "[I", true)
  | 29 => ("LevelTablesModel", "speed", "I", false)
  | 30 => ("LevelTablesModel", "top", "I", false)
  | 31 => ("LevelTablesModel", "least", "I", false)
  | 32 => ("LevelTablesModel", "loss", "I", false)
  | 33 => ("LevelTablesModel", "gain", "I", false)
  | _ => ("LevelTablesModel", "speeds", "[I", true)
def ty_Model : Nat → FieldType := fun k => match k with
  | 0 => .int
  | 1 => .int
  | 2 => .array .int
  | 3 => .array .int
  | 4 => .array .int
  | 5 => .array .int
  | 6 => .array .int
  | 7 => .int
  | 8 => .int
  | 9 => .int
  | 10 => .int
  | 11 => .array .int
  | 12 => .array .int
  | 13 => .array .int
  | 14 => .array .long
  | 15 => .array .long
  | 16 => .array .int
  | 17 => .array .long
  | 18 => .array .int
  | 19 => .boolean
  | 20 => .int
  | 21 => .array .long
  | 22 => .array .boolean
  | 23 => .array .boolean
  | 24 => .boolean
  | 25 => .array .int
  | 26 => .int
  | 27 => .long
  | 28 => .array .int
  | 29 => .int
  | 30 => .int
  | 31 => .int
  | 32 => .int
  | 33 => .int
  | _ => .array .int
theorem nm_Model : ∀ a, a < 35 → ∀ b, b < 35 → a ≠ b → (T_Model a).2.1 ≠ (T_Model b).2.1 := by decide +kernel
theorem tyok_Model : ∀ k, k < 35 → parseFieldDescriptor (T_Model k).2.2.1 = some (ty_Model k) := by decide +kernel
def T_LT : u_T := fun k => match k with
  | 0 => ("LevelTables", "site", "LLevelTables$Site;", true)
  | 1 => ("LevelTables", "spans", "LLevelTables$Spans;", true)
  | 2 => ("LevelTables", "reach", "LLevelTables$Reach;", true)
  | 3 => ("LevelTables", "table", "LLevelTables$Table;", true)
  | 4 => ("LevelTables", "curves", "LLevelTables$Curves;", true)
  | 5 => ("LevelTables", "driven", "LLevelTables$Lorry;", true)
  | 6 => ("LevelTables", "best", "LLevelTables$Search;", false)
  | 7 => ("LevelTables", "cheapest", "LLevelTables$Search;", false)
  | 8 => ("LevelTables", "cheapestKnown", "Z", false)
  | _ => ("LevelTables", "curveSpeed", "I", false)
def ty_LT : Nat → FieldType := fun k => match k with
  | 0 => .object "LevelTables$Site"
  | 1 => .object "LevelTables$Spans"
  | 2 => .object "LevelTables$Reach"
  | 3 => .object "LevelTables$Table"
  | 4 => .object "LevelTables$Curves"
  | 5 => .object "LevelTables$Lorry"
  | 6 => .object "LevelTables$Search"
  | 7 => .object "LevelTables$Search"
  | 8 => .boolean
  | _ => .int
theorem nm_LT : ∀ a, a < 10 → ∀ b, b < 10 → a ≠ b → (T_LT a).2.1 ≠ (T_LT b).2.1 := by decide +kernel
theorem tyok_LT : ∀ k, k < 10 → parseFieldDescriptor (T_LT k).2.2.1 = some (ty_LT k) := by decide +kernel
def T_Site : u_T := fun k => match k with
  | 0 => ("LevelTables$Site", "last", "I", true)
  | 1 => ("LevelTables$Site", "top", "I", true)
  | 2 => ("LevelTables$Site", "ground", "[I", true)
  | 3 => ("LevelTables$Site", "cut", "[I", true)
  | 4 => ("LevelTables$Site", "fill", "[I", true)
  | 5 => ("LevelTables$Site", "fixedAt", "[I", true)
  | 6 => ("LevelTables$Site", "movedTo", "[I", true)
  | 7 => ("LevelTables$Site", "most", "I", false)
  | 8 => ("LevelTables$Site", "change", "I", false)
  | _ => ("LevelTables$Site", "falls", "I", false)
def ty_Site : Nat → FieldType := fun k => match k with
  | 0 => .int
  | 1 => .int
  | 2 => .array .int
  | 3 => .array .int
  | 4 => .array .int
  | 5 => .array .int
  | 6 => .array .int
  | 7 => .int
  | 8 => .int
  | _ => .int
theorem nm_Site : ∀ a, a < 10 → ∀ b, b < 10 → a ≠ b → (T_Site a).2.1 ≠ (T_Site b).2.1 := by decide +kernel
theorem tyok_Site : ∀ k, k < 10 → parseFieldDescriptor (T_Site k).2.2.1 = some (ty_Site k) := by decide +kernel
def T_Spans : u_T := fun k => match k with
  | 0 => ("LevelTables$Spans", "count", "I", false)
  | 1 => ("LevelTables$Spans", "from", "[I", true)
  | 2 => ("LevelTables$Spans", "to", "[I", true)
  | 3 => ("LevelTables$Spans", "kind", "[I", true)
  | _ => ("LevelTables$Spans", "cents", "[J", true)
def ty_Spans : Nat → FieldType := fun k => match k with
  | 0 => .int
  | 1 => .array .int
  | 2 => .array .int
  | 3 => .array .int
  | _ => .array .long
theorem nm_Spans : ∀ a, a < 5 → ∀ b, b < 5 → a ≠ b → (T_Spans a).2.1 ≠ (T_Spans b).2.1 := by decide +kernel
theorem tyok_Spans : ∀ k, k < 5 → parseFieldDescriptor (T_Spans k).2.2.1 = some (ty_Spans k) := by decide +kernel
def T_Reach : u_T := fun k => match k with
  | 0 => ("LevelTables$Reach", "site", "LLevelTables$Site;", true)
  | 1 => ("LevelTables$Reach", "here", "[J", false)
  | _ => ("LevelTables$Reach", "there", "[J", false)
def ty_Reach : Nat → FieldType := fun k => match k with
  | 0 => .object "LevelTables$Site"
  | 1 => .array .long
  | _ => .array .long
theorem nm_Reach : ∀ a, a < 3 → ∀ b, b < 3 → a ≠ b → (T_Reach a).2.1 ≠ (T_Reach b).2.1 := by decide +kernel
theorem tyok_Reach : ∀ k, k < 3 → parseFieldDescriptor (T_Reach k).2.2.1 = some (ty_Reach k) := by decide +kernel
def T_Table : u_T := fun k => match k with
  | 0 => ("LevelTables$Table", "site", "LLevelTables$Site;", true)
  | 1 => ("LevelTables$Table", "spans", "LLevelTables$Spans;", true)
  | 2 => ("LevelTables$Table", "levels", "[I", true)
  | 3 => ("LevelTables$Table", "spanOfStep", "[I", true)
  | 4 => ("LevelTables$Table", "atHand", "Z", false)
  | 5 => ("LevelTables$Table", "usedBits", "I", false)
  | _ => ("LevelTables$Table", "cents", "J", false)
def ty_Table : Nat → FieldType := fun k => match k with
  | 0 => .object "LevelTables$Site"
  | 1 => .object "LevelTables$Spans"
  | 2 => .array .int
  | 3 => .array .int
  | 4 => .boolean
  | 5 => .int
  | _ => .long
theorem nm_Table : ∀ a, a < 7 → ∀ b, b < 7 → a ≠ b → (T_Table a).2.1 ≠ (T_Table b).2.1 := by decide +kernel
theorem tyok_Table : ∀ k, k < 7 → parseFieldDescriptor (T_Table k).2.2.1 = some (ty_Table k) := by decide +kernel
def T_Curves : u_T := fun k => match k with
  | 0 => ("LevelTables$Curves", "halves", "[I", true)
  | _ => ("LevelTables$Curves", "count", "I", false)
def ty_Curves : Nat → FieldType := fun k => match k with
  | 0 => .array .int
  | _ => .int
theorem nm_Curves : ∀ a, a < 2 → ∀ b, b < 2 → a ≠ b → (T_Curves a).2.1 ≠ (T_Curves b).2.1 := by decide +kernel
theorem tyok_Curves : ∀ k, k < 2 → parseFieldDescriptor (T_Curves k).2.2.1 = some (ty_Curves k) := by decide +kernel
def T_Lorry : u_T := fun k => match k with
  | 0 => ("LevelTables$Lorry", "top", "I", false)
  | 1 => ("LevelTables$Lorry", "least", "I", false)
  | 2 => ("LevelTables$Lorry", "loss", "I", false)
  | _ => ("LevelTables$Lorry", "gain", "I", false)
def ty_Lorry : Nat → FieldType := fun k => match k with
  | 0 => .int
  | 1 => .int
  | 2 => .int
  | _ => .int
theorem nm_Lorry : ∀ a, a < 4 → ∀ b, b < 4 → a ≠ b → (T_Lorry a).2.1 ≠ (T_Lorry b).2.1 := by decide +kernel
theorem tyok_Lorry : ∀ k, k < 4 → parseFieldDescriptor (T_Lorry k).2.2.1 = some (ty_Lorry k) := by decide +kernel
def T_Search : u_T := fun k => match k with
  | 0 => ("LevelTables$Search", "site", "LLevelTables$Site;", true)
  | 1 => ("LevelTables$Search", "spans", "LLevelTables$Spans;", true)
  | 2 => ("LevelTables$Search", "width", "I", true)
  | 3 => ("LevelTables$Search", "ways", "I", true)
  | 4 => ("LevelTables$Search", "traced", "Z", true)
  | 5 => ("LevelTables$Search", "costUnit", "J", true)
  | 6 => ("LevelTables$Search", "sizeUnit", "J", true)
  | 7 => ("LevelTables$Search", "layers", "[[J", true)
  | 8 => ("LevelTables$Search", "leaving", "[J", true)
  | 9 => ("LevelTables$Search", "least", "[J", true)
  | _ => ("LevelTables$Search", "startLevel", "I", false)
def ty_Search : Nat → FieldType := fun k => match k with
  | 0 => .object "LevelTables$Site"
  | 1 => .object "LevelTables$Spans"
  | 2 => .int
  | 3 => .int
  | 4 => .boolean
  | 5 => .long
  | 6 => .long
  | 7 => .array (.array .long)
  | 8 => .array .long
  | 9 => .array .long
  | _ => .int
theorem nm_Search : ∀ a, a < 11 → ∀ b, b < 11 → a ≠ b → (T_Search a).2.1 ≠ (T_Search b).2.1 := by decide +kernel
theorem tyok_Search : ∀ k, k < 11 → parseFieldDescriptor (T_Search k).2.2.1 = some (ty_Search k) := by decide +kernel
def zcl : List vw_C := [(R_Model, T_Model, 35), (R_LT, T_LT, 10), (R_Site, T_Site, 10), (R_Spans, T_Spans, 5), (R_Reach, T_Reach, 3), (R_Table, T_Table, 7), (R_Curves, T_Curves, 2), (R_Lorry, T_Lorry, 4), (R_Search, T_Search, 11)]
/-- the words that a callee finds as its caller has them -/
def zws : List Cond := lw_tbl.filter goodWord
def ztl : List FieldType := [.int, .long, .boolean, .array .long]
theorem in_Model : ∀ w ∈ u_ws R_Model T_Model 35, w ∈ zws := by
  intro w hw
  have e : u_ws R_Model T_Model 35 = [776, 778, 780, 782, 784, 786, 788, 790, 792, 794, 796, 798, 800, 802, 804, 806, 808, 810, 812, 814, 816, 818, 820, 822, 824, 826, 828, 830, 832, 834, 836, 838, 840, 842, 844].filterMap (fun i => lw_tbl[i]?) := by decide +kernel
  rw [e] at hw
  have g : ([776, 778, 780, 782, 784, 786, 788, 790, 792, 794, 796, 798, 800, 802, 804, 806, 808, 810, 812, 814, 816, 818, 820, 822, 824, 826, 828, 830, 832, 834, 836, 838, 840, 842, 844].filterMap (fun i => lw_tbl[i]?)).all goodWord = true := by decide +kernel
  have g1 := List.all_eq_true.mp g w hw
  obtain ⟨i, -, hi⟩ := List.mem_filterMap.mp hw
  exact List.mem_filter.mpr ⟨List.mem_of_getElem? hi, g1⟩
theorem in_LT : ∀ w ∈ u_ws R_LT T_LT 10, w ∈ zws := by
  intro w hw
  have e : u_ws R_LT T_LT 10 = [276, 278, 280, 282, 284, 286, 288, 290, 292, 294].filterMap (fun i => lw_tbl[i]?) := by decide +kernel
  rw [e] at hw
  have g : ([276, 278, 280, 282, 284, 286, 288, 290, 292, 294].filterMap (fun i => lw_tbl[i]?)).all goodWord = true := by decide +kernel
  have g1 := List.all_eq_true.mp g w hw
  obtain ⟨i, -, hi⟩ := List.mem_filterMap.mp hw
  exact List.mem_filter.mpr ⟨List.mem_of_getElem? hi, g1⟩
theorem in_Site : ∀ w ∈ u_ws R_Site T_Site 10, w ∈ zws := by
  intro w hw
  have e : u_ws R_Site T_Site 10 = [121, 123, 125, 127, 129, 131, 133, 135, 137, 139].filterMap (fun i => lw_tbl[i]?) := by decide +kernel
  rw [e] at hw
  have g : ([121, 123, 125, 127, 129, 131, 133, 135, 137, 139].filterMap (fun i => lw_tbl[i]?)).all goodWord = true := by decide +kernel
  have g1 := List.all_eq_true.mp g w hw
  obtain ⟨i, -, hi⟩ := List.mem_filterMap.mp hw
  exact List.mem_filter.mpr ⟨List.mem_of_getElem? hi, g1⟩
theorem in_Spans : ∀ w ∈ u_ws R_Spans T_Spans 5, w ∈ zws := by
  intro w hw
  have e : u_ws R_Spans T_Spans 5 = [161, 163, 165, 167, 169].filterMap (fun i => lw_tbl[i]?) := by decide +kernel
  rw [e] at hw
  have g : ([161, 163, 165, 167, 169].filterMap (fun i => lw_tbl[i]?)).all goodWord = true := by decide +kernel
  have g1 := List.all_eq_true.mp g w hw
  obtain ⟨i, -, hi⟩ := List.mem_filterMap.mp hw
  exact List.mem_filter.mpr ⟨List.mem_of_getElem? hi, g1⟩
theorem in_Reach : ∀ w ∈ u_ws R_Reach T_Reach 3, w ∈ zws := by
  intro w hw
  have e : u_ws R_Reach T_Reach 3 = [182, 184, 186].filterMap (fun i => lw_tbl[i]?) := by decide +kernel
  rw [e] at hw
  have g : ([182, 184, 186].filterMap (fun i => lw_tbl[i]?)).all goodWord = true := by decide +kernel
  have g1 := List.all_eq_true.mp g w hw
  obtain ⟨i, -, hi⟩ := List.mem_filterMap.mp hw
  exact List.mem_filter.mpr ⟨List.mem_of_getElem? hi, g1⟩
theorem in_Table : ∀ w ∈ u_ws R_Table T_Table 7, w ∈ zws := by
  intro w hw
  have e : u_ws R_Table T_Table 7 = [213, 215, 217, 219, 221, 223, 225].filterMap (fun i => lw_tbl[i]?) := by decide +kernel
  rw [e] at hw
  have g : ([213, 215, 217, 219, 221, 223, 225].filterMap (fun i => lw_tbl[i]?)).all goodWord = true := by decide +kernel
  have g1 := List.all_eq_true.mp g w hw
  obtain ⟨i, -, hi⟩ := List.mem_filterMap.mp hw
  exact List.mem_filter.mpr ⟨List.mem_of_getElem? hi, g1⟩
theorem in_Curves : ∀ w ∈ u_ws R_Curves T_Curves 2, w ∈ zws := by
  intro w hw
  have e : u_ws R_Curves T_Curves 2 = [238, 240].filterMap (fun i => lw_tbl[i]?) := by decide +kernel
  rw [e] at hw
  have g : ([238, 240].filterMap (fun i => lw_tbl[i]?)).all goodWord = true := by decide +kernel
  have g1 := List.all_eq_true.mp g w hw
  obtain ⟨i, -, hi⟩ := List.mem_filterMap.mp hw
  exact List.mem_filter.mpr ⟨List.mem_of_getElem? hi, g1⟩
theorem in_Lorry : ∀ w ∈ u_ws R_Lorry T_Lorry 4, w ∈ zws := by
  intro w hw
  have e : u_ws R_Lorry T_Lorry 4 = [257, 259, 261, 263].filterMap (fun i => lw_tbl[i]?) := by decide +kernel
  rw [e] at hw
  have g : ([257, 259, 261, 263].filterMap (fun i => lw_tbl[i]?)).all goodWord = true := by decide +kernel
  have g1 := List.all_eq_true.mp g w hw
  obtain ⟨i, -, hi⟩ := List.mem_filterMap.mp hw
  exact List.mem_filter.mpr ⟨List.mem_of_getElem? hi, g1⟩
theorem in_Search : ∀ w ∈ u_ws R_Search T_Search 11, w ∈ zws := by
  intro w hw
  have e : u_ws R_Search T_Search 11 = [433, 435, 437, 439, 441, 443, 445, 447, 449, 451, 453].filterMap (fun i => lw_tbl[i]?) := by decide +kernel
  rw [e] at hw
  have g : ([433, 435, 437, 439, 441, 443, 445, 447, 449, 451, 453].filterMap (fun i => lw_tbl[i]?)).all goodWord = true := by decide +kernel
  have g1 := List.all_eq_true.mp g w hw
  obtain ⟨i, -, hi⟩ := List.mem_filterMap.mp hw
  exact List.mem_filter.mpr ⟨List.mem_of_getElem? hi, g1⟩

