/-! ===== LevelTables$Spans.<init>()V ===== -/
abbrev y_Spans_init : MethodName := ⟨R_Spans, "<init>", "()V"⟩
theorem pd_Spans_init : y_Spans_init.cls ≠ "java/lang/invoke/MethodHandle" ∧ y_Spans_init.cls ≠ "java/lang/invoke/VarHandle" ∧ (parseMethodDescriptor y_Spans_init.desc).map (fun d => d.parameters.length) = some 0 := ⟨by decide +kernel, by decide +kernel, by decide +kernel⟩
abbrev rm_Spans_init : Room := { frames := 1, cells := 4, slots := 24, locals := 20 }
def f_Spans_init (N : Nat) (x0 : Nat) (h : zH) : Option (Unit × zH) :=
  Option.bind (zp h x0 3 0 (.int (0 : Int32))) fun (h1 : zH) =>
  Option.bind (znI h1 0 6 (6 : Int32)) fun (q2 : Nat × zH) =>
  Option.bind (zp q2.2 x0 3 1 (.ref q2.1)) fun (h3 : zH) =>
  Option.bind (znI h3 0 6 (6 : Int32)) fun (q4 : Nat × zH) =>
  Option.bind (zp q4.2 x0 3 2 (.ref q4.1)) fun (h5 : zH) =>
  Option.bind (znI h5 0 6 (6 : Int32)) fun (q6 : Nat × zH) =>
  Option.bind (zp q6.2 x0 3 3 (.ref q6.1)) fun (h7 : zH) =>
  Option.bind (znJ h7 1 6 (6 : Int32)) fun (q8 : Nat × zH) =>
  Option.bind (zp q8.2 x0 3 4 (.ref q8.1)) fun (h9 : zH) =>
  some ((), h9)
theorem d_Spans_init_0 : decode prog_7_method_1_code 0 = .ok (.aload_n (0), 1) := by decide +kernel
theorem d_Spans_init_1 : decode prog_7_method_1_code 1 = .ok (.invokespecial (3), 3) := by decide +kernel
theorem d_Spans_init_4 : decode prog_7_method_1_code 4 = .ok (.aload_n (0), 1) := by decide +kernel
theorem d_Spans_init_5 : decode prog_7_method_1_code 5 = .ok (.iconst (0), 1) := by decide +kernel
theorem d_Spans_init_6 : decode prog_7_method_1_code 6 = .ok (.putfield (9), 3) := by decide +kernel
theorem d_Spans_init_9 : decode prog_7_method_1_code 9 = .ok (.aload_n (0), 1) := by decide +kernel
theorem d_Spans_init_10 : decode prog_7_method_1_code 10 = .ok (.bipush (6), 2) := by decide +kernel
theorem d_Spans_init_12 : decode prog_7_method_1_code 12 = .ok (.newarray .int, 2) := by decide +kernel
theorem d_Spans_init_14 : decode prog_7_method_1_code 14 = .ok (.putfield (15), 3) := by decide +kernel
theorem d_Spans_init_17 : decode prog_7_method_1_code 17 = .ok (.aload_n (0), 1) := by decide +kernel
theorem d_Spans_init_18 : decode prog_7_method_1_code 18 = .ok (.bipush (6), 2) := by decide +kernel
theorem d_Spans_init_20 : decode prog_7_method_1_code 20 = .ok (.newarray .int, 2) := by decide +kernel
theorem d_Spans_init_22 : decode prog_7_method_1_code 22 = .ok (.putfield (19), 3) := by decide +kernel
theorem d_Spans_init_25 : decode prog_7_method_1_code 25 = .ok (.aload_n (0), 1) := by decide +kernel
theorem d_Spans_init_26 : decode prog_7_method_1_code 26 = .ok (.bipush (6), 2) := by decide +kernel
theorem d_Spans_init_28 : decode prog_7_method_1_code 28 = .ok (.newarray .int, 2) := by decide +kernel
theorem d_Spans_init_30 : decode prog_7_method_1_code 30 = .ok (.putfield (22), 3) := by decide +kernel
theorem d_Spans_init_33 : decode prog_7_method_1_code 33 = .ok (.aload_n (0), 1) := by decide +kernel
theorem d_Spans_init_34 : decode prog_7_method_1_code 34 = .ok (.bipush (6), 2) := by decide +kernel
theorem d_Spans_init_36 : decode prog_7_method_1_code 36 = .ok (.newarray .long, 2) := by decide +kernel
theorem d_Spans_init_38 : decode prog_7_method_1_code 38 = .ok (.putfield (25), 3) := by decide +kernel
theorem d_Spans_init_41 : decode prog_7_method_1_code 41 = .ok (.return_, 1) := by decide +kernel
set_option maxHeartbeats 4000000 in
set_option maxRecDepth 100000 in
theorem k_Spans_init (N : Nat) {X : zX} (C : zB X prog_7_method_1_code 1 R_Spans rm_Spans_init) {h0 : zH} {p : Unit × zH} (E : zR X none rm_Spans_init h0 none p.2) (hin : (x_t X).name = "<init>") : ∀ (x0 : Nat) (h : zH), f_Spans_init N x0 h = some p → Zt X 1 0 0 0 [(0, .ref x0)] [] h := by
  intro x0 h hf
  unfold f_Spans_init at hf
  refine z_aload_n C 0 d_Spans_init_0 rfl rfl ?_
  refine z_objInit C w_148 w_76 w_77 (Nat.le_of_ble_eq_true rfl) (Nat.le_of_ble_eq_true rfl) d_Spans_init_1 ?_
  refine z_aload_n C 0 d_Spans_init_4 rfl rfl ?_
  refine z_iconst C (v := (0 : Int32)) d_Spans_init_5 (by decide) ?_
  refine z_put C 3 0 ty_Spans rfl in_Spans tyok_Spans nm_Spans (by decide) w_149 rfl (Or.inl rfl) rfl rfl rfl d_Spans_init_6 hf (fun h1 hf => ?_)
  refine z_aload_n C 0 d_Spans_init_9 rfl rfl ?_
  refine z_bipush C (v := (6 : Int32)) d_Spans_init_10 (by decide) ?_
  refine z_newI C 6 w_142 (Nat.le_of_ble_eq_true rfl) (Nat.le_of_ble_eq_true rfl) (Nat.le_of_ble_eq_true rfl) d_Spans_init_12 hf (fun q2 hf => ?_)
  refine z_put C 3 1 ty_Spans rfl in_Spans tyok_Spans nm_Spans (by decide) w_152 rfl (Or.inr ⟨rfl, hin, rfl⟩) rfl rfl rfl d_Spans_init_14 hf (fun h3 hf => ?_)
  refine z_aload_n C 0 d_Spans_init_17 rfl rfl ?_
  refine z_bipush C (v := (6 : Int32)) d_Spans_init_18 (by decide) ?_
  refine z_newI C 6 w_142 (Nat.le_of_ble_eq_true rfl) (Nat.le_of_ble_eq_true rfl) (Nat.le_of_ble_eq_true rfl) d_Spans_init_20 hf (fun q4 hf => ?_)
  refine z_put C 3 2 ty_Spans rfl in_Spans tyok_Spans nm_Spans (by decide) w_155 rfl (Or.inr ⟨rfl, hin, rfl⟩) rfl rfl rfl d_Spans_init_22 hf (fun h5 hf => ?_)
  refine z_aload_n C 0 d_Spans_init_25 rfl rfl ?_
  refine z_bipush C (v := (6 : Int32)) d_Spans_init_26 (by decide) ?_
  refine z_newI C 6 w_142 (Nat.le_of_ble_eq_true rfl) (Nat.le_of_ble_eq_true rfl) (Nat.le_of_ble_eq_true rfl) d_Spans_init_28 hf (fun q6 hf => ?_)
  refine z_put C 3 3 ty_Spans rfl in_Spans tyok_Spans nm_Spans (by decide) w_158 rfl (Or.inr ⟨rfl, hin, rfl⟩) rfl rfl rfl d_Spans_init_30 hf (fun h7 hf => ?_)
  refine z_aload_n C 0 d_Spans_init_33 rfl rfl ?_
  refine z_bipush C (v := (6 : Int32)) d_Spans_init_34 (by decide) ?_
  refine z_newJ C 6 w_172 (Nat.le_of_ble_eq_true rfl) (Nat.le_of_ble_eq_true rfl) (Nat.le_of_ble_eq_true rfl) d_Spans_init_36 hf (fun q8 hf => ?_)
  refine z_put C 3 4 ty_Spans rfl in_Spans tyok_Spans nm_Spans (by decide) w_159 rfl (Or.inr ⟨rfl, hin, rfl⟩) rfl rfl rfl d_Spans_init_38 hf (fun h9 hf => ?_)
  exact z_vret C E (Nat.le_of_ble_eq_true rfl) (Nat.le_of_ble_eq_true rfl) d_Spans_init_41 hf

theorem c_Spans_init (N : Nat) {l : Launch} {D : va_G} {T : List (ClassId × FieldType)} (hT : T.map (fun q => q.2) = ztl) {x0 : Nat} {h : zH} {p : Unit × zH} (hf : f_Spans_init N x0 h = some p) : zM l y_Spans_init prog_7_method_1_code 1 none rm_Spans_init D T [.ref x0] h none p.2 :=
  z_enter (by decide) hT (Nat.le_of_ble_eq_true rfl) (fun X el eD eT hin C E => k_Spans_init N C E (hin rfl) x0 h hf)
/-! ===== LevelTables$Reach.<init>(LLevelTables$Site;)V ===== -/
abbrev y_Reach_init : MethodName := ⟨R_Reach, "<init>", "(LLevelTables$Site;)V"⟩
theorem pd_Reach_init : y_Reach_init.cls ≠ "java/lang/invoke/MethodHandle" ∧ y_Reach_init.cls ≠ "java/lang/invoke/VarHandle" ∧ (parseMethodDescriptor y_Reach_init.desc).map (fun d => d.parameters.length) = some 1 := ⟨by decide +kernel, by decide +kernel, by decide +kernel⟩
abbrev rm_Reach_init : Room := { frames := 1, cells := 2, slots := 50, locals := 20 }
def f_Reach_init (N : Nat) (x0 : Nat) (x1 : Nat) (h : zH) : Option (Unit × zH) :=
  Option.bind (zp h x0 4 0 (.ref x1)) fun (h1 : zH) =>
  Option.bind (zgI h1 x1 2 1) fun (v2 : Int32) =>
  Option.bind (znJ h1 1 25 (v2 + (1 : Int32))) fun (q3 : Nat × zH) =>
  Option.bind (zp q3.2 x0 4 1 (.ref q3.1)) fun (h4 : zH) =>
  Option.bind (zgI h4 x1 2 1) fun (v5 : Int32) =>
  Option.bind (znJ h4 1 25 (v5 + (1 : Int32))) fun (q6 : Nat × zH) =>
  Option.bind (zp q6.2 x0 4 2 (.ref q6.1)) fun (h7 : zH) =>
  some ((), h7)
theorem d_Reach_init_0 : decode prog_4_method_1_code 0 = .ok (.aload_n (0), 1) := by decide +kernel
theorem d_Reach_init_1 : decode prog_4_method_1_code 1 = .ok (.invokespecial (3), 3) := by decide +kernel
theorem d_Reach_init_4 : decode prog_4_method_1_code 4 = .ok (.aload_n (0), 1) := by decide +kernel
theorem d_Reach_init_5 : decode prog_4_method_1_code 5 = .ok (.aload_n (1), 1) := by decide +kernel
theorem d_Reach_init_6 : decode prog_4_method_1_code 6 = .ok (.putfield (9), 3) := by decide +kernel
theorem d_Reach_init_9 : decode prog_4_method_1_code 9 = .ok (.aload_n (0), 1) := by decide +kernel
theorem d_Reach_init_10 : decode prog_4_method_1_code 10 = .ok (.aload_n (1), 1) := by decide +kernel
theorem d_Reach_init_11 : decode prog_4_method_1_code 11 = .ok (.getfield (15), 3) := by decide +kernel
theorem d_Reach_init_14 : decode prog_4_method_1_code 14 = .ok (.iconst (1), 1) := by decide +kernel
theorem d_Reach_init_15 : decode prog_4_method_1_code 15 = .ok (.iadd, 1) := by decide +kernel
theorem d_Reach_init_16 : decode prog_4_method_1_code 16 = .ok (.newarray .long, 2) := by decide +kernel
theorem d_Reach_init_18 : decode prog_4_method_1_code 18 = .ok (.putfield (21), 3) := by decide +kernel
theorem d_Reach_init_21 : decode prog_4_method_1_code 21 = .ok (.aload_n (0), 1) := by decide +kernel
theorem d_Reach_init_22 : decode prog_4_method_1_code 22 = .ok (.aload_n (1), 1) := by decide +kernel
theorem d_Reach_init_23 : decode prog_4_method_1_code 23 = .ok (.getfield (15), 3) := by decide +kernel
theorem d_Reach_init_26 : decode prog_4_method_1_code 26 = .ok (.iconst (1), 1) := by decide +kernel
theorem d_Reach_init_27 : decode prog_4_method_1_code 27 = .ok (.iadd, 1) := by decide +kernel
theorem d_Reach_init_28 : decode prog_4_method_1_code 28 = .ok (.newarray .long, 2) := by decide +kernel
theorem d_Reach_init_30 : decode prog_4_method_1_code 30 = .ok (.putfield (25), 3) := by decide +kernel
theorem d_Reach_init_33 : decode prog_4_method_1_code 33 = .ok (.return_, 1) := by decide +kernel
set_option maxHeartbeats 4000000 in
set_option maxRecDepth 100000 in
theorem k_Reach_init (N : Nat) {X : zX} (C : zB X prog_4_method_1_code 2 R_Reach rm_Reach_init) {h0 : zH} {p : Unit × zH} (E : zR X none rm_Reach_init h0 none p.2) (hin : (x_t X).name = "<init>") : ∀ (x0 : Nat) (x1 : Nat) (h : zH), f_Reach_init N x0 x1 h = some p → Zt X 2 0 0 0 [(0, .ref x0), (1, .ref x1)] [] h := by
  intro x0 x1 h hf
  unfold f_Reach_init at hf
  refine z_aload_n C 0 d_Reach_init_0 rfl rfl ?_
  refine z_objInit C w_178 w_76 w_77 (Nat.le_of_ble_eq_true rfl) (Nat.le_of_ble_eq_true rfl) d_Reach_init_1 ?_
  refine z_aload_n C 0 d_Reach_init_4 rfl rfl ?_
  refine z_aload_n C 1 d_Reach_init_5 rfl rfl ?_
  refine z_put C 4 0 ty_Reach rfl in_Reach tyok_Reach nm_Reach (by decide) w_179 rfl (Or.inr ⟨rfl, hin, rfl⟩) rfl rfl rfl d_Reach_init_6 hf (fun h1 hf => ?_)
  refine z_aload_n C 0 d_Reach_init_9 rfl rfl ?_
  refine z_aload_n C 1 d_Reach_init_10 rfl rfl ?_
  refine z_getI C 2 1 rfl in_Site (by decide) w_98 rfl d_Reach_init_11 hf (fun v2 hf => ?_)
  refine z_iconst C (v := (1 : Int32)) d_Reach_init_14 (by decide) ?_
  refine z_iadd C d_Reach_init_15 ?_
  refine z_newJ C 25 w_172 (Nat.le_of_ble_eq_true rfl) (Nat.le_of_ble_eq_true rfl) (Nat.le_of_ble_eq_true rfl) d_Reach_init_16 hf (fun q3 hf => ?_)
  refine z_put C 4 1 ty_Reach rfl in_Reach tyok_Reach nm_Reach (by decide) w_180 rfl (Or.inl rfl) rfl rfl rfl d_Reach_init_18 hf (fun h4 hf => ?_)
  refine z_aload_n C 0 d_Reach_init_21 rfl rfl ?_
  refine z_aload_n C 1 d_Reach_init_22 rfl rfl ?_
  refine z_getI C 2 1 rfl in_Site (by decide) w_98 rfl d_Reach_init_23 hf (fun v5 hf => ?_)
  refine z_iconst C (v := (1 : Int32)) d_Reach_init_26 (by decide) ?_
  refine z_iadd C d_Reach_init_27 ?_
  refine z_newJ C 25 w_172 (Nat.le_of_ble_eq_true rfl) (Nat.le_of_ble_eq_true rfl) (Nat.le_of_ble_eq_true rfl) d_Reach_init_28 hf (fun q6 hf => ?_)
  refine z_put C 4 2 ty_Reach rfl in_Reach tyok_Reach nm_Reach (by decide) w_181 rfl (Or.inl rfl) rfl rfl rfl d_Reach_init_30 hf (fun h7 hf => ?_)
  exact z_vret C E (Nat.le_of_ble_eq_true rfl) (Nat.le_of_ble_eq_true rfl) d_Reach_init_33 hf

theorem c_Reach_init (N : Nat) {l : Launch} {D : va_G} {T : List (ClassId × FieldType)} (hT : T.map (fun q => q.2) = ztl) {x0 : Nat} {x1 : Nat} {h : zH} {p : Unit × zH} (hf : f_Reach_init N x0 x1 h = some p) : zM l y_Reach_init prog_4_method_1_code 2 none rm_Reach_init D T [.ref x0, .ref x1] h none p.2 :=
  z_enter (by decide) hT (Nat.le_of_ble_eq_true rfl) (fun X el eD eT hin C E => k_Reach_init N C E (hin rfl) x0 x1 h hf)
/-! ===== LevelTables$Table.<init>(LLevelTables$Site;LLevelTables$Spans;)V ===== -/
abbrev y_Table_init : MethodName := ⟨R_Table, "<init>", "(LLevelTables$Site;LLevelTables$Spans;)V"⟩
theorem pd_Table_init : y_Table_init.cls ≠ "java/lang/invoke/MethodHandle" ∧ y_Table_init.cls ≠ "java/lang/invoke/VarHandle" ∧ (parseMethodDescriptor y_Table_init.desc).map (fun d => d.parameters.length) = some 2 := ⟨by decide +kernel, by decide +kernel, by decide +kernel⟩
abbrev rm_Table_init : Room := { frames := 1, cells := 2, slots := 50, locals := 20 }
def f_Table_init (N : Nat) (x0 : Nat) (x1 : Nat) (x2 : Nat) (h : zH) : Option (Unit × zH) :=
  Option.bind (zpZ h x0 5 4 (0 : Int32)) fun (h1 : zH) =>
  Option.bind (zp h1 x0 5 5 (.int (0 : Int32))) fun (h2 : zH) =>
  Option.bind (zp h2 x0 5 6 (.long (0 : Int64))) fun (h3 : zH) =>
  Option.bind (zp h3 x0 5 0 (.ref x1)) fun (h4 : zH) =>
  Option.bind (zp h4 x0 5 1 (.ref x2)) fun (h5 : zH) =>
  Option.bind (zgI h5 x1 2 0) fun (v6 : Int32) =>
  Option.bind (znI h5 0 25 (v6 + (1 : Int32))) fun (q7 : Nat × zH) =>
  Option.bind (zp q7.2 x0 5 2 (.ref q7.1)) fun (h8 : zH) =>
  Option.bind (zgI h8 x1 2 0) fun (v9 : Int32) =>
  Option.bind (znI h8 0 25 v9) fun (q10 : Nat × zH) =>
  Option.bind (zp q10.2 x0 5 3 (.ref q10.1)) fun (h11 : zH) =>
  some ((), h11)
theorem d_Table_init_0 : decode prog_8_method_1_code 0 = .ok (.aload_n (0), 1) := by decide +kernel
theorem d_Table_init_1 : decode prog_8_method_1_code 1 = .ok (.invokespecial (3), 3) := by decide +kernel
theorem d_Table_init_4 : decode prog_8_method_1_code 4 = .ok (.aload_n (0), 1) := by decide +kernel
theorem d_Table_init_5 : decode prog_8_method_1_code 5 = .ok (.iconst (0), 1) := by decide +kernel
theorem d_Table_init_6 : decode prog_8_method_1_code 6 = .ok (.putfield (9), 3) := by decide +kernel
theorem d_Table_init_9 : decode prog_8_method_1_code 9 = .ok (.aload_n (0), 1) := by decide +kernel
theorem d_Table_init_10 : decode prog_8_method_1_code 10 = .ok (.iconst (0), 1) := by decide +kernel
theorem d_Table_init_11 : decode prog_8_method_1_code 11 = .ok (.putfield (15), 3) := by decide +kernel
theorem d_Table_init_14 : decode prog_8_method_1_code 14 = .ok (.aload_n (0), 1) := by decide +kernel
theorem d_Table_init_15 : decode prog_8_method_1_code 15 = .ok (.lconst (0), 1) := by decide +kernel
theorem d_Table_init_16 : decode prog_8_method_1_code 16 = .ok (.putfield (19), 3) := by decide +kernel
theorem d_Table_init_19 : decode prog_8_method_1_code 19 = .ok (.aload_n (0), 1) := by decide +kernel
theorem d_Table_init_20 : decode prog_8_method_1_code 20 = .ok (.aload_n (1), 1) := by decide +kernel
theorem d_Table_init_21 : decode prog_8_method_1_code 21 = .ok (.putfield (23), 3) := by decide +kernel
theorem d_Table_init_24 : decode prog_8_method_1_code 24 = .ok (.aload_n (0), 1) := by decide +kernel
theorem d_Table_init_25 : decode prog_8_method_1_code 25 = .ok (.aload_n (2), 1) := by decide +kernel
theorem d_Table_init_26 : decode prog_8_method_1_code 26 = .ok (.putfield (27), 3) := by decide +kernel
theorem d_Table_init_29 : decode prog_8_method_1_code 29 = .ok (.aload_n (0), 1) := by decide +kernel
theorem d_Table_init_30 : decode prog_8_method_1_code 30 = .ok (.aload_n (1), 1) := by decide +kernel
theorem d_Table_init_31 : decode prog_8_method_1_code 31 = .ok (.getfield (31), 3) := by decide +kernel
theorem d_Table_init_34 : decode prog_8_method_1_code 34 = .ok (.iconst (1), 1) := by decide +kernel
theorem d_Table_init_35 : decode prog_8_method_1_code 35 = .ok (.iadd, 1) := by decide +kernel
theorem d_Table_init_36 : decode prog_8_method_1_code 36 = .ok (.newarray .int, 2) := by decide +kernel
theorem d_Table_init_38 : decode prog_8_method_1_code 38 = .ok (.putfield (36), 3) := by decide +kernel
theorem d_Table_init_41 : decode prog_8_method_1_code 41 = .ok (.aload_n (0), 1) := by decide +kernel
theorem d_Table_init_42 : decode prog_8_method_1_code 42 = .ok (.aload_n (1), 1) := by decide +kernel
theorem d_Table_init_43 : decode prog_8_method_1_code 43 = .ok (.getfield (31), 3) := by decide +kernel
theorem d_Table_init_46 : decode prog_8_method_1_code 46 = .ok (.newarray .int, 2) := by decide +kernel
theorem d_Table_init_48 : decode prog_8_method_1_code 48 = .ok (.putfield (40), 3) := by decide +kernel
theorem d_Table_init_51 : decode prog_8_method_1_code 51 = .ok (.return_, 1) := by decide +kernel
set_option maxHeartbeats 4000000 in
set_option maxRecDepth 100000 in
theorem k_Table_init (N : Nat) {X : zX} (C : zB X prog_8_method_1_code 3 R_Table rm_Table_init) {h0 : zH} {p : Unit × zH} (E : zR X none rm_Table_init h0 none p.2) (hin : (x_t X).name = "<init>") : ∀ (x0 : Nat) (x1 : Nat) (x2 : Nat) (h : zH), f_Table_init N x0 x1 x2 h = some p → Zt X 3 0 0 0 [(0, .ref x0), (1, .ref x1), (2, .ref x2)] [] h := by
  intro x0 x1 x2 h hf
  unfold f_Table_init at hf
  refine z_aload_n C 0 d_Table_init_0 rfl rfl ?_
  refine z_objInit C w_194 w_76 w_77 (Nat.le_of_ble_eq_true rfl) (Nat.le_of_ble_eq_true rfl) d_Table_init_1 ?_
  refine z_aload_n C 0 d_Table_init_4 rfl rfl ?_
  refine z_iconst C (v := (0 : Int32)) d_Table_init_5 (by decide) ?_
  refine z_putZ C 5 4 ty_Table rfl in_Table tyok_Table nm_Table (by decide) w_204 rfl (Or.inl rfl) rfl d_Table_init_6 hf (fun h1 hf => ?_)
  refine z_aload_n C 0 d_Table_init_9 rfl rfl ?_
  refine z_iconst C (v := (0 : Int32)) d_Table_init_10 (by decide) ?_
  refine z_put C 5 5 ty_Table rfl in_Table tyok_Table nm_Table (by decide) w_207 rfl (Or.inl rfl) rfl rfl rfl d_Table_init_11 hf (fun h2 hf => ?_)
  refine z_aload_n C 0 d_Table_init_14 rfl rfl ?_
  refine z_lconst C (v := (0 : Int64)) d_Table_init_15 (by decide) ?_
  refine z_put C 5 6 ty_Table rfl in_Table tyok_Table nm_Table (by decide) w_210 rfl (Or.inl rfl) rfl rfl rfl d_Table_init_16 hf (fun h3 hf => ?_)
  refine z_aload_n C 0 d_Table_init_19 rfl rfl ?_
  refine z_aload_n C 1 d_Table_init_20 rfl rfl ?_
  refine z_put C 5 0 ty_Table rfl in_Table tyok_Table nm_Table (by decide) w_195 rfl (Or.inr ⟨rfl, hin, rfl⟩) rfl rfl rfl d_Table_init_21 hf (fun h4 hf => ?_)
  refine z_aload_n C 0 d_Table_init_24 rfl rfl ?_
  refine z_aload_n C 2 d_Table_init_25 rfl rfl ?_
  refine z_put C 5 1 ty_Table rfl in_Table tyok_Table nm_Table (by decide) w_196 rfl (Or.inr ⟨rfl, hin, rfl⟩) rfl rfl rfl d_Table_init_26 hf (fun h5 hf => ?_)
  refine z_aload_n C 0 d_Table_init_29 rfl rfl ?_
  refine z_aload_n C 1 d_Table_init_30 rfl rfl ?_
  refine z_getI C 2 0 rfl in_Site (by decide) w_94 rfl d_Table_init_31 hf (fun v6 hf => ?_)
  refine z_iconst C (v := (1 : Int32)) d_Table_init_34 (by decide) ?_
  refine z_iadd C d_Table_init_35 ?_
  refine z_newI C 25 w_142 (Nat.le_of_ble_eq_true rfl) (Nat.le_of_ble_eq_true rfl) (Nat.le_of_ble_eq_true rfl) d_Table_init_36 hf (fun q7 hf => ?_)
  refine z_put C 5 2 ty_Table rfl in_Table tyok_Table nm_Table (by decide) w_197 rfl (Or.inr ⟨rfl, hin, rfl⟩) rfl rfl rfl d_Table_init_38 hf (fun h8 hf => ?_)
  refine z_aload_n C 0 d_Table_init_41 rfl rfl ?_
  refine z_aload_n C 1 d_Table_init_42 rfl rfl ?_
  refine z_getI C 2 0 rfl in_Site (by decide) w_94 rfl d_Table_init_43 hf (fun v9 hf => ?_)
  refine z_newI C 25 w_142 (Nat.le_of_ble_eq_true rfl) (Nat.le_of_ble_eq_true rfl) (Nat.le_of_ble_eq_true rfl) d_Table_init_46 hf (fun q10 hf => ?_)
  refine z_put C 5 3 ty_Table rfl in_Table tyok_Table nm_Table (by decide) w_201 rfl (Or.inr ⟨rfl, hin, rfl⟩) rfl rfl rfl d_Table_init_48 hf (fun h11 hf => ?_)
  exact z_vret C E (Nat.le_of_ble_eq_true rfl) (Nat.le_of_ble_eq_true rfl) d_Table_init_51 hf

theorem c_Table_init (N : Nat) {l : Launch} {D : va_G} {T : List (ClassId × FieldType)} (hT : T.map (fun q => q.2) = ztl) {x0 : Nat} {x1 : Nat} {x2 : Nat} {h : zH} {p : Unit × zH} (hf : f_Table_init N x0 x1 x2 h = some p) : zM l y_Table_init prog_8_method_1_code 3 none rm_Table_init D T [.ref x0, .ref x1, .ref x2] h none p.2 :=
  z_enter (by decide) hT (Nat.le_of_ble_eq_true rfl) (fun X el eD eT hin C E => k_Table_init N C E (hin rfl) x0 x1 x2 h hf)
/-! ===== LevelTables$Curves.<init>(I)V ===== -/
abbrev y_Curves_init : MethodName := ⟨R_Curves, "<init>", "(I)V"⟩
theorem pd_Curves_init : y_Curves_init.cls ≠ "java/lang/invoke/MethodHandle" ∧ y_Curves_init.cls ≠ "java/lang/invoke/VarHandle" ∧ (parseMethodDescriptor y_Curves_init.desc).map (fun d => d.parameters.length) = some 1 := ⟨by decide +kernel, by decide +kernel, by decide +kernel⟩
abbrev rm_Curves_init : Room := { frames := 1, cells := 1, slots := 25, locals := 20 }
def f_Curves_init (N : Nat) (x0 : Nat) (x1 : Int32) (h : zH) : Option (Unit × zH) :=
  Option.bind (zp h x0 6 1 (.int (0 : Int32))) fun (h1 : zH) =>
  Option.bind (znI h1 0 25 (x1 + (1 : Int32))) fun (q2 : Nat × zH) =>
  Option.bind (zp q2.2 x0 6 0 (.ref q2.1)) fun (h3 : zH) =>
  some ((), h3)
theorem d_Curves_init_0 : decode prog_2_method_1_code 0 = .ok (.aload_n (0), 1) := by decide +kernel
theorem d_Curves_init_1 : decode prog_2_method_1_code 1 = .ok (.invokespecial (1), 3) := by decide +kernel
theorem d_Curves_init_4 : decode prog_2_method_1_code 4 = .ok (.aload_n (0), 1) := by decide +kernel
theorem d_Curves_init_5 : decode prog_2_method_1_code 5 = .ok (.iconst (0), 1) := by decide +kernel
theorem d_Curves_init_6 : decode prog_2_method_1_code 6 = .ok (.putfield (7), 3) := by decide +kernel
theorem d_Curves_init_9 : decode prog_2_method_1_code 9 = .ok (.aload_n (0), 1) := by decide +kernel
theorem d_Curves_init_10 : decode prog_2_method_1_code 10 = .ok (.iload_n (1), 1) := by decide +kernel
theorem d_Curves_init_11 : decode prog_2_method_1_code 11 = .ok (.iconst (1), 1) := by decide +kernel
theorem d_Curves_init_12 : decode prog_2_method_1_code 12 = .ok (.iadd, 1) := by decide +kernel
theorem d_Curves_init_13 : decode prog_2_method_1_code 13 = .ok (.newarray .int, 2) := by decide +kernel
theorem d_Curves_init_15 : decode prog_2_method_1_code 15 = .ok (.putfield (13), 3) := by decide +kernel
theorem d_Curves_init_18 : decode prog_2_method_1_code 18 = .ok (.return_, 1) := by decide +kernel
set_option maxHeartbeats 4000000 in
set_option maxRecDepth 100000 in
theorem k_Curves_init (N : Nat) {X : zX} (C : zB X prog_2_method_1_code 2 R_Curves rm_Curves_init) {h0 : zH} {p : Unit × zH} (E : zR X none rm_Curves_init h0 none p.2) (hin : (x_t X).name = "<init>") : ∀ (x0 : Nat) (x1 : Int32) (h : zH), f_Curves_init N x0 x1 h = some p → Zt X 2 0 0 0 [(0, .ref x0), (1, .int x1)] [] h := by
  intro x0 x1 h hf
  unfold f_Curves_init at hf
  refine z_aload_n C 0 d_Curves_init_0 rfl rfl ?_
  refine z_objInit C w_233 w_76 w_77 (Nat.le_of_ble_eq_true rfl) (Nat.le_of_ble_eq_true rfl) d_Curves_init_1 ?_
  refine z_aload_n C 0 d_Curves_init_4 rfl rfl ?_
  refine z_iconst C (v := (0 : Int32)) d_Curves_init_5 (by decide) ?_
  refine z_put C 6 1 ty_Curves rfl in_Curves tyok_Curves nm_Curves (by decide) w_236 rfl (Or.inl rfl) rfl rfl rfl d_Curves_init_6 hf (fun h1 hf => ?_)
  refine z_aload_n C 0 d_Curves_init_9 rfl rfl ?_
  refine z_iload_n C 1 d_Curves_init_10 rfl rfl ?_
  refine z_iconst C (v := (1 : Int32)) d_Curves_init_11 (by decide) ?_
  refine z_iadd C d_Curves_init_12 ?_
  refine z_newI C 25 w_142 (Nat.le_of_ble_eq_true rfl) (Nat.le_of_ble_eq_true rfl) (Nat.le_of_ble_eq_true rfl) d_Curves_init_13 hf (fun q2 hf => ?_)
  refine z_put C 6 0 ty_Curves rfl in_Curves tyok_Curves nm_Curves (by decide) w_234 rfl (Or.inr ⟨rfl, hin, rfl⟩) rfl rfl rfl d_Curves_init_15 hf (fun h3 hf => ?_)
  exact z_vret C E (Nat.le_of_ble_eq_true rfl) (Nat.le_of_ble_eq_true rfl) d_Curves_init_18 hf

theorem c_Curves_init (N : Nat) {l : Launch} {D : va_G} {T : List (ClassId × FieldType)} (hT : T.map (fun q => q.2) = ztl) {x0 : Nat} {x1 : Int32} {h : zH} {p : Unit × zH} (hf : f_Curves_init N x0 x1 h = some p) : zM l y_Curves_init prog_2_method_1_code 2 none rm_Curves_init D T [.ref x0, .int x1] h none p.2 :=
  z_enter (by decide) hT (Nat.le_of_ble_eq_true rfl) (fun X el eD eT hin C E => k_Curves_init N C E (hin rfl) x0 x1 h hf)
/-! ===== LevelTables$Lorry.<init>()V ===== -/
abbrev y_Lorry_init : MethodName := ⟨R_Lorry, "<init>", "()V"⟩
theorem pd_Lorry_init : y_Lorry_init.cls ≠ "java/lang/invoke/MethodHandle" ∧ y_Lorry_init.cls ≠ "java/lang/invoke/VarHandle" ∧ (parseMethodDescriptor y_Lorry_init.desc).map (fun d => d.parameters.length) = some 0 := ⟨by decide +kernel, by decide +kernel, by decide +kernel⟩
abbrev rm_Lorry_init : Room := { frames := 1, cells := 0, slots := 0, locals := 20 }
def f_Lorry_init (N : Nat) (x0 : Nat) (h : zH) : Option (Unit × zH) :=
  Option.bind (zp h x0 7 0 (.int (80 : Int32))) fun (h1 : zH) =>
  Option.bind (zp h1 x0 7 1 (.int (50 : Int32))) fun (h2 : zH) =>
  Option.bind (zp h2 x0 7 2 (.int (10 : Int32))) fun (h3 : zH) =>
  Option.bind (zp h3 x0 7 3 (.int (5 : Int32))) fun (h4 : zH) =>
  some ((), h4)
theorem d_Lorry_init_0 : decode prog_3_method_1_code 0 = .ok (.aload_n (0), 1) := by decide +kernel
theorem d_Lorry_init_1 : decode prog_3_method_1_code 1 = .ok (.invokespecial (3), 3) := by decide +kernel
theorem d_Lorry_init_4 : decode prog_3_method_1_code 4 = .ok (.aload_n (0), 1) := by decide +kernel
theorem d_Lorry_init_5 : decode prog_3_method_1_code 5 = .ok (.bipush (80), 2) := by decide +kernel
theorem d_Lorry_init_7 : decode prog_3_method_1_code 7 = .ok (.putfield (9), 3) := by decide +kernel
theorem d_Lorry_init_10 : decode prog_3_method_1_code 10 = .ok (.aload_n (0), 1) := by decide +kernel
theorem d_Lorry_init_11 : decode prog_3_method_1_code 11 = .ok (.bipush (50), 2) := by decide +kernel
theorem d_Lorry_init_13 : decode prog_3_method_1_code 13 = .ok (.putfield (15), 3) := by decide +kernel
theorem d_Lorry_init_16 : decode prog_3_method_1_code 16 = .ok (.aload_n (0), 1) := by decide +kernel
theorem d_Lorry_init_17 : decode prog_3_method_1_code 17 = .ok (.bipush (10), 2) := by decide +kernel
theorem d_Lorry_init_19 : decode prog_3_method_1_code 19 = .ok (.putfield (18), 3) := by decide +kernel
theorem d_Lorry_init_22 : decode prog_3_method_1_code 22 = .ok (.aload_n (0), 1) := by decide +kernel
theorem d_Lorry_init_23 : decode prog_3_method_1_code 23 = .ok (.iconst (5), 1) := by decide +kernel
theorem d_Lorry_init_24 : decode prog_3_method_1_code 24 = .ok (.putfield (21), 3) := by decide +kernel
theorem d_Lorry_init_27 : decode prog_3_method_1_code 27 = .ok (.return_, 1) := by decide +kernel
set_option maxHeartbeats 4000000 in
set_option maxRecDepth 100000 in
theorem k_Lorry_init (N : Nat) {X : zX} (C : zB X prog_3_method_1_code 1 R_Lorry rm_Lorry_init) {h0 : zH} {p : Unit × zH} (E : zR X none rm_Lorry_init h0 none p.2) (hin : (x_t X).name = "<init>") : ∀ (x0 : Nat) (h : zH), f_Lorry_init N x0 h = some p → Zt X 1 0 0 0 [(0, .ref x0)] [] h := by
  intro x0 h hf
  unfold f_Lorry_init at hf
  refine z_aload_n C 0 d_Lorry_init_0 rfl rfl ?_
  refine z_objInit C w_248 w_76 w_77 (Nat.le_of_ble_eq_true rfl) (Nat.le_of_ble_eq_true rfl) d_Lorry_init_1 ?_
  refine z_aload_n C 0 d_Lorry_init_4 rfl rfl ?_
  refine z_bipush C (v := (80 : Int32)) d_Lorry_init_5 (by decide) ?_
  refine z_put C 7 0 ty_Lorry rfl in_Lorry tyok_Lorry nm_Lorry (by decide) w_249 rfl (Or.inl rfl) rfl rfl rfl d_Lorry_init_7 hf (fun h1 hf => ?_)
  refine z_aload_n C 0 d_Lorry_init_10 rfl rfl ?_
  refine z_bipush C (v := (50 : Int32)) d_Lorry_init_11 (by decide) ?_
  refine z_put C 7 1 ty_Lorry rfl in_Lorry tyok_Lorry nm_Lorry (by decide) w_251 rfl (Or.inl rfl) rfl rfl rfl d_Lorry_init_13 hf (fun h2 hf => ?_)
  refine z_aload_n C 0 d_Lorry_init_16 rfl rfl ?_
  refine z_bipush C (v := (10 : Int32)) d_Lorry_init_17 (by decide) ?_
  refine z_put C 7 2 ty_Lorry rfl in_Lorry tyok_Lorry nm_Lorry (by decide) w_253 rfl (Or.inl rfl) rfl rfl rfl d_Lorry_init_19 hf (fun h3 hf => ?_)
  refine z_aload_n C 0 d_Lorry_init_22 rfl rfl ?_
  refine z_iconst C (v := (5 : Int32)) d_Lorry_init_23 (by decide) ?_
  refine z_put C 7 3 ty_Lorry rfl in_Lorry tyok_Lorry nm_Lorry (by decide) w_255 rfl (Or.inl rfl) rfl rfl rfl d_Lorry_init_24 hf (fun h4 hf => ?_)
  exact z_vret C E (Nat.le_of_ble_eq_true rfl) (Nat.le_of_ble_eq_true rfl) d_Lorry_init_27 hf

theorem c_Lorry_init (N : Nat) {l : Launch} {D : va_G} {T : List (ClassId × FieldType)} (hT : T.map (fun q => q.2) = ztl) {x0 : Nat} {h : zH} {p : Unit × zH} (hf : f_Lorry_init N x0 h = some p) : zM l y_Lorry_init prog_3_method_1_code 1 none rm_Lorry_init D T [.ref x0] h none p.2 :=
  z_enter (by decide) hT (Nat.le_of_ble_eq_true rfl) (fun X el eD eT hin C E => k_Lorry_init N C E (hin rfl) x0 h hf)
/-! ===== LevelTables$Site.isPlace(I)Z ===== -/
abbrev y_Site_isPlace : MethodName := ⟨R_Site, "isPlace", "(I)Z"⟩
theorem pd_Site_isPlace : y_Site_isPlace.cls ≠ "java/lang/invoke/MethodHandle" ∧ y_Site_isPlace.cls ≠ "java/lang/invoke/VarHandle" ∧ (parseMethodDescriptor y_Site_isPlace.desc).map (fun d => d.parameters.length) = some 1 := ⟨by decide +kernel, by decide +kernel, by decide +kernel⟩
abbrev rm_Site_isPlace : Room := { frames := 0, cells := 0, slots := 0, locals := 0 }
def f_Site_isPlace (N : Nat) (x0 : Nat) (x1 : Int32) (h : zH) : Option (Int32 × zH) :=
  (if x1 < 0 then
    zrb (0 : Int32) h
  else
    Option.bind (zgI h x0 2 0) fun (v1 : Int32) =>
    (if v1 < x1 then
      zrb (0 : Int32) h
    else
      zrb (1 : Int32) h))
theorem d_Site_isPlace_0 : decode prog_6_method_2_code 0 = .ok (.iload_n (1), 1) := by decide +kernel
theorem d_Site_isPlace_1 : decode prog_6_method_2_code 1 = .ok (.ifCond .lt (15), 3) := by decide +kernel
theorem d_Site_isPlace_4 : decode prog_6_method_2_code 4 = .ok (.iload_n (1), 1) := by decide +kernel
theorem d_Site_isPlace_5 : decode prog_6_method_2_code 5 = .ok (.aload_n (0), 1) := by decide +kernel
theorem d_Site_isPlace_6 : decode prog_6_method_2_code 6 = .ok (.getfield (21), 3) := by decide +kernel
theorem d_Site_isPlace_9 : decode prog_6_method_2_code 9 = .ok (.if_icmp .gt (7), 3) := by decide +kernel
theorem d_Site_isPlace_12 : decode prog_6_method_2_code 12 = .ok (.iconst (1), 1) := by decide +kernel
theorem d_Site_isPlace_13 : decode prog_6_method_2_code 13 = .ok (.goto (4), 3) := by decide +kernel
theorem d_Site_isPlace_16 : decode prog_6_method_2_code 16 = .ok (.iconst (0), 1) := by decide +kernel
theorem d_Site_isPlace_17 : decode prog_6_method_2_code 17 = .ok (.ireturn, 1) := by decide +kernel
set_option maxHeartbeats 4000000 in
set_option maxRecDepth 100000 in
theorem k_Site_isPlace (N : Nat) {X : zX} (C : zB X prog_6_method_2_code 2 R_Site rm_Site_isPlace) {h0 : zH} {p : Int32 × zH} (E : zR X (some .boolean) rm_Site_isPlace h0 (some (.int p.1)) p.2) : ∀ (x0 : Nat) (x1 : Int32) (h : zH), f_Site_isPlace N x0 x1 h = some p → Zt X 2 0 0 0 [(0, .ref x0), (1, .int x1)] [] h := by
  intro x0 x1 h hf
  unfold f_Site_isPlace at hf
  refine z_iload_n C 1 d_Site_isPlace_0 rfl rfl ?_
  refine z_if_lt (tgt := 16) C d_Site_isPlace_1 (by decide) hf (fun hf => ?_) (fun hf => ?_)
  · refine z_iconst C (v := (0 : Int32)) d_Site_isPlace_16 (by decide) ?_
    exact z_zret C E (Nat.le_of_ble_eq_true rfl) (Nat.le_of_ble_eq_true rfl) d_Site_isPlace_17 hf
  · refine z_iload_n C 1 d_Site_isPlace_4 rfl rfl ?_
    refine z_aload_n C 0 d_Site_isPlace_5 rfl rfl ?_
    refine z_getI C 2 0 rfl in_Site (by decide) w_93 rfl d_Site_isPlace_6 hf (fun v1 hf => ?_)
    refine z_ic_gt (tgt := 16) C d_Site_isPlace_9 (by decide) hf (fun hf => ?_) (fun hf => ?_)
    · refine z_iconst C (v := (0 : Int32)) d_Site_isPlace_16 (by decide) ?_
      exact z_zret C E (Nat.le_of_ble_eq_true rfl) (Nat.le_of_ble_eq_true rfl) d_Site_isPlace_17 hf
    · refine z_iconst C (v := (1 : Int32)) d_Site_isPlace_12 (by decide) ?_
      refine z_goto (tgt := 17) C d_Site_isPlace_13 (by decide) ?_
      exact z_zret C E (Nat.le_of_ble_eq_true rfl) (Nat.le_of_ble_eq_true rfl) d_Site_isPlace_17 hf

theorem c_Site_isPlace (N : Nat) {l : Launch} {D : va_G} {T : List (ClassId × FieldType)} (hT : T.map (fun q => q.2) = ztl) {x0 : Nat} {x1 : Int32} {h : zH} {p : Int32 × zH} (hf : f_Site_isPlace N x0 x1 h = some p) : zM l y_Site_isPlace prog_6_method_2_code 2 (some .boolean) rm_Site_isPlace D T [.ref x0, .int x1] h (some (.int p.1)) p.2 :=
  z_enter (by decide) hT (Nat.le_of_ble_eq_true rfl) (fun X el eD eT hin C E => k_Site_isPlace N C E x0 x1 h hf)
/-! ===== LevelTables$Site.isLevel(I)Z ===== -/
abbrev y_Site_isLevel : MethodName := ⟨R_Site, "isLevel", "(I)Z"⟩
theorem pd_Site_isLevel : y_Site_isLevel.cls ≠ "java/lang/invoke/MethodHandle" ∧ y_Site_isLevel.cls ≠ "java/lang/invoke/VarHandle" ∧ (parseMethodDescriptor y_Site_isLevel.desc).map (fun d => d.parameters.length) = some 1 := ⟨by decide +kernel, by decide +kernel, by decide +kernel⟩
abbrev rm_Site_isLevel : Room := { frames := 0, cells := 0, slots := 0, locals := 0 }
def f_Site_isLevel (N : Nat) (x0 : Nat) (x1 : Int32) (h : zH) : Option (Int32 × zH) :=
  (if x1 < 0 then
    zrb (0 : Int32) h
  else
    Option.bind (zgI h x0 2 1) fun (v1 : Int32) =>
    (if v1 < x1 then
      zrb (0 : Int32) h
    else
      zrb (1 : Int32) h))
theorem d_Site_isLevel_0 : decode prog_6_method_3_code 0 = .ok (.iload_n (1), 1) := by decide +kernel
theorem d_Site_isLevel_1 : decode prog_6_method_3_code 1 = .ok (.ifCond .lt (15), 3) := by decide +kernel
theorem d_Site_isLevel_4 : decode prog_6_method_3_code 4 = .ok (.iload_n (1), 1) := by decide +kernel
theorem d_Site_isLevel_5 : decode prog_6_method_3_code 5 = .ok (.aload_n (0), 1) := by decide +kernel
theorem d_Site_isLevel_6 : decode prog_6_method_3_code 6 = .ok (.getfield (24), 3) := by decide +kernel
theorem d_Site_isLevel_9 : decode prog_6_method_3_code 9 = .ok (.if_icmp .gt (7), 3) := by decide +kernel
theorem d_Site_isLevel_12 : decode prog_6_method_3_code 12 = .ok (.iconst (1), 1) := by decide +kernel
theorem d_Site_isLevel_13 : decode prog_6_method_3_code 13 = .ok (.goto (4), 3) := by decide +kernel
theorem d_Site_isLevel_16 : decode prog_6_method_3_code 16 = .ok (.iconst (0), 1) := by decide +kernel
theorem d_Site_isLevel_17 : decode prog_6_method_3_code 17 = .ok (.ireturn, 1) := by decide +kernel
set_option maxHeartbeats 4000000 in
set_option maxRecDepth 100000 in
theorem k_Site_isLevel (N : Nat) {X : zX} (C : zB X prog_6_method_3_code 2 R_Site rm_Site_isLevel) {h0 : zH} {p : Int32 × zH} (E : zR X (some .boolean) rm_Site_isLevel h0 (some (.int p.1)) p.2) : ∀ (x0 : Nat) (x1 : Int32) (h : zH), f_Site_isLevel N x0 x1 h = some p → Zt X 2 0 0 0 [(0, .ref x0), (1, .int x1)] [] h := by
  intro x0 x1 h hf
  unfold f_Site_isLevel at hf
  refine z_iload_n C 1 d_Site_isLevel_0 rfl rfl ?_
  refine z_if_lt (tgt := 16) C d_Site_isLevel_1 (by decide) hf (fun hf => ?_) (fun hf => ?_)
  · refine z_iconst C (v := (0 : Int32)) d_Site_isLevel_16 (by decide) ?_
    exact z_zret C E (Nat.le_of_ble_eq_true rfl) (Nat.le_of_ble_eq_true rfl) d_Site_isLevel_17 hf
  · refine z_iload_n C 1 d_Site_isLevel_4 rfl rfl ?_
    refine z_aload_n C 0 d_Site_isLevel_5 rfl rfl ?_
    refine z_getI C 2 1 rfl in_Site (by decide) w_99 rfl d_Site_isLevel_6 hf (fun v1 hf => ?_)
    refine z_ic_gt (tgt := 16) C d_Site_isLevel_9 (by decide) hf (fun hf => ?_) (fun hf => ?_)
    · refine z_iconst C (v := (0 : Int32)) d_Site_isLevel_16 (by decide) ?_
      exact z_zret C E (Nat.le_of_ble_eq_true rfl) (Nat.le_of_ble_eq_true rfl) d_Site_isLevel_17 hf
    · refine z_iconst C (v := (1 : Int32)) d_Site_isLevel_12 (by decide) ?_
      refine z_goto (tgt := 17) C d_Site_isLevel_13 (by decide) ?_
      exact z_zret C E (Nat.le_of_ble_eq_true rfl) (Nat.le_of_ble_eq_true rfl) d_Site_isLevel_17 hf

theorem c_Site_isLevel (N : Nat) {l : Launch} {D : va_G} {T : List (ClassId × FieldType)} (hT : T.map (fun q => q.2) = ztl) {x0 : Nat} {x1 : Int32} {h : zH} {p : Int32 × zH} (hf : f_Site_isLevel N x0 x1 h = some p) : zM l y_Site_isLevel prog_6_method_3_code 2 (some .boolean) rm_Site_isLevel D T [.ref x0, .int x1] h (some (.int p.1)) p.2 :=
  z_enter (by decide) hT (Nat.le_of_ble_eq_true rfl) (fun X el eD eT hin C E => k_Site_isLevel N C E x0 x1 h hf)
/-! ===== LevelTables$Curves.removeAll()V ===== -/
abbrev y_Curves_removeAll : MethodName := ⟨R_Curves, "removeAll", "()V"⟩
theorem pd_Curves_removeAll : y_Curves_removeAll.cls ≠ "java/lang/invoke/MethodHandle" ∧ y_Curves_removeAll.cls ≠ "java/lang/invoke/VarHandle" ∧ (parseMethodDescriptor y_Curves_removeAll.desc).map (fun d => d.parameters.length) = some 0 := ⟨by decide +kernel, by decide +kernel, by decide +kernel⟩
abbrev rm_Curves_removeAll : Room := { frames := 1, cells := 0, slots := 0, locals := 23 }
def f_Curves_removeAll (N : Nat) (x0 : Nat) (h : zH) : Option (Unit × zH) :=
  Option.bind (zgR h x0 6 0) fun (v1 : Nat) =>
  Option.bind (f_Arrays_fill_AIIV N v1 (0 : Int32) h) fun (p2 : Unit × zH) =>
  Option.bind (zp p2.2 x0 6 1 (.int (0 : Int32))) fun (h3 : zH) =>
  some ((), h3)
theorem d_Curves_removeAll_0 : decode prog_2_method_3_code 0 = .ok (.aload_n (0), 1) := by decide +kernel
theorem d_Curves_removeAll_1 : decode prog_2_method_3_code 1 = .ok (.getfield (13), 3) := by decide +kernel
theorem d_Curves_removeAll_4 : decode prog_2_method_3_code 4 = .ok (.iconst (0), 1) := by decide +kernel
theorem d_Curves_removeAll_5 : decode prog_2_method_3_code 5 = .ok (.invokestatic (17), 3) := by decide +kernel
theorem d_Curves_removeAll_8 : decode prog_2_method_3_code 8 = .ok (.aload_n (0), 1) := by decide +kernel
theorem d_Curves_removeAll_9 : decode prog_2_method_3_code 9 = .ok (.iconst (0), 1) := by decide +kernel
theorem d_Curves_removeAll_10 : decode prog_2_method_3_code 10 = .ok (.putfield (7), 3) := by decide +kernel
theorem d_Curves_removeAll_13 : decode prog_2_method_3_code 13 = .ok (.return_, 1) := by decide +kernel
set_option maxHeartbeats 4000000 in
set_option maxRecDepth 100000 in
theorem k_Curves_removeAll (N : Nat) {X : zX} (C : zB X prog_2_method_3_code 1 R_Curves rm_Curves_removeAll) {h0 : zH} {p : Unit × zH} (E : zR X none rm_Curves_removeAll h0 none p.2) : ∀ (x0 : Nat) (h : zH), f_Curves_removeAll N x0 h = some p → Zt X 1 0 0 0 [(0, .ref x0)] [] h := by
  intro x0 h hf
  unfold f_Curves_removeAll at hf
  refine z_aload_n C 0 d_Curves_removeAll_0 rfl rfl ?_
  refine z_getR C 6 0 rfl in_Curves (by decide) w_234 rfl d_Curves_removeAll_1 hf (fun v1 hf => ?_)
  refine z_iconst C (v := (0 : Int32)) d_Curves_removeAll_4 (by decide) ?_
  obtain ⟨p2, hc, hf⟩ := Option.bind_eq_some_iff.mp hf
  refine z_callS C (c_Arrays_fill_AIIV N C.2.2.1 hc) w_92 w_60 w_317 w_91 pd_Arrays_fill_AIIV rfl ⟨(Nat.le_of_ble_eq_true rfl), (Nat.le_of_ble_eq_true rfl)⟩ ⟨(Nat.le_of_ble_eq_true rfl), (Nat.le_of_ble_eq_true rfl)⟩ rfl (Nat.le_of_ble_eq_true rfl) d_Curves_removeAll_5 (k' := 0) (n' := 0) (stk' := []) rfl rfl rfl ?_
  refine z_aload_n C 0 d_Curves_removeAll_8 rfl rfl ?_
  refine z_iconst C (v := (0 : Int32)) d_Curves_removeAll_9 (by decide) ?_
  refine z_put C 6 1 ty_Curves rfl in_Curves tyok_Curves nm_Curves (by decide) w_236 rfl (Or.inl rfl) rfl rfl rfl d_Curves_removeAll_10 hf (fun h3 hf => ?_)
  exact z_vret C E (Nat.le_of_ble_eq_true rfl) (Nat.le_of_ble_eq_true rfl) d_Curves_removeAll_13 hf

theorem c_Curves_removeAll (N : Nat) {l : Launch} {D : va_G} {T : List (ClassId × FieldType)} (hT : T.map (fun q => q.2) = ztl) {x0 : Nat} {h : zH} {p : Unit × zH} (hf : f_Curves_removeAll N x0 h = some p) : zM l y_Curves_removeAll prog_2_method_3_code 1 none rm_Curves_removeAll D T [.ref x0] h none p.2 :=
  z_enter (by decide) hT (Nat.le_of_ble_eq_true rfl) (fun X el eD eT hin C E => k_Curves_removeAll N C E x0 h hf)
/-! ===== LevelTables.within(II)Z ===== -/
abbrev y_LT_within : MethodName := ⟨R_LT, "within", "(II)Z"⟩
theorem pd_LT_within : y_LT_within.cls ≠ "java/lang/invoke/MethodHandle" ∧ y_LT_within.cls ≠ "java/lang/invoke/VarHandle" ∧ (parseMethodDescriptor y_LT_within.desc).map (fun d => d.parameters.length) = some 2 := ⟨by decide +kernel, by decide +kernel, by decide +kernel⟩
abbrev rm_LT_within : Room := { frames := 0, cells := 0, slots := 0, locals := 0 }
def f_LT_within (N : Nat) (x0 : Int32) (x1 : Int32) (h : zH) : Option (Int32 × zH) :=
  (if x0 < 0 then
    zrb (0 : Int32) h
  else
    (if x1 < x0 then
      zrb (0 : Int32) h
    else
      zrb (1 : Int32) h))
theorem d_LT_within_0 : decode prog_1_method_21_code 0 = .ok (.iload_n (0), 1) := by decide +kernel
theorem d_LT_within_1 : decode prog_1_method_21_code 1 = .ok (.ifCond .lt (12), 3) := by decide +kernel
theorem d_LT_within_4 : decode prog_1_method_21_code 4 = .ok (.iload_n (0), 1) := by decide +kernel
theorem d_LT_within_5 : decode prog_1_method_21_code 5 = .ok (.iload_n (1), 1) := by decide +kernel
theorem d_LT_within_6 : decode prog_1_method_21_code 6 = .ok (.if_icmp .gt (7), 3) := by decide +kernel
theorem d_LT_within_9 : decode prog_1_method_21_code 9 = .ok (.iconst (1), 1) := by decide +kernel
theorem d_LT_within_10 : decode prog_1_method_21_code 10 = .ok (.goto (4), 3) := by decide +kernel
theorem d_LT_within_13 : decode prog_1_method_21_code 13 = .ok (.iconst (0), 1) := by decide +kernel
theorem d_LT_within_14 : decode prog_1_method_21_code 14 = .ok (.ireturn, 1) := by decide +kernel
set_option maxHeartbeats 4000000 in
set_option maxRecDepth 100000 in
theorem k_LT_within (N : Nat) {X : zX} (C : zB X prog_1_method_21_code 2 R_LT rm_LT_within) {h0 : zH} {p : Int32 × zH} (E : zR X (some .boolean) rm_LT_within h0 (some (.int p.1)) p.2) : ∀ (x0 : Int32) (x1 : Int32) (h : zH), f_LT_within N x0 x1 h = some p → Zt X 2 0 0 0 [(0, .int x0), (1, .int x1)] [] h := by
  intro x0 x1 h hf
  unfold f_LT_within at hf
  refine z_iload_n C 0 d_LT_within_0 rfl rfl ?_
  refine z_if_lt (tgt := 13) C d_LT_within_1 (by decide) hf (fun hf => ?_) (fun hf => ?_)
  · refine z_iconst C (v := (0 : Int32)) d_LT_within_13 (by decide) ?_
    exact z_zret C E (Nat.le_of_ble_eq_true rfl) (Nat.le_of_ble_eq_true rfl) d_LT_within_14 hf
  · refine z_iload_n C 0 d_LT_within_4 rfl rfl ?_
    refine z_iload_n C 1 d_LT_within_5 rfl rfl ?_
    refine z_ic_gt (tgt := 13) C d_LT_within_6 (by decide) hf (fun hf => ?_) (fun hf => ?_)
    · refine z_iconst C (v := (0 : Int32)) d_LT_within_13 (by decide) ?_
      exact z_zret C E (Nat.le_of_ble_eq_true rfl) (Nat.le_of_ble_eq_true rfl) d_LT_within_14 hf
    · refine z_iconst C (v := (1 : Int32)) d_LT_within_9 (by decide) ?_
      refine z_goto (tgt := 14) C d_LT_within_10 (by decide) ?_
      exact z_zret C E (Nat.le_of_ble_eq_true rfl) (Nat.le_of_ble_eq_true rfl) d_LT_within_14 hf

theorem c_LT_within (N : Nat) {l : Launch} {D : va_G} {T : List (ClassId × FieldType)} (hT : T.map (fun q => q.2) = ztl) {x0 : Int32} {x1 : Int32} {h : zH} {p : Int32 × zH} (hf : f_LT_within N x0 x1 h = some p) : zM l y_LT_within prog_1_method_21_code 2 (some .boolean) rm_LT_within D T [.int x0, .int x1] h (some (.int p.1)) p.2 :=
  z_enter (by decide) hT (Nat.le_of_ble_eq_true rfl) (fun X el eD eT hin C E => k_LT_within N C E x0 x1 h hf)
/-! ===== LevelTables$Spans.sharesStep(II)Z ===== -/
abbrev y_Spans_sharesStep : MethodName := ⟨R_Spans, "sharesStep", "(II)Z"⟩
theorem pd_Spans_sharesStep : y_Spans_sharesStep.cls ≠ "java/lang/invoke/MethodHandle" ∧ y_Spans_sharesStep.cls ≠ "java/lang/invoke/VarHandle" ∧ (parseMethodDescriptor y_Spans_sharesStep.desc).map (fun d => d.parameters.length) = some 2 := ⟨by decide +kernel, by decide +kernel, by decide +kernel⟩
abbrev rm_Spans_sharesStep : Room := { frames := 0, cells := 0, slots := 0, locals := 0 }
def f_Spans_sharesStep_32 (N : Nat) (rc2 : Nat → Int32 → Int32 → Int32 → zH → Option (Int32 × zH)) (x0 : Nat) (x1 : Int32) (x2 : Int32) (x3 : Int32) (h : zH) : Option (Int32 × zH) :=
  rc2 x0 x1 x2 (x3 + (1 : Int32)) h
def b_Spans_sharesStep_2 (N : Nat) (rc2 : Nat → Int32 → Int32 → Int32 → zH → Option (Int32 × zH)) (x0 : Nat) (x1 : Int32) (x2 : Int32) (x3 : Int32) (h : zH) : Option (Int32 × zH) :=
  Option.bind (zgI h x0 3 0) fun (v1 : Int32) =>
  (if v1 ≤ x3 then
    zrb (0 : Int32) h
  else
    Option.bind (zgR h x0 3 2) fun (v2 : Nat) =>
    Option.bind (zaI h 0 v2 x3) fun (v3 : Int32) =>
    (if v3 ≤ x1 then
      f_Spans_sharesStep_32 N rc2 x0 x1 x2 x3 h
    else
      Option.bind (zgR h x0 3 1) fun (v4 : Nat) =>
      Option.bind (zaI h 0 v4 x3) fun (v5 : Int32) =>
      (if x2 ≤ v5 then
        f_Spans_sharesStep_32 N rc2 x0 x1 x2 x3 h
      else
        zrb (1 : Int32) h)))
def f_Spans_sharesStep_2 (N : Nat) : Nat → Nat → Int32 → Int32 → Int32 → zH → Option (Int32 × zH)
  | 0 => fun _ _ _ _ _ => none
  | n + 1 => fun x0 x1 x2 x3 h => b_Spans_sharesStep_2 N (f_Spans_sharesStep_2 N n) x0 x1 x2 x3 h
def f_Spans_sharesStep (N : Nat) (x0 : Nat) (x1 : Int32) (x2 : Int32) (h : zH) : Option (Int32 × zH) :=
  f_Spans_sharesStep_2 N N x0 x1 x2 (0 : Int32) h
theorem d_Spans_sharesStep_0 : decode prog_7_method_2_code 0 = .ok (.iconst (0), 1) := by decide +kernel
theorem d_Spans_sharesStep_1 : decode prog_7_method_2_code 1 = .ok (.istore_n (3), 1) := by decide +kernel
theorem d_Spans_sharesStep_2 : decode prog_7_method_2_code 2 = .ok (.iload_n (3), 1) := by decide +kernel
theorem d_Spans_sharesStep_3 : decode prog_7_method_2_code 3 = .ok (.aload_n (0), 1) := by decide +kernel
theorem d_Spans_sharesStep_4 : decode prog_7_method_2_code 4 = .ok (.getfield (9), 3) := by decide +kernel
theorem d_Spans_sharesStep_7 : decode prog_7_method_2_code 7 = .ok (.if_icmp .ge (31), 3) := by decide +kernel
theorem d_Spans_sharesStep_10 : decode prog_7_method_2_code 10 = .ok (.iload_n (1), 1) := by decide +kernel
theorem d_Spans_sharesStep_11 : decode prog_7_method_2_code 11 = .ok (.aload_n (0), 1) := by decide +kernel
theorem d_Spans_sharesStep_12 : decode prog_7_method_2_code 12 = .ok (.getfield (19), 3) := by decide +kernel
theorem d_Spans_sharesStep_15 : decode prog_7_method_2_code 15 = .ok (.iload_n (3), 1) := by decide +kernel
theorem d_Spans_sharesStep_16 : decode prog_7_method_2_code 16 = .ok (.iaload, 1) := by decide +kernel
theorem d_Spans_sharesStep_17 : decode prog_7_method_2_code 17 = .ok (.if_icmp .ge (15), 3) := by decide +kernel
theorem d_Spans_sharesStep_20 : decode prog_7_method_2_code 20 = .ok (.aload_n (0), 1) := by decide +kernel
theorem d_Spans_sharesStep_21 : decode prog_7_method_2_code 21 = .ok (.getfield (15), 3) := by decide +kernel
theorem d_Spans_sharesStep_24 : decode prog_7_method_2_code 24 = .ok (.iload_n (3), 1) := by decide +kernel
theorem d_Spans_sharesStep_25 : decode prog_7_method_2_code 25 = .ok (.iaload, 1) := by decide +kernel
theorem d_Spans_sharesStep_26 : decode prog_7_method_2_code 26 = .ok (.iload_n (2), 1) := by decide +kernel
theorem d_Spans_sharesStep_27 : decode prog_7_method_2_code 27 = .ok (.if_icmp .ge (5), 3) := by decide +kernel
theorem d_Spans_sharesStep_30 : decode prog_7_method_2_code 30 = .ok (.iconst (1), 1) := by decide +kernel
theorem d_Spans_sharesStep_31 : decode prog_7_method_2_code 31 = .ok (.ireturn, 1) := by decide +kernel
theorem d_Spans_sharesStep_32 : decode prog_7_method_2_code 32 = .ok (.iinc (3) (1), 3) := by decide +kernel
theorem d_Spans_sharesStep_35 : decode prog_7_method_2_code 35 = .ok (.goto (-33), 3) := by decide +kernel
theorem d_Spans_sharesStep_38 : decode prog_7_method_2_code 38 = .ok (.iconst (0), 1) := by decide +kernel
theorem d_Spans_sharesStep_39 : decode prog_7_method_2_code 39 = .ok (.ireturn, 1) := by decide +kernel
set_option maxHeartbeats 4000000 in
set_option maxRecDepth 100000 in
theorem k_Spans_sharesStep_32 (N : Nat) {X : zX} (C : zB X prog_7_method_2_code 4 R_Spans rm_Spans_sharesStep) {h0 : zH} {p : Int32 × zH} (E : zR X (some .boolean) rm_Spans_sharesStep h0 (some (.int p.1)) p.2) {rc2 : Nat → Int32 → Int32 → Int32 → zH → Option (Int32 × zH)} (H2 : ∀ (x0 : Nat) (x1 : Int32) (x2 : Int32) (x3 : Int32) (h : zH), rc2 x0 x1 x2 x3 h = some p → Zt X 4 0 0 2 [(0, .ref x0), (1, .int x1), (2, .int x2), (3, .int x3)] [] h) : ∀ (x0 : Nat) (x1 : Int32) (x2 : Int32) (x3 : Int32) (h : zH), f_Spans_sharesStep_32 N rc2 x0 x1 x2 x3 h = some p → Zt X 4 0 0 32 [(0, .ref x0), (1, .int x1), (2, .int x2), (3, .int x3)] [] h := by
  intro x0 x1 x2 x3 h hf
  unfold f_Spans_sharesStep_32 at hf
  refine z_iinc C (v := (x3 + (1 : Int32))) (lv' := [(3, .int (x3 + (1 : Int32))), (0, .ref x0), (1, .int x1), (2, .int x2)]) 3 d_Spans_sharesStep_32 rfl (by rfl) (by decide) rfl ?_
  refine z_goto (tgt := 2) C d_Spans_sharesStep_35 (by decide) ?_
  refine z_sub [1, 2, 3, 0] rfl ?_
  exact H2 _ _ _ _ _ hf

set_option maxHeartbeats 4000000 in
set_option maxRecDepth 100000 in
theorem k_Spans_sharesStep_2 (N : Nat) {X : zX} (C : zB X prog_7_method_2_code 4 R_Spans rm_Spans_sharesStep) {h0 : zH} {p : Int32 × zH} (E : zR X (some .boolean) rm_Spans_sharesStep h0 (some (.int p.1)) p.2) : ∀ n : Nat, ∀ (x0 : Nat) (x1 : Int32) (x2 : Int32) (x3 : Int32) (h : zH), f_Spans_sharesStep_2 N n x0 x1 x2 x3 h = some p → Zt X 4 0 0 2 [(0, .ref x0), (1, .int x1), (2, .int x2), (3, .int x3)] [] h := by
  intro n
  induction n with
  | zero => intro x0 x1 x2 x3 h hf; cases hf
  | succ n ih =>
  intro x0 x1 x2 x3 h hf
  have H2 := ih
  replace hf : b_Spans_sharesStep_2 N (f_Spans_sharesStep_2 N n) x0 x1 x2 x3 h = some p := hf
  unfold b_Spans_sharesStep_2 at hf
  refine z_iload_n C 3 d_Spans_sharesStep_2 rfl rfl ?_
  refine z_aload_n C 0 d_Spans_sharesStep_3 rfl rfl ?_
  refine z_getI C 3 0 rfl in_Spans (by decide) w_149 rfl d_Spans_sharesStep_4 hf (fun v1 hf => ?_)
  refine z_ic_ge (tgt := 38) C d_Spans_sharesStep_7 (by decide) hf (fun hf => ?_) (fun hf => ?_)
  · refine z_iconst C (v := (0 : Int32)) d_Spans_sharesStep_38 (by decide) ?_
    exact z_zret C E (Nat.le_of_ble_eq_true rfl) (Nat.le_of_ble_eq_true rfl) d_Spans_sharesStep_39 hf
  · refine z_iload_n C 1 d_Spans_sharesStep_10 rfl rfl ?_
    refine z_aload_n C 0 d_Spans_sharesStep_11 rfl rfl ?_
    refine z_getR C 3 2 rfl in_Spans (by decide) w_155 rfl d_Spans_sharesStep_12 hf (fun v2 hf => ?_)
    refine z_iload_n C 3 d_Spans_sharesStep_15 rfl rfl ?_
    refine z_iald C d_Spans_sharesStep_16 hf (fun v3 hf => ?_)
    refine z_ic_ge (tgt := 32) C d_Spans_sharesStep_17 (by decide) hf (fun hf => ?_) (fun hf => ?_)
    · refine z_sub [0, 1, 2, 3] rfl ?_
      exact k_Spans_sharesStep_32 N C E H2 _ _ _ _ _ hf
    · refine z_aload_n C 0 d_Spans_sharesStep_20 rfl rfl ?_
      refine z_getR C 3 1 rfl in_Spans (by decide) w_152 rfl d_Spans_sharesStep_21 hf (fun v4 hf => ?_)
      refine z_iload_n C 3 d_Spans_sharesStep_24 rfl rfl ?_
      refine z_iald C d_Spans_sharesStep_25 hf (fun v5 hf => ?_)
      refine z_iload_n C 2 d_Spans_sharesStep_26 rfl rfl ?_
      refine z_ic_ge (tgt := 32) C d_Spans_sharesStep_27 (by decide) hf (fun hf => ?_) (fun hf => ?_)
      · refine z_sub [0, 1, 2, 3] rfl ?_
        exact k_Spans_sharesStep_32 N C E H2 _ _ _ _ _ hf
      · refine z_iconst C (v := (1 : Int32)) d_Spans_sharesStep_30 (by decide) ?_
        exact z_zret C E (Nat.le_of_ble_eq_true rfl) (Nat.le_of_ble_eq_true rfl) d_Spans_sharesStep_31 hf

set_option maxHeartbeats 4000000 in
set_option maxRecDepth 100000 in
theorem k_Spans_sharesStep (N : Nat) {X : zX} (C : zB X prog_7_method_2_code 4 R_Spans rm_Spans_sharesStep) {h0 : zH} {p : Int32 × zH} (E : zR X (some .boolean) rm_Spans_sharesStep h0 (some (.int p.1)) p.2) : ∀ (x0 : Nat) (x1 : Int32) (x2 : Int32) (h : zH), f_Spans_sharesStep N x0 x1 x2 h = some p → Zt X 4 0 0 0 [(0, .ref x0), (1, .int x1), (2, .int x2)] [] h := by
  intro x0 x1 x2 h hf
  unfold f_Spans_sharesStep at hf
  refine z_iconst C (v := (0 : Int32)) d_Spans_sharesStep_0 (by decide) ?_
  refine z_istore_n C (lv' := [(3, .int (0 : Int32)), (0, .ref x0), (1, .int x1), (2, .int x2)]) d_Spans_sharesStep_1 rfl (by decide) rfl ?_
  refine z_sub [1, 2, 3, 0] rfl ?_
  exact k_Spans_sharesStep_2 N C E N _ _ _ _ _ hf

theorem c_Spans_sharesStep (N : Nat) {l : Launch} {D : va_G} {T : List (ClassId × FieldType)} (hT : T.map (fun q => q.2) = ztl) {x0 : Nat} {x1 : Int32} {x2 : Int32} {h : zH} {p : Int32 × zH} (hf : f_Spans_sharesStep N x0 x1 x2 h = some p) : zM l y_Spans_sharesStep prog_7_method_2_code 4 (some .boolean) rm_Spans_sharesStep D T [.ref x0, .int x1, .int x2] h (some (.int p.1)) p.2 :=
  z_enter (by decide) hT (Nat.le_of_ble_eq_true rfl) (fun X el eD eT hin C E => k_Spans_sharesStep N C E x0 x1 x2 h hf)
/-! ===== LevelTables$Spans.append(IIIJ)I ===== -/
abbrev y_Spans_append : MethodName := ⟨R_Spans, "append", "(IIIJ)I"⟩
theorem pd_Spans_append : y_Spans_append.cls ≠ "java/lang/invoke/MethodHandle" ∧ y_Spans_append.cls ≠ "java/lang/invoke/VarHandle" ∧ (parseMethodDescriptor y_Spans_append.desc).map (fun d => d.parameters.length) = some 4 := ⟨by decide +kernel, by decide +kernel, by decide +kernel⟩
abbrev rm_Spans_append : Room := { frames := 0, cells := 0, slots := 0, locals := 0 }
def f_Spans_append (N : Nat) (x0 : Nat) (x1 : Int32) (x2 : Int32) (x3 : Int32) (x4 : Int64) (h : zH) : Option (Int32 × zH) :=
  Option.bind (zgR h x0 3 1) fun (v1 : Nat) =>
  Option.bind (zgI h x0 3 0) fun (v2 : Int32) =>
  Option.bind (zsI h 0 v1 v2 x1) fun (h3 : zH) =>
  Option.bind (zgR h3 x0 3 2) fun (v4 : Nat) =>
  Option.bind (zgI h3 x0 3 0) fun (v5 : Int32) =>
  Option.bind (zsI h3 0 v4 v5 x2) fun (h6 : zH) =>
  Option.bind (zgR h6 x0 3 3) fun (v7 : Nat) =>
  Option.bind (zgI h6 x0 3 0) fun (v8 : Int32) =>
  Option.bind (zsI h6 0 v7 v8 x3) fun (h9 : zH) =>
  Option.bind (zgR h9 x0 3 4) fun (v10 : Nat) =>
  Option.bind (zgI h9 x0 3 0) fun (v11 : Int32) =>
  Option.bind (zsJ h9 1 v10 v11 x4) fun (h12 : zH) =>
  Option.bind (zgI h12 x0 3 0) fun (v13 : Int32) =>
  Option.bind (zp h12 x0 3 0 (.int (v13 + (1 : Int32)))) fun (h14 : zH) =>
  Option.bind (zgI h14 x0 3 0) fun (v15 : Int32) =>
  some ((v15 - (1 : Int32)), h14)
theorem d_Spans_append_0 : decode prog_7_method_3_code 0 = .ok (.aload_n (0), 1) := by decide +kernel
theorem d_Spans_append_1 : decode prog_7_method_3_code 1 = .ok (.getfield (15), 3) := by decide +kernel
theorem d_Spans_append_4 : decode prog_7_method_3_code 4 = .ok (.aload_n (0), 1) := by decide +kernel
theorem d_Spans_append_5 : decode prog_7_method_3_code 5 = .ok (.getfield (9), 3) := by decide +kernel
theorem d_Spans_append_8 : decode prog_7_method_3_code 8 = .ok (.iload_n (1), 1) := by decide +kernel
theorem d_Spans_append_9 : decode prog_7_method_3_code 9 = .ok (.iastore, 1) := by decide +kernel
theorem d_Spans_append_10 : decode prog_7_method_3_code 10 = .ok (.aload_n (0), 1) := by decide +kernel
theorem d_Spans_append_11 : decode prog_7_method_3_code 11 = .ok (.getfield (19), 3) := by decide +kernel
theorem d_Spans_append_14 : decode prog_7_method_3_code 14 = .ok (.aload_n (0), 1) := by decide +kernel
theorem d_Spans_append_15 : decode prog_7_method_3_code 15 = .ok (.getfield (9), 3) := by decide +kernel
theorem d_Spans_append_18 : decode prog_7_method_3_code 18 = .ok (.iload_n (2), 1) := by decide +kernel
theorem d_Spans_append_19 : decode prog_7_method_3_code 19 = .ok (.iastore, 1) := by decide +kernel
theorem d_Spans_append_20 : decode prog_7_method_3_code 20 = .ok (.aload_n (0), 1) := by decide +kernel
theorem d_Spans_append_21 : decode prog_7_method_3_code 21 = .ok (.getfield (22), 3) := by decide +kernel
theorem d_Spans_append_24 : decode prog_7_method_3_code 24 = .ok (.aload_n (0), 1) := by decide +kernel
theorem d_Spans_append_25 : decode prog_7_method_3_code 25 = .ok (.getfield (9), 3) := by decide +kernel
theorem d_Spans_append_28 : decode prog_7_method_3_code 28 = .ok (.iload_n (3), 1) := by decide +kernel
theorem d_Spans_append_29 : decode prog_7_method_3_code 29 = .ok (.iastore, 1) := by decide +kernel
theorem d_Spans_append_30 : decode prog_7_method_3_code 30 = .ok (.aload_n (0), 1) := by decide +kernel
theorem d_Spans_append_31 : decode prog_7_method_3_code 31 = .ok (.getfield (25), 3) := by decide +kernel
theorem d_Spans_append_34 : decode prog_7_method_3_code 34 = .ok (.aload_n (0), 1) := by decide +kernel
theorem d_Spans_append_35 : decode prog_7_method_3_code 35 = .ok (.getfield (9), 3) := by decide +kernel
theorem d_Spans_append_38 : decode prog_7_method_3_code 38 = .ok (.lload (4), 2) := by decide +kernel
theorem d_Spans_append_40 : decode prog_7_method_3_code 40 = .ok (.lastore, 1) := by decide +kernel
theorem d_Spans_append_41 : decode prog_7_method_3_code 41 = .ok (.aload_n (0), 1) := by decide +kernel
theorem d_Spans_append_42 : decode prog_7_method_3_code 42 = .ok (.dup, 1) := by decide +kernel
theorem d_Spans_append_43 : decode prog_7_method_3_code 43 = .ok (.getfield (9), 3) := by decide +kernel
theorem d_Spans_append_46 : decode prog_7_method_3_code 46 = .ok (.iconst (1), 1) := by decide +kernel
theorem d_Spans_append_47 : decode prog_7_method_3_code 47 = .ok (.iadd, 1) := by decide +kernel
theorem d_Spans_append_48 : decode prog_7_method_3_code 48 = .ok (.putfield (9), 3) := by decide +kernel
theorem d_Spans_append_51 : decode prog_7_method_3_code 51 = .ok (.aload_n (0), 1) := by decide +kernel
theorem d_Spans_append_52 : decode prog_7_method_3_code 52 = .ok (.getfield (9), 3) := by decide +kernel
theorem d_Spans_append_55 : decode prog_7_method_3_code 55 = .ok (.iconst (1), 1) := by decide +kernel
theorem d_Spans_append_56 : decode prog_7_method_3_code 56 = .ok (.isub, 1) := by decide +kernel
theorem d_Spans_append_57 : decode prog_7_method_3_code 57 = .ok (.ireturn, 1) := by decide +kernel
set_option maxHeartbeats 4000000 in
set_option maxRecDepth 100000 in
theorem k_Spans_append (N : Nat) {X : zX} (C : zB X prog_7_method_3_code 6 R_Spans rm_Spans_append) {h0 : zH} {p : Int32 × zH} (E : zR X (some .int) rm_Spans_append h0 (some (.int p.1)) p.2) : ∀ (x0 : Nat) (x1 : Int32) (x2 : Int32) (x3 : Int32) (x4 : Int64) (h : zH), f_Spans_append N x0 x1 x2 x3 x4 h = some p → Zt X 6 0 0 0 [(0, .ref x0), (1, .int x1), (2, .int x2), (3, .int x3), (4, .long x4)] [] h := by
  intro x0 x1 x2 x3 x4 h hf
  unfold f_Spans_append at hf
  refine z_aload_n C 0 d_Spans_append_0 rfl rfl ?_
  refine z_getR C 3 1 rfl in_Spans (by decide) w_152 rfl d_Spans_append_1 hf (fun v1 hf => ?_)
  refine z_aload_n C 0 d_Spans_append_4 rfl rfl ?_
  refine z_getI C 3 0 rfl in_Spans (by decide) w_149 rfl d_Spans_append_5 hf (fun v2 hf => ?_)
  refine z_iload_n C 1 d_Spans_append_8 rfl rfl ?_
  refine z_iast C d_Spans_append_9 hf (fun h3 hf => ?_)
  refine z_aload_n C 0 d_Spans_append_10 rfl rfl ?_
  refine z_getR C 3 2 rfl in_Spans (by decide) w_155 rfl d_Spans_append_11 hf (fun v4 hf => ?_)
  refine z_aload_n C 0 d_Spans_append_14 rfl rfl ?_
  refine z_getI C 3 0 rfl in_Spans (by decide) w_149 rfl d_Spans_append_15 hf (fun v5 hf => ?_)
  refine z_iload_n C 2 d_Spans_append_18 rfl rfl ?_
  refine z_iast C d_Spans_append_19 hf (fun h6 hf => ?_)
  refine z_aload_n C 0 d_Spans_append_20 rfl rfl ?_
  refine z_getR C 3 3 rfl in_Spans (by decide) w_158 rfl d_Spans_append_21 hf (fun v7 hf => ?_)
  refine z_aload_n C 0 d_Spans_append_24 rfl rfl ?_
  refine z_getI C 3 0 rfl in_Spans (by decide) w_149 rfl d_Spans_append_25 hf (fun v8 hf => ?_)
  refine z_iload_n C 3 d_Spans_append_28 rfl rfl ?_
  refine z_iast C d_Spans_append_29 hf (fun h9 hf => ?_)
  refine z_aload_n C 0 d_Spans_append_30 rfl rfl ?_
  refine z_getR C 3 4 rfl in_Spans (by decide) w_159 rfl d_Spans_append_31 hf (fun v10 hf => ?_)
  refine z_aload_n C 0 d_Spans_append_34 rfl rfl ?_
  refine z_getI C 3 0 rfl in_Spans (by decide) w_149 rfl d_Spans_append_35 hf (fun v11 hf => ?_)
  refine z_lload C 4 d_Spans_append_38 rfl ?_
  refine z_last C d_Spans_append_40 hf (fun h12 hf => ?_)
  refine z_aload_n C 0 d_Spans_append_41 rfl rfl ?_
  refine z_dup C d_Spans_append_42 rfl ?_
  refine z_getI C 3 0 rfl in_Spans (by decide) w_149 rfl d_Spans_append_43 hf (fun v13 hf => ?_)
  refine z_iconst C (v := (1 : Int32)) d_Spans_append_46 (by decide) ?_
  refine z_iadd C d_Spans_append_47 ?_
  refine z_put C 3 0 ty_Spans rfl in_Spans tyok_Spans nm_Spans (by decide) w_149 rfl (Or.inl rfl) rfl rfl rfl d_Spans_append_48 hf (fun h14 hf => ?_)
  refine z_aload_n C 0 d_Spans_append_51 rfl rfl ?_
  refine z_getI C 3 0 rfl in_Spans (by decide) w_149 rfl d_Spans_append_52 hf (fun v15 hf => ?_)
  refine z_iconst C (v := (1 : Int32)) d_Spans_append_55 (by decide) ?_
  refine z_isub C d_Spans_append_56 ?_
  exact z_iret C E (Nat.le_of_ble_eq_true rfl) (Nat.le_of_ble_eq_true rfl) d_Spans_append_57 hf

theorem c_Spans_append (N : Nat) {l : Launch} {D : va_G} {T : List (ClassId × FieldType)} (hT : T.map (fun q => q.2) = ztl) {x0 : Nat} {x1 : Int32} {x2 : Int32} {x3 : Int32} {x4 : Int64} {h : zH} {p : Int32 × zH} (hf : f_Spans_append N x0 x1 x2 x3 x4 h = some p) : zM l y_Spans_append prog_7_method_3_code 6 (some .int) rm_Spans_append D T [.ref x0, .int x1, .int x2, .int x3, .long x4] h (some (.int p.1)) p.2 :=
  z_enter (by decide) hT (Nat.le_of_ble_eq_true rfl) (fun X el eD eT hin C E => k_Spans_append N C E x0 x1 x2 x3 x4 h hf)
/-! ===== LevelTables$Spans.takeOut(I)V ===== -/
abbrev y_Spans_takeOut : MethodName := ⟨R_Spans, "takeOut", "(I)V"⟩
theorem pd_Spans_takeOut : y_Spans_takeOut.cls ≠ "java/lang/invoke/MethodHandle" ∧ y_Spans_takeOut.cls ≠ "java/lang/invoke/VarHandle" ∧ (parseMethodDescriptor y_Spans_takeOut.desc).map (fun d => d.parameters.length) = some 1 := ⟨by decide +kernel, by decide +kernel, by decide +kernel⟩
abbrev rm_Spans_takeOut : Room := { frames := 0, cells := 0, slots := 0, locals := 0 }
def b_Spans_takeOut_2 (N : Nat) (rc2 : Nat → Int32 → zH → Option (Unit × zH)) (x0 : Nat) (x2 : Int32) (h : zH) : Option (Unit × zH) :=
  Option.bind (zgI h x0 3 0) fun (v1 : Int32) =>
  (if v1 ≤ (x2 + (1 : Int32)) then
    Option.bind (zgI h x0 3 0) fun (v2 : Int32) =>
    Option.bind (zp h x0 3 0 (.int (v2 - (1 : Int32)))) fun (h3 : zH) =>
    some ((), h3)
  else
    Option.bind (zgR h x0 3 1) fun (v4 : Nat) =>
    Option.bind (zgR h x0 3 1) fun (v5 : Nat) =>
    Option.bind (zaI h 0 v5 (x2 + (1 : Int32))) fun (v6 : Int32) =>
    Option.bind (zsI h 0 v4 x2 v6) fun (h7 : zH) =>
    Option.bind (zgR h7 x0 3 2) fun (v8 : Nat) =>
    Option.bind (zgR h7 x0 3 2) fun (v9 : Nat) =>
    Option.bind (zaI h7 0 v9 (x2 + (1 : Int32))) fun (v10 : Int32) =>
    Option.bind (zsI h7 0 v8 x2 v10) fun (h11 : zH) =>
    Option.bind (zgR h11 x0 3 3) fun (v12 : Nat) =>
    Option.bind (zgR h11 x0 3 3) fun (v13 : Nat) =>
    Option.bind (zaI h11 0 v13 (x2 + (1 : Int32))) fun (v14 : Int32) =>
    Option.bind (zsI h11 0 v12 x2 v14) fun (h15 : zH) =>
    Option.bind (zgR h15 x0 3 4) fun (v16 : Nat) =>
    Option.bind (zgR h15 x0 3 4) fun (v17 : Nat) =>
    Option.bind (zaJ h15 1 v17 (x2 + (1 : Int32))) fun (v18 : Int64) =>
    Option.bind (zsJ h15 1 v16 x2 v18) fun (h19 : zH) =>
    rc2 x0 (x2 + (1 : Int32)) h19)
def f_Spans_takeOut_2 (N : Nat) : Nat → Nat → Int32 → zH → Option (Unit × zH)
  | 0 => fun _ _ _ => none
  | n + 1 => fun x0 x2 h => b_Spans_takeOut_2 N (f_Spans_takeOut_2 N n) x0 x2 h
def f_Spans_takeOut (N : Nat) (x0 : Nat) (x1 : Int32) (h : zH) : Option (Unit × zH) :=
  f_Spans_takeOut_2 N N x0 x1 h
theorem d_Spans_takeOut_0 : decode prog_7_method_4_code 0 = .ok (.iload_n (1), 1) := by decide +kernel
theorem d_Spans_takeOut_1 : decode prog_7_method_4_code 1 = .ok (.istore_n (2), 1) := by decide +kernel
theorem d_Spans_takeOut_2 : decode prog_7_method_4_code 2 = .ok (.iload_n (2), 1) := by decide +kernel
theorem d_Spans_takeOut_3 : decode prog_7_method_4_code 3 = .ok (.iconst (1), 1) := by decide +kernel
theorem d_Spans_takeOut_4 : decode prog_7_method_4_code 4 = .ok (.iadd, 1) := by decide +kernel
theorem d_Spans_takeOut_5 : decode prog_7_method_4_code 5 = .ok (.aload_n (0), 1) := by decide +kernel
theorem d_Spans_takeOut_6 : decode prog_7_method_4_code 6 = .ok (.getfield (9), 3) := by decide +kernel
theorem d_Spans_takeOut_9 : decode prog_7_method_4_code 9 = .ok (.if_icmp .ge (65), 3) := by decide +kernel
theorem d_Spans_takeOut_12 : decode prog_7_method_4_code 12 = .ok (.aload_n (0), 1) := by decide +kernel
theorem d_Spans_takeOut_13 : decode prog_7_method_4_code 13 = .ok (.getfield (15), 3) := by decide +kernel
theorem d_Spans_takeOut_16 : decode prog_7_method_4_code 16 = .ok (.iload_n (2), 1) := by decide +kernel
theorem d_Spans_takeOut_17 : decode prog_7_method_4_code 17 = .ok (.aload_n (0), 1) := by decide +kernel
theorem d_Spans_takeOut_18 : decode prog_7_method_4_code 18 = .ok (.getfield (15), 3) := by decide +kernel
theorem d_Spans_takeOut_21 : decode prog_7_method_4_code 21 = .ok (.iload_n (2), 1) := by decide +kernel
theorem d_Spans_takeOut_22 : decode prog_7_method_4_code 22 = .ok (.iconst (1), 1) := by decide +kernel
theorem d_Spans_takeOut_23 : decode prog_7_method_4_code 23 = .ok (.iadd, 1) := by decide +kernel
theorem d_Spans_takeOut_24 : decode prog_7_method_4_code 24 = .ok (.iaload, 1) := by decide +kernel
theorem d_Spans_takeOut_25 : decode prog_7_method_4_code 25 = .ok (.iastore, 1) := by decide +kernel
theorem d_Spans_takeOut_26 : decode prog_7_method_4_code 26 = .ok (.aload_n (0), 1) := by decide +kernel
theorem d_Spans_takeOut_27 : decode prog_7_method_4_code 27 = .ok (.getfield (19), 3) := by decide +kernel
theorem d_Spans_takeOut_30 : decode prog_7_method_4_code 30 = .ok (.iload_n (2), 1) := by decide +kernel
theorem d_Spans_takeOut_31 : decode prog_7_method_4_code 31 = .ok (.aload_n (0), 1) := by decide +kernel
theorem d_Spans_takeOut_32 : decode prog_7_method_4_code 32 = .ok (.getfield (19), 3) := by decide +kernel
theorem d_Spans_takeOut_35 : decode prog_7_method_4_code 35 = .ok (.iload_n (2), 1) := by decide +kernel
theorem d_Spans_takeOut_36 : decode prog_7_method_4_code 36 = .ok (.iconst (1), 1) := by decide +kernel
theorem d_Spans_takeOut_37 : decode prog_7_method_4_code 37 = .ok (.iadd, 1) := by decide +kernel
theorem d_Spans_takeOut_38 : decode prog_7_method_4_code 38 = .ok (.iaload, 1) := by decide +kernel
theorem d_Spans_takeOut_39 : decode prog_7_method_4_code 39 = .ok (.iastore, 1) := by decide +kernel
theorem d_Spans_takeOut_40 : decode prog_7_method_4_code 40 = .ok (.aload_n (0), 1) := by decide +kernel
theorem d_Spans_takeOut_41 : decode prog_7_method_4_code 41 = .ok (.getfield (22), 3) := by decide +kernel
theorem d_Spans_takeOut_44 : decode prog_7_method_4_code 44 = .ok (.iload_n (2), 1) := by decide +kernel
theorem d_Spans_takeOut_45 : decode prog_7_method_4_code 45 = .ok (.aload_n (0), 1) := by decide +kernel
theorem d_Spans_takeOut_46 : decode prog_7_method_4_code 46 = .ok (.getfield (22), 3) := by decide +kernel
theorem d_Spans_takeOut_49 : decode prog_7_method_4_code 49 = .ok (.iload_n (2), 1) := by decide +kernel
theorem d_Spans_takeOut_50 : decode prog_7_method_4_code 50 = .ok (.iconst (1), 1) := by decide +kernel
theorem d_Spans_takeOut_51 : decode prog_7_method_4_code 51 = .ok (.iadd, 1) := by decide +kernel
theorem d_Spans_takeOut_52 : decode prog_7_method_4_code 52 = .ok (.iaload, 1) := by decide +kernel
theorem d_Spans_takeOut_53 : decode prog_7_method_4_code 53 = .ok (.iastore, 1) := by decide +kernel
theorem d_Spans_takeOut_54 : decode prog_7_method_4_code 54 = .ok (.aload_n (0), 1) := by decide +kernel
theorem d_Spans_takeOut_55 : decode prog_7_method_4_code 55 = .ok (.getfield (25), 3) := by decide +kernel
theorem d_Spans_takeOut_58 : decode prog_7_method_4_code 58 = .ok (.iload_n (2), 1) := by decide +kernel
theorem d_Spans_takeOut_59 : decode prog_7_method_4_code 59 = .ok (.aload_n (0), 1) := by decide +kernel
theorem d_Spans_takeOut_60 : decode prog_7_method_4_code 60 = .ok (.getfield (25), 3) := by decide +kernel
theorem d_Spans_takeOut_63 : decode prog_7_method_4_code 63 = .ok (.iload_n (2), 1) := by decide +kernel
theorem d_Spans_takeOut_64 : decode prog_7_method_4_code 64 = .ok (.iconst (1), 1) := by decide +kernel
theorem d_Spans_takeOut_65 : decode prog_7_method_4_code 65 = .ok (.iadd, 1) := by decide +kernel
theorem d_Spans_takeOut_66 : decode prog_7_method_4_code 66 = .ok (.laload, 1) := by decide +kernel
theorem d_Spans_takeOut_67 : decode prog_7_method_4_code 67 = .ok (.lastore, 1) := by decide +kernel
theorem d_Spans_takeOut_68 : decode prog_7_method_4_code 68 = .ok (.iinc (2) (1), 3) := by decide +kernel
theorem d_Spans_takeOut_71 : decode prog_7_method_4_code 71 = .ok (.goto (-69), 3) := by decide +kernel
theorem d_Spans_takeOut_74 : decode prog_7_method_4_code 74 = .ok (.aload_n (0), 1) := by decide +kernel
theorem d_Spans_takeOut_75 : decode prog_7_method_4_code 75 = .ok (.dup, 1) := by decide +kernel
theorem d_Spans_takeOut_76 : decode prog_7_method_4_code 76 = .ok (.getfield (9), 3) := by decide +kernel
theorem d_Spans_takeOut_79 : decode prog_7_method_4_code 79 = .ok (.iconst (1), 1) := by decide +kernel
theorem d_Spans_takeOut_80 : decode prog_7_method_4_code 80 = .ok (.isub, 1) := by decide +kernel
theorem d_Spans_takeOut_81 : decode prog_7_method_4_code 81 = .ok (.putfield (9), 3) := by decide +kernel
theorem d_Spans_takeOut_84 : decode prog_7_method_4_code 84 = .ok (.return_, 1) := by decide +kernel
set_option maxHeartbeats 4000000 in
set_option maxRecDepth 100000 in
theorem k_Spans_takeOut_2 (N : Nat) {X : zX} (C : zB X prog_7_method_4_code 3 R_Spans rm_Spans_takeOut) {h0 : zH} {p : Unit × zH} (E : zR X none rm_Spans_takeOut h0 none p.2) : ∀ n : Nat, ∀ (x0 : Nat) (x2 : Int32) (h : zH), f_Spans_takeOut_2 N n x0 x2 h = some p → Zt X 3 0 0 2 [(0, .ref x0), (2, .int x2)] [] h := by
  intro n
  induction n with
  | zero => intro x0 x2 h hf; cases hf
  | succ n ih =>
  intro x0 x2 h hf
  have H2 := ih
  replace hf : b_Spans_takeOut_2 N (f_Spans_takeOut_2 N n) x0 x2 h = some p := hf
  unfold b_Spans_takeOut_2 at hf
  refine z_iload_n C 1 d_Spans_takeOut_2 rfl rfl ?_
  refine z_iconst C (v := (1 : Int32)) d_Spans_takeOut_3 (by decide) ?_
  refine z_iadd C d_Spans_takeOut_4 ?_
  refine z_aload_n C 0 d_Spans_takeOut_5 rfl rfl ?_
  refine z_getI C 3 0 rfl in_Spans (by decide) w_149 rfl d_Spans_takeOut_6 hf (fun v1 hf => ?_)
  refine z_ic_ge (tgt := 74) C d_Spans_takeOut_9 (by decide) hf (fun hf => ?_) (fun hf => ?_)
  · refine z_aload_n C 0 d_Spans_takeOut_74 rfl rfl ?_
    refine z_dup C d_Spans_takeOut_75 rfl ?_
    refine z_getI C 3 0 rfl in_Spans (by decide) w_149 rfl d_Spans_takeOut_76 hf (fun v2 hf => ?_)
    refine z_iconst C (v := (1 : Int32)) d_Spans_takeOut_79 (by decide) ?_
    refine z_isub C d_Spans_takeOut_80 ?_
    refine z_put C 3 0 ty_Spans rfl in_Spans tyok_Spans nm_Spans (by decide) w_149 rfl (Or.inl rfl) rfl rfl rfl d_Spans_takeOut_81 hf (fun h3 hf => ?_)
    exact z_vret C E (Nat.le_of_ble_eq_true rfl) (Nat.le_of_ble_eq_true rfl) d_Spans_takeOut_84 hf
  · refine z_aload_n C 0 d_Spans_takeOut_12 rfl rfl ?_
    refine z_getR C 3 1 rfl in_Spans (by decide) w_152 rfl d_Spans_takeOut_13 hf (fun v4 hf => ?_)
    refine z_iload_n C 1 d_Spans_takeOut_16 rfl rfl ?_
    refine z_aload_n C 0 d_Spans_takeOut_17 rfl rfl ?_
    refine z_getR C 3 1 rfl in_Spans (by decide) w_152 rfl d_Spans_takeOut_18 hf (fun v5 hf => ?_)
    refine z_iload_n C 1 d_Spans_takeOut_21 rfl rfl ?_
    refine z_iconst C (v := (1 : Int32)) d_Spans_takeOut_22 (by decide) ?_
    refine z_iadd C d_Spans_takeOut_23 ?_
    refine z_iald C d_Spans_takeOut_24 hf (fun v6 hf => ?_)
    refine z_iast C d_Spans_takeOut_25 hf (fun h7 hf => ?_)
    refine z_aload_n C 0 d_Spans_takeOut_26 rfl rfl ?_
    refine z_getR C 3 2 rfl in_Spans (by decide) w_155 rfl d_Spans_takeOut_27 hf (fun v8 hf => ?_)
    refine z_iload_n C 1 d_Spans_takeOut_30 rfl rfl ?_
    refine z_aload_n C 0 d_Spans_takeOut_31 rfl rfl ?_
    refine z_getR C 3 2 rfl in_Spans (by decide) w_155 rfl d_Spans_takeOut_32 hf (fun v9 hf => ?_)
    refine z_iload_n C 1 d_Spans_takeOut_35 rfl rfl ?_
    refine z_iconst C (v := (1 : Int32)) d_Spans_takeOut_36 (by decide) ?_
    refine z_iadd C d_Spans_takeOut_37 ?_
    refine z_iald C d_Spans_takeOut_38 hf (fun v10 hf => ?_)
    refine z_iast C d_Spans_takeOut_39 hf (fun h11 hf => ?_)
    refine z_aload_n C 0 d_Spans_takeOut_40 rfl rfl ?_
    refine z_getR C 3 3 rfl in_Spans (by decide) w_158 rfl d_Spans_takeOut_41 hf (fun v12 hf => ?_)
    refine z_iload_n C 1 d_Spans_takeOut_44 rfl rfl ?_
    refine z_aload_n C 0 d_Spans_takeOut_45 rfl rfl ?_
    refine z_getR C 3 3 rfl in_Spans (by decide) w_158 rfl d_Spans_takeOut_46 hf (fun v13 hf => ?_)
    refine z_iload_n C 1 d_Spans_takeOut_49 rfl rfl ?_
    refine z_iconst C (v := (1 : Int32)) d_Spans_takeOut_50 (by decide) ?_
    refine z_iadd C d_Spans_takeOut_51 ?_
    refine z_iald C d_Spans_takeOut_52 hf (fun v14 hf => ?_)
    refine z_iast C d_Spans_takeOut_53 hf (fun h15 hf => ?_)
    refine z_aload_n C 0 d_Spans_takeOut_54 rfl rfl ?_
    refine z_getR C 3 4 rfl in_Spans (by decide) w_159 rfl d_Spans_takeOut_55 hf (fun v16 hf => ?_)
    refine z_iload_n C 1 d_Spans_takeOut_58 rfl rfl ?_
    refine z_aload_n C 0 d_Spans_takeOut_59 rfl rfl ?_
    refine z_getR C 3 4 rfl in_Spans (by decide) w_159 rfl d_Spans_takeOut_60 hf (fun v17 hf => ?_)
    refine z_iload_n C 1 d_Spans_takeOut_63 rfl rfl ?_
    refine z_iconst C (v := (1 : Int32)) d_Spans_takeOut_64 (by decide) ?_
    refine z_iadd C d_Spans_takeOut_65 ?_
    refine z_lald C d_Spans_takeOut_66 hf (fun v18 hf => ?_)
    refine z_last C d_Spans_takeOut_67 hf (fun h19 hf => ?_)
    refine z_iinc C (v := (x2 + (1 : Int32))) (lv' := [(2, .int (x2 + (1 : Int32))), (0, .ref x0)]) 1 d_Spans_takeOut_68 rfl (by rfl) (by decide) rfl ?_
    refine z_goto (tgt := 2) C d_Spans_takeOut_71 (by decide) ?_
    refine z_sub [1, 0] rfl ?_
    exact H2 _ _ _ hf

set_option maxHeartbeats 4000000 in
set_option maxRecDepth 100000 in
theorem k_Spans_takeOut (N : Nat) {X : zX} (C : zB X prog_7_method_4_code 3 R_Spans rm_Spans_takeOut) {h0 : zH} {p : Unit × zH} (E : zR X none rm_Spans_takeOut h0 none p.2) : ∀ (x0 : Nat) (x1 : Int32) (h : zH), f_Spans_takeOut N x0 x1 h = some p → Zt X 3 0 0 0 [(0, .ref x0), (1, .int x1)] [] h := by
  intro x0 x1 h hf
  unfold f_Spans_takeOut at hf
  refine z_iload_n C 1 d_Spans_takeOut_0 rfl rfl ?_
  refine z_istore_n C (lv' := [(2, .int x1), (0, .ref x0), (1, .int x1)]) d_Spans_takeOut_1 rfl (by decide) rfl ?_
  refine z_sub [1, 0] rfl ?_
  exact k_Spans_takeOut_2 N C E N _ _ _ hf

theorem c_Spans_takeOut (N : Nat) {l : Launch} {D : va_G} {T : List (ClassId × FieldType)} (hT : T.map (fun q => q.2) = ztl) {x0 : Nat} {x1 : Int32} {h : zH} {p : Unit × zH} (hf : f_Spans_takeOut N x0 x1 h = some p) : zM l y_Spans_takeOut prog_7_method_4_code 3 none rm_Spans_takeOut D T [.ref x0, .int x1] h none p.2 :=
  z_enter (by decide) hT (Nat.le_of_ble_eq_true rfl) (fun X el eD eT hin C E => k_Spans_takeOut N C E x0 x1 h hf)
/-! ===== LevelTables$Site.isLevelOrNone(I)Z ===== -/
abbrev y_Site_isLevelOrNone : MethodName := ⟨R_Site, "isLevelOrNone", "(I)Z"⟩
theorem pd_Site_isLevelOrNone : y_Site_isLevelOrNone.cls ≠ "java/lang/invoke/MethodHandle" ∧ y_Site_isLevelOrNone.cls ≠ "java/lang/invoke/VarHandle" ∧ (parseMethodDescriptor y_Site_isLevelOrNone.desc).map (fun d => d.parameters.length) = some 1 := ⟨by decide +kernel, by decide +kernel, by decide +kernel⟩
abbrev rm_Site_isLevelOrNone : Room := { frames := 1, cells := 0, slots := 0, locals := 21 }
def f_Site_isLevelOrNone_13 (N : Nat)  (h : zH) : Option (Int32 × zH) :=
  zrb (1 : Int32) h
def f_Site_isLevelOrNone (N : Nat) (x0 : Nat) (x1 : Int32) (h : zH) : Option (Int32 × zH) :=
  (if x1 = (-1 : Int32) then
    f_Site_isLevelOrNone_13 N  h
  else
    Option.bind (zck (zis h x0 2) (f_Site_isLevel N x0 x1 h)) fun (p1 : Int32 × zH) =>
    (if p1.1 = 0 then
      zrb (0 : Int32) p1.2
    else
      f_Site_isLevelOrNone_13 N  p1.2))
theorem d_Site_isLevelOrNone_0 : decode prog_6_method_4_code 0 = .ok (.iload_n (1), 1) := by decide +kernel
theorem d_Site_isLevelOrNone_1 : decode prog_6_method_4_code 1 = .ok (.iconst (-1), 1) := by decide +kernel
theorem d_Site_isLevelOrNone_2 : decode prog_6_method_4_code 2 = .ok (.if_icmp .eq (11), 3) := by decide +kernel
theorem d_Site_isLevelOrNone_5 : decode prog_6_method_4_code 5 = .ok (.aload_n (0), 1) := by decide +kernel
theorem d_Site_isLevelOrNone_6 : decode prog_6_method_4_code 6 = .ok (.iload_n (1), 1) := by decide +kernel
theorem d_Site_isLevelOrNone_7 : decode prog_6_method_4_code 7 = .ok (.invokevirtual (48), 3) := by decide +kernel
theorem d_Site_isLevelOrNone_10 : decode prog_6_method_4_code 10 = .ok (.ifCond .eq (7), 3) := by decide +kernel
theorem d_Site_isLevelOrNone_13 : decode prog_6_method_4_code 13 = .ok (.iconst (1), 1) := by decide +kernel
theorem d_Site_isLevelOrNone_14 : decode prog_6_method_4_code 14 = .ok (.goto (4), 3) := by decide +kernel
theorem d_Site_isLevelOrNone_17 : decode prog_6_method_4_code 17 = .ok (.iconst (0), 1) := by decide +kernel
theorem d_Site_isLevelOrNone_18 : decode prog_6_method_4_code 18 = .ok (.ireturn, 1) := by decide +kernel
set_option maxHeartbeats 4000000 in
set_option maxRecDepth 100000 in
theorem k_Site_isLevelOrNone_13 (N : Nat) {X : zX} (C : zB X prog_6_method_4_code 2 R_Site rm_Site_isLevelOrNone) {h0 : zH} {p : Int32 × zH} (E : zR X (some .boolean) rm_Site_isLevelOrNone h0 (some (.int p.1)) p.2) : ∀  (h : zH), f_Site_isLevelOrNone_13 N  h = some p → Zt X 2 0 0 13 [] [] h := by
  intro  h hf
  unfold f_Site_isLevelOrNone_13 at hf
  refine z_iconst C (v := (1 : Int32)) d_Site_isLevelOrNone_13 (by decide) ?_
  refine z_goto (tgt := 18) C d_Site_isLevelOrNone_14 (by decide) ?_
  exact z_zret C E (Nat.le_of_ble_eq_true rfl) (Nat.le_of_ble_eq_true rfl) d_Site_isLevelOrNone_18 hf

set_option maxHeartbeats 4000000 in
set_option maxRecDepth 100000 in
theorem k_Site_isLevelOrNone (N : Nat) {X : zX} (C : zB X prog_6_method_4_code 2 R_Site rm_Site_isLevelOrNone) {h0 : zH} {p : Int32 × zH} (E : zR X (some .boolean) rm_Site_isLevelOrNone h0 (some (.int p.1)) p.2) : ∀ (x0 : Nat) (x1 : Int32) (h : zH), f_Site_isLevelOrNone N x0 x1 h = some p → Zt X 2 0 0 0 [(0, .ref x0), (1, .int x1)] [] h := by
  intro x0 x1 h hf
  unfold f_Site_isLevelOrNone at hf
  refine z_iload_n C 1 d_Site_isLevelOrNone_0 rfl rfl ?_
  refine z_iconst C (v := (-1 : Int32)) d_Site_isLevelOrNone_1 (by decide) ?_
  refine z_ic_eq (tgt := 13) C d_Site_isLevelOrNone_2 (by decide) hf (fun hf => ?_) (fun hf => ?_)
  · refine z_sub [] rfl ?_
    exact k_Site_isLevelOrNone_13 N C E  _ hf
  · refine z_aload_n C 0 d_Site_isLevelOrNone_5 rfl rfl ?_
    refine z_iload_n C 1 d_Site_isLevelOrNone_6 rfl rfl ?_
    obtain ⟨p1, hc, hf⟩ := Option.bind_eq_some_iff.mp hf
    obtain ⟨hz, hc⟩ := zck_some hc
    refine z_callV C (ci := 2) (c_Site_isLevel N C.2.2.1 hc) rfl hz w_308 w_59 w_355 w_306 w_307 pd_Site_isLevel rfl ⟨(Nat.le_of_ble_eq_true rfl), (Nat.le_of_ble_eq_true rfl)⟩ ⟨(Nat.le_of_ble_eq_true rfl), (Nat.le_of_ble_eq_true rfl)⟩ rfl (Nat.le_of_ble_eq_true rfl) d_Site_isLevelOrNone_7 (k' := 0) (n' := 0) (stk' := [.int p1.1]) rfl rfl rfl ?_
    refine z_if_eq (tgt := 17) C d_Site_isLevelOrNone_10 (by decide) hf (fun hf => ?_) (fun hf => ?_)
    · refine z_iconst C (v := (0 : Int32)) d_Site_isLevelOrNone_17 (by decide) ?_
      exact z_zret C E (Nat.le_of_ble_eq_true rfl) (Nat.le_of_ble_eq_true rfl) d_Site_isLevelOrNone_18 hf
    · refine z_sub [] rfl ?_
      exact k_Site_isLevelOrNone_13 N C E  _ hf

theorem c_Site_isLevelOrNone (N : Nat) {l : Launch} {D : va_G} {T : List (ClassId × FieldType)} (hT : T.map (fun q => q.2) = ztl) {x0 : Nat} {x1 : Int32} {h : zH} {p : Int32 × zH} (hf : f_Site_isLevelOrNone N x0 x1 h = some p) : zM l y_Site_isLevelOrNone prog_6_method_4_code 2 (some .boolean) rm_Site_isLevelOrNone D T [.ref x0, .int x1] h (some (.int p.1)) p.2 :=
  z_enter (by decide) hT (Nat.le_of_ble_eq_true rfl) (fun X el eD eT hin C E => k_Site_isLevelOrNone N C E x0 x1 h hf)
/-! ===== LevelTables$Site.allows(II)Z ===== -/
abbrev y_Site_allows : MethodName := ⟨R_Site, "allows", "(II)Z"⟩
theorem pd_Site_allows : y_Site_allows.cls ≠ "java/lang/invoke/MethodHandle" ∧ y_Site_allows.cls ≠ "java/lang/invoke/VarHandle" ∧ (parseMethodDescriptor y_Site_allows.desc).map (fun d => d.parameters.length) = some 2 := ⟨by decide +kernel, by decide +kernel, by decide +kernel⟩
abbrev rm_Site_allows : Room := { frames := 0, cells := 0, slots := 0, locals := 0 }
def f_Site_allows_50 (N : Nat)  (h : zH) : Option (Int32 × zH) :=
  zrb (1 : Int32) h
def f_Site_allows_25 (N : Nat) (x0 : Nat) (x1 : Int32) (x2 : Int32) (s0 : Int32) (h : zH) : Option (Int32 × zH) :=
  (if s0 = 0 then
    zrb (0 : Int32) h
  else
    Option.bind (zgR h x0 2 6) fun (v1 : Nat) =>
    Option.bind (zaI h 0 v1 x1) fun (v2 : Int32) =>
    (if v2 = (-1 : Int32) then
      f_Site_allows_50 N  h
    else
      Option.bind (zgR h x0 2 6) fun (v3 : Nat) =>
      Option.bind (zaI h 0 v3 x1) fun (v4 : Int32) =>
      (if v4 = x2 then
        f_Site_allows_50 N  h
      else
        zrb (0 : Int32) h)))
def f_Site_allows_20 (N : Nat) (x0 : Nat) (x1 : Int32) (x2 : Int32) (h : zH) : Option (Int32 × zH) :=
  f_Site_allows_25 N x0 x1 x2 (1 : Int32) h
def f_Site_allows (N : Nat) (x0 : Nat) (x1 : Int32) (x2 : Int32) (h : zH) : Option (Int32 × zH) :=
  Option.bind (zgR h x0 2 5) fun (v5 : Nat) =>
  Option.bind (zaI h 0 v5 x1) fun (v6 : Int32) =>
  (if v6 = (-1 : Int32) then
    f_Site_allows_20 N x0 x1 x2 h
  else
    Option.bind (zgR h x0 2 5) fun (v7 : Nat) =>
    Option.bind (zaI h 0 v7 x1) fun (v8 : Int32) =>
    (if v8 = x2 then
      f_Site_allows_20 N x0 x1 x2 h
    else
      f_Site_allows_25 N x0 x1 x2 (0 : Int32) h))
theorem d_Site_allows_0 : decode prog_6_method_6_code 0 = .ok (.aload_n (0), 1) := by decide +kernel
theorem d_Site_allows_1 : decode prog_6_method_6_code 1 = .ok (.getfield (37), 3) := by decide +kernel
theorem d_Site_allows_4 : decode prog_6_method_6_code 4 = .ok (.iload_n (1), 1) := by decide +kernel
theorem d_Site_allows_5 : decode prog_6_method_6_code 5 = .ok (.iaload, 1) := by decide +kernel
theorem d_Site_allows_6 : decode prog_6_method_6_code 6 = .ok (.iconst (-1), 1) := by decide +kernel
theorem d_Site_allows_7 : decode prog_6_method_6_code 7 = .ok (.if_icmp .eq (13), 3) := by decide +kernel
theorem d_Site_allows_10 : decode prog_6_method_6_code 10 = .ok (.aload_n (0), 1) := by decide +kernel
theorem d_Site_allows_11 : decode prog_6_method_6_code 11 = .ok (.getfield (37), 3) := by decide +kernel
theorem d_Site_allows_14 : decode prog_6_method_6_code 14 = .ok (.iload_n (1), 1) := by decide +kernel
theorem d_Site_allows_15 : decode prog_6_method_6_code 15 = .ok (.iaload, 1) := by decide +kernel
theorem d_Site_allows_16 : decode prog_6_method_6_code 16 = .ok (.iload_n (2), 1) := by decide +kernel
theorem d_Site_allows_17 : decode prog_6_method_6_code 17 = .ok (.if_icmp .ne (7), 3) := by decide +kernel
theorem d_Site_allows_20 : decode prog_6_method_6_code 20 = .ok (.iconst (1), 1) := by decide +kernel
theorem d_Site_allows_21 : decode prog_6_method_6_code 21 = .ok (.goto (4), 3) := by decide +kernel
theorem d_Site_allows_24 : decode prog_6_method_6_code 24 = .ok (.iconst (0), 1) := by decide +kernel
theorem d_Site_allows_25 : decode prog_6_method_6_code 25 = .ok (.istore_n (3), 1) := by decide +kernel
theorem d_Site_allows_26 : decode prog_6_method_6_code 26 = .ok (.iload_n (3), 1) := by decide +kernel
theorem d_Site_allows_27 : decode prog_6_method_6_code 27 = .ok (.ifCond .eq (27), 3) := by decide +kernel
theorem d_Site_allows_30 : decode prog_6_method_6_code 30 = .ok (.aload_n (0), 1) := by decide +kernel
theorem d_Site_allows_31 : decode prog_6_method_6_code 31 = .ok (.getfield (40), 3) := by decide +kernel
theorem d_Site_allows_34 : decode prog_6_method_6_code 34 = .ok (.iload_n (1), 1) := by decide +kernel
theorem d_Site_allows_35 : decode prog_6_method_6_code 35 = .ok (.iaload, 1) := by decide +kernel
theorem d_Site_allows_36 : decode prog_6_method_6_code 36 = .ok (.iconst (-1), 1) := by decide +kernel
theorem d_Site_allows_37 : decode prog_6_method_6_code 37 = .ok (.if_icmp .eq (13), 3) := by decide +kernel
theorem d_Site_allows_40 : decode prog_6_method_6_code 40 = .ok (.aload_n (0), 1) := by decide +kernel
theorem d_Site_allows_41 : decode prog_6_method_6_code 41 = .ok (.getfield (40), 3) := by decide +kernel
theorem d_Site_allows_44 : decode prog_6_method_6_code 44 = .ok (.iload_n (1), 1) := by decide +kernel
theorem d_Site_allows_45 : decode prog_6_method_6_code 45 = .ok (.iaload, 1) := by decide +kernel
theorem d_Site_allows_46 : decode prog_6_method_6_code 46 = .ok (.iload_n (2), 1) := by decide +kernel
theorem d_Site_allows_47 : decode prog_6_method_6_code 47 = .ok (.if_icmp .ne (7), 3) := by decide +kernel
theorem d_Site_allows_50 : decode prog_6_method_6_code 50 = .ok (.iconst (1), 1) := by decide +kernel
theorem d_Site_allows_51 : decode prog_6_method_6_code 51 = .ok (.goto (4), 3) := by decide +kernel
theorem d_Site_allows_54 : decode prog_6_method_6_code 54 = .ok (.iconst (0), 1) := by decide +kernel
theorem d_Site_allows_55 : decode prog_6_method_6_code 55 = .ok (.ireturn, 1) := by decide +kernel
set_option maxHeartbeats 4000000 in
set_option maxRecDepth 100000 in
theorem k_Site_allows_50 (N : Nat) {X : zX} (C : zB X prog_6_method_6_code 4 R_Site rm_Site_allows) {h0 : zH} {p : Int32 × zH} (E : zR X (some .boolean) rm_Site_allows h0 (some (.int p.1)) p.2) : ∀  (h : zH), f_Site_allows_50 N  h = some p → Zt X 4 0 0 50 [] [] h := by
  intro  h hf
  unfold f_Site_allows_50 at hf
  refine z_iconst C (v := (1 : Int32)) d_Site_allows_50 (by decide) ?_
  refine z_goto (tgt := 55) C d_Site_allows_51 (by decide) ?_
  exact z_zret C E (Nat.le_of_ble_eq_true rfl) (Nat.le_of_ble_eq_true rfl) d_Site_allows_55 hf

set_option maxHeartbeats 4000000 in
set_option maxRecDepth 100000 in
theorem k_Site_allows_25 (N : Nat) {X : zX} (C : zB X prog_6_method_6_code 4 R_Site rm_Site_allows) {h0 : zH} {p : Int32 × zH} (E : zR X (some .boolean) rm_Site_allows h0 (some (.int p.1)) p.2) : ∀ (x0 : Nat) (x1 : Int32) (x2 : Int32) (s0 : Int32) (h : zH), f_Site_allows_25 N x0 x1 x2 s0 h = some p → Zt X 4 0 0 25 [(0, .ref x0), (1, .int x1), (2, .int x2)] [.int s0] h := by
  intro x0 x1 x2 s0 h hf
  unfold f_Site_allows_25 at hf
  refine z_istore_n C (lv' := [(3, .int s0), (0, .ref x0), (1, .int x1), (2, .int x2)]) d_Site_allows_25 rfl (by decide) rfl ?_
  refine z_iload_n C 0 d_Site_allows_26 rfl rfl ?_
  refine z_if_eq (tgt := 54) C d_Site_allows_27 (by decide) hf (fun hf => ?_) (fun hf => ?_)
  · refine z_iconst C (v := (0 : Int32)) d_Site_allows_54 (by decide) ?_
    exact z_zret C E (Nat.le_of_ble_eq_true rfl) (Nat.le_of_ble_eq_true rfl) d_Site_allows_55 hf
  · refine z_aload_n C 1 d_Site_allows_30 rfl rfl ?_
    refine z_getR C 2 6 rfl in_Site (by decide) w_111 rfl d_Site_allows_31 hf (fun v1 hf => ?_)
    refine z_iload_n C 2 d_Site_allows_34 rfl rfl ?_
    refine z_iald C d_Site_allows_35 hf (fun v2 hf => ?_)
    refine z_iconst C (v := (-1 : Int32)) d_Site_allows_36 (by decide) ?_
    refine z_ic_eq (tgt := 50) C d_Site_allows_37 (by decide) hf (fun hf => ?_) (fun hf => ?_)
    · refine z_sub [] rfl ?_
      exact k_Site_allows_50 N C E  _ hf
    · refine z_aload_n C 1 d_Site_allows_40 rfl rfl ?_
      refine z_getR C 2 6 rfl in_Site (by decide) w_111 rfl d_Site_allows_41 hf (fun v3 hf => ?_)
      refine z_iload_n C 2 d_Site_allows_44 rfl rfl ?_
      refine z_iald C d_Site_allows_45 hf (fun v4 hf => ?_)
      refine z_iload_n C 3 d_Site_allows_46 rfl rfl ?_
      refine z_ic_ne (tgt := 54) C d_Site_allows_47 (by decide) hf (fun hf => ?_) (fun hf => ?_)
      · refine z_iconst C (v := (0 : Int32)) d_Site_allows_54 (by decide) ?_
        exact z_zret C E (Nat.le_of_ble_eq_true rfl) (Nat.le_of_ble_eq_true rfl) d_Site_allows_55 hf
      · refine z_sub [] rfl ?_
        exact k_Site_allows_50 N C E  _ hf

set_option maxHeartbeats 4000000 in
set_option maxRecDepth 100000 in
theorem k_Site_allows_20 (N : Nat) {X : zX} (C : zB X prog_6_method_6_code 4 R_Site rm_Site_allows) {h0 : zH} {p : Int32 × zH} (E : zR X (some .boolean) rm_Site_allows h0 (some (.int p.1)) p.2) : ∀ (x0 : Nat) (x1 : Int32) (x2 : Int32) (h : zH), f_Site_allows_20 N x0 x1 x2 h = some p → Zt X 4 0 0 20 [(0, .ref x0), (1, .int x1), (2, .int x2)] [] h := by
  intro x0 x1 x2 h hf
  unfold f_Site_allows_20 at hf
  refine z_iconst C (v := (1 : Int32)) d_Site_allows_20 (by decide) ?_
  refine z_goto (tgt := 25) C d_Site_allows_21 (by decide) ?_
  refine z_sub [0, 1, 2] rfl ?_
  exact k_Site_allows_25 N C E _ _ _ _ _ hf

set_option maxHeartbeats 4000000 in
set_option maxRecDepth 100000 in
theorem k_Site_allows (N : Nat) {X : zX} (C : zB X prog_6_method_6_code 4 R_Site rm_Site_allows) {h0 : zH} {p : Int32 × zH} (E : zR X (some .boolean) rm_Site_allows h0 (some (.int p.1)) p.2) : ∀ (x0 : Nat) (x1 : Int32) (x2 : Int32) (h : zH), f_Site_allows N x0 x1 x2 h = some p → Zt X 4 0 0 0 [(0, .ref x0), (1, .int x1), (2, .int x2)] [] h := by
  intro x0 x1 x2 h hf
  unfold f_Site_allows at hf
  refine z_aload_n C 0 d_Site_allows_0 rfl rfl ?_
  refine z_getR C 2 5 rfl in_Site (by decide) w_109 rfl d_Site_allows_1 hf (fun v5 hf => ?_)
  refine z_iload_n C 1 d_Site_allows_4 rfl rfl ?_
  refine z_iald C d_Site_allows_5 hf (fun v6 hf => ?_)
  refine z_iconst C (v := (-1 : Int32)) d_Site_allows_6 (by decide) ?_
  refine z_ic_eq (tgt := 20) C d_Site_allows_7 (by decide) hf (fun hf => ?_) (fun hf => ?_)
  · refine z_sub [0, 1, 2] rfl ?_
    exact k_Site_allows_20 N C E _ _ _ _ hf
  · refine z_aload_n C 0 d_Site_allows_10 rfl rfl ?_
    refine z_getR C 2 5 rfl in_Site (by decide) w_109 rfl d_Site_allows_11 hf (fun v7 hf => ?_)
    refine z_iload_n C 1 d_Site_allows_14 rfl rfl ?_
    refine z_iald C d_Site_allows_15 hf (fun v8 hf => ?_)
    refine z_iload_n C 2 d_Site_allows_16 rfl rfl ?_
    refine z_ic_ne (tgt := 24) C d_Site_allows_17 (by decide) hf (fun hf => ?_) (fun hf => ?_)
    · refine z_iconst C (v := (0 : Int32)) d_Site_allows_24 (by decide) ?_
      refine z_sub [0, 1, 2] rfl ?_
      exact k_Site_allows_25 N C E _ _ _ _ _ hf
    · refine z_sub [0, 1, 2] rfl ?_
      exact k_Site_allows_20 N C E _ _ _ _ hf

theorem c_Site_allows (N : Nat) {l : Launch} {D : va_G} {T : List (ClassId × FieldType)} (hT : T.map (fun q => q.2) = ztl) {x0 : Nat} {x1 : Int32} {x2 : Int32} {h : zH} {p : Int32 × zH} (hf : f_Site_allows N x0 x1 x2 h = some p) : zM l y_Site_allows prog_6_method_6_code 4 (some .boolean) rm_Site_allows D T [.ref x0, .int x1, .int x2] h (some (.int p.1)) p.2 :=
  z_enter (by decide) hT (Nat.le_of_ble_eq_true rfl) (fun X el eD eT hin C E => k_Site_allows N C E x0 x1 x2 h hf)
/-! ===== LevelTables$Reach.widened(J)J ===== -/
abbrev y_Reach_widened : MethodName := ⟨R_Reach, "widened", "(J)J"⟩
theorem pd_Reach_widened : y_Reach_widened.cls ≠ "java/lang/invoke/MethodHandle" ∧ y_Reach_widened.cls ≠ "java/lang/invoke/VarHandle" ∧ (parseMethodDescriptor y_Reach_widened.desc).map (fun d => d.parameters.length) = some 1 := ⟨by decide +kernel, by decide +kernel, by decide +kernel⟩
abbrev rm_Reach_widened : Room := { frames := 0, cells := 0, slots := 0, locals := 0 }
def b_Reach_widened_5 (N : Nat) (rc5 : Nat → Int64 → Int64 → Int32 → zH → Option (Int64 × zH)) (x0 : Nat) (x1 : Int64) (x3 : Int64) (x5 : Int32) (h : zH) : Option (Int64 × zH) :=
  Option.bind (zgR h x0 4 0) fun (v1 : Nat) =>
  Option.bind (zgI h v1 2 8) fun (v2 : Int32) =>
  (if v2 < x5 then
    some (x3, h)
  else
    rc5 x0 x1 (x3 ||| ((z_sl x1 x5) ||| (z_usl x1 x5))) (x5 + (1 : Int32)) h)
def f_Reach_widened_5 (N : Nat) : Nat → Nat → Int64 → Int64 → Int32 → zH → Option (Int64 × zH)
  | 0 => fun _ _ _ _ _ => none
  | n + 1 => fun x0 x1 x3 x5 h => b_Reach_widened_5 N (f_Reach_widened_5 N n) x0 x1 x3 x5 h
def f_Reach_widened (N : Nat) (x0 : Nat) (x1 : Int64) (h : zH) : Option (Int64 × zH) :=
  f_Reach_widened_5 N N x0 x1 x1 (1 : Int32) h
theorem d_Reach_widened_0 : decode prog_4_method_6_code 0 = .ok (.lload_n (1), 1) := by decide +kernel
theorem d_Reach_widened_1 : decode prog_4_method_6_code 1 = .ok (.lstore_n (3), 1) := by decide +kernel
theorem d_Reach_widened_2 : decode prog_4_method_6_code 2 = .ok (.iconst (1), 1) := by decide +kernel
theorem d_Reach_widened_3 : decode prog_4_method_6_code 3 = .ok (.istore (5), 2) := by decide +kernel
theorem d_Reach_widened_5 : decode prog_4_method_6_code 5 = .ok (.iload (5), 2) := by decide +kernel
theorem d_Reach_widened_7 : decode prog_4_method_6_code 7 = .ok (.aload_n (0), 1) := by decide +kernel
theorem d_Reach_widened_8 : decode prog_4_method_6_code 8 = .ok (.getfield (9), 3) := by decide +kernel
theorem d_Reach_widened_11 : decode prog_4_method_6_code 11 = .ok (.getfield (69), 3) := by decide +kernel
theorem d_Reach_widened_14 : decode prog_4_method_6_code 14 = .ok (.if_icmp .gt (21), 3) := by decide +kernel
theorem d_Reach_widened_17 : decode prog_4_method_6_code 17 = .ok (.lload_n (3), 1) := by decide +kernel
theorem d_Reach_widened_18 : decode prog_4_method_6_code 18 = .ok (.lload_n (1), 1) := by decide +kernel
theorem d_Reach_widened_19 : decode prog_4_method_6_code 19 = .ok (.iload (5), 2) := by decide +kernel
theorem d_Reach_widened_21 : decode prog_4_method_6_code 21 = .ok (.lshl, 1) := by decide +kernel
theorem d_Reach_widened_22 : decode prog_4_method_6_code 22 = .ok (.lload_n (1), 1) := by decide +kernel
theorem d_Reach_widened_23 : decode prog_4_method_6_code 23 = .ok (.iload (5), 2) := by decide +kernel
theorem d_Reach_widened_25 : decode prog_4_method_6_code 25 = .ok (.lushr, 1) := by decide +kernel
theorem d_Reach_widened_26 : decode prog_4_method_6_code 26 = .ok (.lor, 1) := by decide +kernel
theorem d_Reach_widened_27 : decode prog_4_method_6_code 27 = .ok (.lor, 1) := by decide +kernel
theorem d_Reach_widened_28 : decode prog_4_method_6_code 28 = .ok (.lstore_n (3), 1) := by decide +kernel
theorem d_Reach_widened_29 : decode prog_4_method_6_code 29 = .ok (.iinc (5) (1), 3) := by decide +kernel
theorem d_Reach_widened_32 : decode prog_4_method_6_code 32 = .ok (.goto (-27), 3) := by decide +kernel
theorem d_Reach_widened_35 : decode prog_4_method_6_code 35 = .ok (.lload_n (3), 1) := by decide +kernel
theorem d_Reach_widened_36 : decode prog_4_method_6_code 36 = .ok (.lreturn, 1) := by decide +kernel
set_option maxHeartbeats 4000000 in
set_option maxRecDepth 100000 in
theorem k_Reach_widened_5 (N : Nat) {X : zX} (C : zB X prog_4_method_6_code 6 R_Reach rm_Reach_widened) {h0 : zH} {p : Int64 × zH} (E : zR X (some .long) rm_Reach_widened h0 (some (.long p.1)) p.2) : ∀ n : Nat, ∀ (x0 : Nat) (x1 : Int64) (x3 : Int64) (x5 : Int32) (h : zH), f_Reach_widened_5 N n x0 x1 x3 x5 h = some p → Zt X 6 0 0 5 [(0, .ref x0), (1, .long x1), (3, .long x3), (5, .int x5)] [] h := by
  intro n
  induction n with
  | zero => intro x0 x1 x3 x5 h hf; cases hf
  | succ n ih =>
  intro x0 x1 x3 x5 h hf
  have H5 := ih
  replace hf : b_Reach_widened_5 N (f_Reach_widened_5 N n) x0 x1 x3 x5 h = some p := hf
  unfold b_Reach_widened_5 at hf
  refine z_iload C 3 d_Reach_widened_5 rfl ?_
  refine z_aload_n C 0 d_Reach_widened_7 rfl rfl ?_
  refine z_getR C 4 0 rfl in_Reach (by decide) w_179 rfl d_Reach_widened_8 hf (fun v1 hf => ?_)
  refine z_getI C 2 8 rfl in_Site (by decide) w_116 rfl d_Reach_widened_11 hf (fun v2 hf => ?_)
  refine z_ic_gt (tgt := 35) C d_Reach_widened_14 (by decide) hf (fun hf => ?_) (fun hf => ?_)
  · refine z_lload_n C 2 d_Reach_widened_35 rfl rfl ?_
    exact z_lret C E (Nat.le_of_ble_eq_true rfl) (Nat.le_of_ble_eq_true rfl) d_Reach_widened_36 hf
  · refine z_lload_n C 2 d_Reach_widened_17 rfl rfl ?_
    refine z_lload_n C 1 d_Reach_widened_18 rfl rfl ?_
    refine z_iload C 3 d_Reach_widened_19 rfl ?_
    refine z_lshl C d_Reach_widened_21 ?_
    refine z_lload_n C 1 d_Reach_widened_22 rfl rfl ?_
    refine z_iload C 3 d_Reach_widened_23 rfl ?_
    refine z_lushr C d_Reach_widened_25 ?_
    refine z_lor C d_Reach_widened_26 ?_
    refine z_lor C d_Reach_widened_27 ?_
    refine z_lstore_n C (lv' := [(3, .long (x3 ||| ((z_sl x1 x5) ||| (z_usl x1 x5)))), (0, .ref x0), (1, .long x1), (5, .int x5)]) d_Reach_widened_28 rfl (by decide) rfl ?_
    refine z_iinc C (v := (x5 + (1 : Int32))) (lv' := [(5, .int (x5 + (1 : Int32))), (3, .long (x3 ||| ((z_sl x1 x5) ||| (z_usl x1 x5)))), (0, .ref x0), (1, .long x1)]) 3 d_Reach_widened_29 rfl (by rfl) (by decide) rfl ?_
    refine z_goto (tgt := 5) C d_Reach_widened_32 (by decide) ?_
    refine z_sub [2, 3, 1, 0] rfl ?_
    exact H5 _ _ _ _ _ hf

set_option maxHeartbeats 4000000 in
set_option maxRecDepth 100000 in
theorem k_Reach_widened (N : Nat) {X : zX} (C : zB X prog_4_method_6_code 6 R_Reach rm_Reach_widened) {h0 : zH} {p : Int64 × zH} (E : zR X (some .long) rm_Reach_widened h0 (some (.long p.1)) p.2) : ∀ (x0 : Nat) (x1 : Int64) (h : zH), f_Reach_widened N x0 x1 h = some p → Zt X 6 0 0 0 [(0, .ref x0), (1, .long x1)] [] h := by
  intro x0 x1 h hf
  unfold f_Reach_widened at hf
  refine z_lload_n C 1 d_Reach_widened_0 rfl rfl ?_
  refine z_lstore_n C (lv' := [(3, .long x1), (0, .ref x0), (1, .long x1)]) d_Reach_widened_1 rfl (by decide) rfl ?_
  refine z_iconst C (v := (1 : Int32)) d_Reach_widened_2 (by decide) ?_
  refine z_istore C (lv' := [(5, .int (1 : Int32)), (3, .long x1), (0, .ref x0), (1, .long x1)]) d_Reach_widened_3 (by decide) rfl ?_
  refine z_sub [2, 3, 1, 0] rfl ?_
  exact k_Reach_widened_5 N C E N _ _ _ _ _ hf

theorem c_Reach_widened (N : Nat) {l : Launch} {D : va_G} {T : List (ClassId × FieldType)} (hT : T.map (fun q => q.2) = ztl) {x0 : Nat} {x1 : Int64} {h : zH} {p : Int64 × zH} (hf : f_Reach_widened N x0 x1 h = some p) : zM l y_Reach_widened prog_4_method_6_code 6 (some .long) rm_Reach_widened D T [.ref x0, .long x1] h (some (.long p.1)) p.2 :=
  z_enter (by decide) hT (Nat.le_of_ble_eq_true rfl) (fun X el eD eT hin C E => k_Reach_widened N C E x0 x1 h hf)
/-! ===== LevelTables$Site.highestNear(I)I ===== -/
abbrev y_Site_highestNear : MethodName := ⟨R_Site, "highestNear", "(I)I"⟩
theorem pd_Site_highestNear : y_Site_highestNear.cls ≠ "java/lang/invoke/MethodHandle" ∧ y_Site_highestNear.cls ≠ "java/lang/invoke/VarHandle" ∧ (parseMethodDescriptor y_Site_highestNear.desc).map (fun d => d.parameters.length) = some 1 := ⟨by decide +kernel, by decide +kernel, by decide +kernel⟩
abbrev rm_Site_highestNear : Room := { frames := 1, cells := 0, slots := 0, locals := 21 }
def f_Site_highestNear (N : Nat) (x0 : Nat) (x1 : Int32) (h : zH) : Option (Int32 × zH) :=
  Option.bind (zgI h x0 2 1) fun (v1 : Int32) =>
  Option.bind (zgI h x0 2 7) fun (v2 : Int32) =>
  some ((zmin v1 (x1 + v2)), h)
theorem d_Site_highestNear_0 : decode prog_6_method_9_code 0 = .ok (.aload_n (0), 1) := by decide +kernel
theorem d_Site_highestNear_1 : decode prog_6_method_9_code 1 = .ok (.getfield (24), 3) := by decide +kernel
theorem d_Site_highestNear_4 : decode prog_6_method_9_code 4 = .ok (.iload_n (1), 1) := by decide +kernel
theorem d_Site_highestNear_5 : decode prog_6_method_9_code 5 = .ok (.aload_n (0), 1) := by decide +kernel
theorem d_Site_highestNear_6 : decode prog_6_method_9_code 6 = .ok (.getfield (9), 3) := by decide +kernel
theorem d_Site_highestNear_9 : decode prog_6_method_9_code 9 = .ok (.iadd, 1) := by decide +kernel
theorem d_Site_highestNear_10 : decode prog_6_method_9_code 10 = .ok (.invokestatic (62), 3) := by decide +kernel
theorem d_Site_highestNear_13 : decode prog_6_method_9_code 13 = .ok (.ireturn, 1) := by decide +kernel
set_option maxHeartbeats 4000000 in
set_option maxRecDepth 100000 in
theorem k_Site_highestNear (N : Nat) {X : zX} (C : zB X prog_6_method_9_code 2 R_Site rm_Site_highestNear) {h0 : zH} {p : Int32 × zH} (E : zR X (some .int) rm_Site_highestNear h0 (some (.int p.1)) p.2) : ∀ (x0 : Nat) (x1 : Int32) (h : zH), f_Site_highestNear N x0 x1 h = some p → Zt X 2 0 0 0 [(0, .ref x0), (1, .int x1)] [] h := by
  intro x0 x1 h hf
  unfold f_Site_highestNear at hf
  refine z_aload_n C 0 d_Site_highestNear_0 rfl rfl ?_
  refine z_getI C 2 1 rfl in_Site (by decide) w_99 rfl d_Site_highestNear_1 hf (fun v1 hf => ?_)
  refine z_iload_n C 1 d_Site_highestNear_4 rfl rfl ?_
  refine z_aload_n C 0 d_Site_highestNear_5 rfl rfl ?_
  refine z_getI C 2 7 rfl in_Site (by decide) w_113 rfl d_Site_highestNear_6 hf (fun v2 hf => ?_)
  refine z_iadd C d_Site_highestNear_9 ?_
  refine z_mmin C w_392 w_79 w_58 w_80 (Nat.le_of_ble_eq_true rfl) (Nat.le_of_ble_eq_true rfl) (Nat.le_of_ble_eq_true rfl) (Nat.le_of_ble_eq_true rfl) d_Site_highestNear_10 ?_
  exact z_iret C E (Nat.le_of_ble_eq_true rfl) (Nat.le_of_ble_eq_true rfl) d_Site_highestNear_13 hf

theorem c_Site_highestNear (N : Nat) {l : Launch} {D : va_G} {T : List (ClassId × FieldType)} (hT : T.map (fun q => q.2) = ztl) {x0 : Nat} {x1 : Int32} {h : zH} {p : Int32 × zH} (hf : f_Site_highestNear N x0 x1 h = some p) : zM l y_Site_highestNear prog_6_method_9_code 2 (some .int) rm_Site_highestNear D T [.ref x0, .int x1] h (some (.int p.1)) p.2 :=
  z_enter (by decide) hT (Nat.le_of_ble_eq_true rfl) (fun X el eD eT hin C E => k_Site_highestNear N C E x0 x1 h hf)
/-! ===== LevelTables$Site.lowestNear(I)I ===== -/
abbrev y_Site_lowestNear : MethodName := ⟨R_Site, "lowestNear", "(I)I"⟩
theorem pd_Site_lowestNear : y_Site_lowestNear.cls ≠ "java/lang/invoke/MethodHandle" ∧ y_Site_lowestNear.cls ≠ "java/lang/invoke/VarHandle" ∧ (parseMethodDescriptor y_Site_lowestNear.desc).map (fun d => d.parameters.length) = some 1 := ⟨by decide +kernel, by decide +kernel, by decide +kernel⟩
abbrev rm_Site_lowestNear : Room := { frames := 1, cells := 0, slots := 0, locals := 21 }
def f_Site_lowestNear (N : Nat) (x0 : Nat) (x1 : Int32) (h : zH) : Option (Int32 × zH) :=
  Option.bind (zgI h x0 2 7) fun (v1 : Int32) =>
  some ((zmax (0 : Int32) (x1 - v1)), h)
theorem d_Site_lowestNear_0 : decode prog_6_method_8_code 0 = .ok (.iconst (0), 1) := by decide +kernel
theorem d_Site_lowestNear_1 : decode prog_6_method_8_code 1 = .ok (.iload_n (1), 1) := by decide +kernel
theorem d_Site_lowestNear_2 : decode prog_6_method_8_code 2 = .ok (.aload_n (0), 1) := by decide +kernel
theorem d_Site_lowestNear_3 : decode prog_6_method_8_code 3 = .ok (.getfield (9), 3) := by decide +kernel
theorem d_Site_lowestNear_6 : decode prog_6_method_8_code 6 = .ok (.isub, 1) := by decide +kernel
theorem d_Site_lowestNear_7 : decode prog_6_method_8_code 7 = .ok (.invokestatic (58), 3) := by decide +kernel
theorem d_Site_lowestNear_10 : decode prog_6_method_8_code 10 = .ok (.ireturn, 1) := by decide +kernel
set_option maxHeartbeats 4000000 in
set_option maxRecDepth 100000 in
theorem k_Site_lowestNear (N : Nat) {X : zX} (C : zB X prog_6_method_8_code 2 R_Site rm_Site_lowestNear) {h0 : zH} {p : Int32 × zH} (E : zR X (some .int) rm_Site_lowestNear h0 (some (.int p.1)) p.2) : ∀ (x0 : Nat) (x1 : Int32) (h : zH), f_Site_lowestNear N x0 x1 h = some p → Zt X 2 0 0 0 [(0, .ref x0), (1, .int x1)] [] h := by
  intro x0 x1 h hf
  unfold f_Site_lowestNear at hf
  refine z_iconst C (v := (0 : Int32)) d_Site_lowestNear_0 (by decide) ?_
  refine z_iload_n C 1 d_Site_lowestNear_1 rfl rfl ?_
  refine z_aload_n C 0 d_Site_lowestNear_2 rfl rfl ?_
  refine z_getI C 2 7 rfl in_Site (by decide) w_113 rfl d_Site_lowestNear_3 hf (fun v1 hf => ?_)
  refine z_isub C d_Site_lowestNear_6 ?_
  refine z_mmax C w_397 w_82 w_58 w_83 (Nat.le_of_ble_eq_true rfl) (Nat.le_of_ble_eq_true rfl) (Nat.le_of_ble_eq_true rfl) (Nat.le_of_ble_eq_true rfl) d_Site_lowestNear_7 ?_
  exact z_iret C E (Nat.le_of_ble_eq_true rfl) (Nat.le_of_ble_eq_true rfl) d_Site_lowestNear_10 hf

theorem c_Site_lowestNear (N : Nat) {l : Launch} {D : va_G} {T : List (ClassId × FieldType)} (hT : T.map (fun q => q.2) = ztl) {x0 : Nat} {x1 : Int32} {h : zH} {p : Int32 × zH} (hf : f_Site_lowestNear N x0 x1 h = some p) : zM l y_Site_lowestNear prog_6_method_8_code 2 (some .int) rm_Site_lowestNear D T [.ref x0, .int x1] h (some (.int p.1)) p.2 :=
  z_enter (by decide) hT (Nat.le_of_ble_eq_true rfl) (fun X el eD eT hin C E => k_Site_lowestNear N C E x0 x1 h hf)
/-! ===== LevelTables$Site.slopeFits(I)Z ===== -/
abbrev y_Site_slopeFits : MethodName := ⟨R_Site, "slopeFits", "(I)Z"⟩
theorem pd_Site_slopeFits : y_Site_slopeFits.cls ≠ "java/lang/invoke/MethodHandle" ∧ y_Site_slopeFits.cls ≠ "java/lang/invoke/VarHandle" ∧ (parseMethodDescriptor y_Site_slopeFits.desc).map (fun d => d.parameters.length) = some 1 := ⟨by decide +kernel, by decide +kernel, by decide +kernel⟩
abbrev rm_Site_slopeFits : Room := { frames := 1, cells := 0, slots := 0, locals := 21 }
def f_Site_slopeFits (N : Nat) (x0 : Nat) (x1 : Int32) (h : zH) : Option (Int32 × zH) :=
  Option.bind (zgI h x0 2 9) fun (v1 : Int32) =>
  (if (zabs x1) < v1 then
    zrb (0 : Int32) h
  else
    Option.bind (zgI h x0 2 7) fun (v2 : Int32) =>
    (if v2 < (zabs x1) then
      zrb (0 : Int32) h
    else
      zrb (1 : Int32) h))
theorem d_Site_slopeFits_0 : decode prog_6_method_7_code 0 = .ok (.iload_n (1), 1) := by decide +kernel
theorem d_Site_slopeFits_1 : decode prog_6_method_7_code 1 = .ok (.invokestatic (52), 3) := by decide +kernel
theorem d_Site_slopeFits_4 : decode prog_6_method_7_code 4 = .ok (.istore_n (2), 1) := by decide +kernel
theorem d_Site_slopeFits_5 : decode prog_6_method_7_code 5 = .ok (.iload_n (2), 1) := by decide +kernel
theorem d_Site_slopeFits_6 : decode prog_6_method_7_code 6 = .ok (.aload_n (0), 1) := by decide +kernel
theorem d_Site_slopeFits_7 : decode prog_6_method_7_code 7 = .ok (.getfield (18), 3) := by decide +kernel
theorem d_Site_slopeFits_10 : decode prog_6_method_7_code 10 = .ok (.if_icmp .lt (15), 3) := by decide +kernel
theorem d_Site_slopeFits_13 : decode prog_6_method_7_code 13 = .ok (.iload_n (2), 1) := by decide +kernel
theorem d_Site_slopeFits_14 : decode prog_6_method_7_code 14 = .ok (.aload_n (0), 1) := by decide +kernel
theorem d_Site_slopeFits_15 : decode prog_6_method_7_code 15 = .ok (.getfield (9), 3) := by decide +kernel
theorem d_Site_slopeFits_18 : decode prog_6_method_7_code 18 = .ok (.if_icmp .gt (7), 3) := by decide +kernel
theorem d_Site_slopeFits_21 : decode prog_6_method_7_code 21 = .ok (.iconst (1), 1) := by decide +kernel
theorem d_Site_slopeFits_22 : decode prog_6_method_7_code 22 = .ok (.goto (4), 3) := by decide +kernel
theorem d_Site_slopeFits_25 : decode prog_6_method_7_code 25 = .ok (.iconst (0), 1) := by decide +kernel
theorem d_Site_slopeFits_26 : decode prog_6_method_7_code 26 = .ok (.ireturn, 1) := by decide +kernel
set_option maxHeartbeats 4000000 in
set_option maxRecDepth 100000 in
theorem k_Site_slopeFits (N : Nat) {X : zX} (C : zB X prog_6_method_7_code 3 R_Site rm_Site_slopeFits) {h0 : zH} {p : Int32 × zH} (E : zR X (some .boolean) rm_Site_slopeFits h0 (some (.int p.1)) p.2) : ∀ (x0 : Nat) (x1 : Int32) (h : zH), f_Site_slopeFits N x0 x1 h = some p → Zt X 3 0 0 0 [(0, .ref x0), (1, .int x1)] [] h := by
  intro x0 x1 h hf
  unfold f_Site_slopeFits at hf
  refine z_iload_n C 1 d_Site_slopeFits_0 rfl rfl ?_
  refine z_mabs C w_406 w_407 w_58 w_408 (Nat.le_of_ble_eq_true rfl) (Nat.le_of_ble_eq_true rfl) (Nat.le_of_ble_eq_true rfl) (Nat.le_of_ble_eq_true rfl) d_Site_slopeFits_1 ?_
  refine z_istore_n C (lv' := [(2, .int (zabs x1)), (0, .ref x0), (1, .int x1)]) d_Site_slopeFits_4 rfl (by decide) rfl ?_
  refine z_iload_n C 0 d_Site_slopeFits_5 rfl rfl ?_
  refine z_aload_n C 1 d_Site_slopeFits_6 rfl rfl ?_
  refine z_getI C 2 9 rfl in_Site (by decide) w_119 rfl d_Site_slopeFits_7 hf (fun v1 hf => ?_)
  refine z_ic_lt (tgt := 25) C d_Site_slopeFits_10 (by decide) hf (fun hf => ?_) (fun hf => ?_)
  · refine z_iconst C (v := (0 : Int32)) d_Site_slopeFits_25 (by decide) ?_
    exact z_zret C E (Nat.le_of_ble_eq_true rfl) (Nat.le_of_ble_eq_true rfl) d_Site_slopeFits_26 hf
  · refine z_iload_n C 0 d_Site_slopeFits_13 rfl rfl ?_
    refine z_aload_n C 1 d_Site_slopeFits_14 rfl rfl ?_
    refine z_getI C 2 7 rfl in_Site (by decide) w_113 rfl d_Site_slopeFits_15 hf (fun v2 hf => ?_)
    refine z_ic_gt (tgt := 25) C d_Site_slopeFits_18 (by decide) hf (fun hf => ?_) (fun hf => ?_)
    · refine z_iconst C (v := (0 : Int32)) d_Site_slopeFits_25 (by decide) ?_
      exact z_zret C E (Nat.le_of_ble_eq_true rfl) (Nat.le_of_ble_eq_true rfl) d_Site_slopeFits_26 hf
    · refine z_iconst C (v := (1 : Int32)) d_Site_slopeFits_21 (by decide) ?_
      refine z_goto (tgt := 26) C d_Site_slopeFits_22 (by decide) ?_
      exact z_zret C E (Nat.le_of_ble_eq_true rfl) (Nat.le_of_ble_eq_true rfl) d_Site_slopeFits_26 hf

theorem c_Site_slopeFits (N : Nat) {l : Launch} {D : va_G} {T : List (ClassId × FieldType)} (hT : T.map (fun q => q.2) = ztl) {x0 : Nat} {x1 : Int32} {h : zH} {p : Int32 × zH} (hf : f_Site_slopeFits N x0 x1 h = some p) : zM l y_Site_slopeFits prog_6_method_7_code 3 (some .boolean) rm_Site_slopeFits D T [.ref x0, .int x1] h (some (.int p.1)) p.2 :=
  z_enter (by decide) hT (Nat.le_of_ble_eq_true rfl) (fun X el eD eT hin C E => k_Site_slopeFits N C E x0 x1 h hf)
/-! ===== LevelTables$Search.<init>(LLevelTables$Site;LLevelTables$Spans;I)V ===== -/
abbrev y_Search_init : MethodName := ⟨R_Search, "<init>", "(LLevelTables$Site;LLevelTables$Spans;I)V"⟩
theorem pd_Search_init : y_Search_init.cls ≠ "java/lang/invoke/MethodHandle" ∧ y_Search_init.cls ≠ "java/lang/invoke/VarHandle" ∧ (parseMethodDescriptor y_Search_init.desc).map (fun d => d.parameters.length) = some 3 := ⟨by decide +kernel, by decide +kernel, by decide +kernel⟩
abbrev rm_Search_init : Room := { frames := 1, cells := 28, slots := 94075, locals := 20 }
def f_Search_init_100 (N : Nat) (x0 : Nat) (x3 : Int32) (s0 : Nat) (s1 : Int32) (h : zH) : Option (Unit × zH) :=
  Option.bind (zgI h x0 8 2) fun (v1 : Int32) =>
  Option.bind (zgI h x0 8 2) fun (v2 : Int32) =>
  Option.bind (znG h 25 3750 s1 ((v1 * v2) * x3)) fun (q3 : Nat × zH) =>
  Option.bind (zp q3.2 s0 8 7 (.ref q3.1)) fun (h4 : zH) =>
  Option.bind (zgI h4 x0 8 2) fun (v5 : Int32) =>
  Option.bind (znJ h4 1 150 (v5 * x3)) fun (q6 : Nat × zH) =>
  Option.bind (zp q6.2 x0 8 8 (.ref q6.1)) fun (h7 : zH) =>
  Option.bind (znJ h7 1 150 x3) fun (q8 : Nat × zH) =>
  Option.bind (zp q8.2 x0 8 9 (.ref q8.1)) fun (h9 : zH) =>
  some ((), h9)
def f_Search_init_79 (N : Nat) (x0 : Nat) (x1 : Nat) (x3 : Int32) (s0 : Nat) (s1 : Int64) (h : zH) : Option (Unit × zH) :=
  Option.bind (zp h s0 8 6 (.long s1)) fun (h10 : zH) =>
  Option.bind (zgI h10 x0 8 4) fun (v11 : Int32) =>
  (if v11 = 0 then
    f_Search_init_100 N x0 x3 x0 (3 : Int32) h10
  else
    Option.bind (zgI h10 x1 2 0) fun (v12 : Int32) =>
    f_Search_init_100 N x0 x3 x0 (v12 + (1 : Int32)) h10)
def f_Search_init_63 (N : Nat) (x0 : Nat) (x1 : Nat) (x3 : Int32) (s0 : Nat) (s1 : Int64) (h : zH) : Option (Unit × zH) :=
  Option.bind (zp h s0 8 5 (.long s1)) fun (h13 : zH) =>
  Option.bind (zgI h13 x0 8 4) fun (v14 : Int32) =>
  (if v14 = 0 then
    f_Search_init_79 N x0 x1 x3 x0 (0 : Int64) h13
  else
    f_Search_init_79 N x0 x1 x3 x0 (1 : Int64) h13)
def f_Search_init_45 (N : Nat) (x0 : Nat) (x1 : Nat) (x3 : Int32) (s0 : Nat) (s1 : Int32) (h : zH) : Option (Unit × zH) :=
  Option.bind (zpZ h s0 8 4 s1) fun (h15 : zH) =>
  Option.bind (zgI h15 x0 8 4) fun (v16 : Int32) =>
  (if v16 = 0 then
    f_Search_init_63 N x0 x1 x3 x0 (1 : Int64) h15
  else
    f_Search_init_63 N x0 x1 x3 x0 (1024 : Int64) h15)
def f_Search_init (N : Nat) (x0 : Nat) (x1 : Nat) (x2 : Nat) (x3 : Int32) (h : zH) : Option (Unit × zH) :=
  Option.bind (zp h x0 8 10 (.int (0 : Int32))) fun (h17 : zH) =>
  Option.bind (zp h17 x0 8 0 (.ref x1)) fun (h18 : zH) =>
  Option.bind (zp h18 x0 8 1 (.ref x2)) fun (h19 : zH) =>
  Option.bind (zp h19 x0 8 3 (.int x3)) fun (h20 : zH) =>
  Option.bind (zgI h20 x1 2 1) fun (v21 : Int32) =>
  Option.bind (zp h20 x0 8 2 (.int (v21 + (1 : Int32)))) fun (h22 : zH) =>
  (if x3 = (1 : Int32) then
    f_Search_init_45 N x0 x1 x3 x0 (1 : Int32) h22
  else
    f_Search_init_45 N x0 x1 x3 x0 (0 : Int32) h22)
theorem d_Search_init_0 : decode prog_5_method_1_code 0 = .ok (.aload_n (0), 1) := by decide +kernel
theorem d_Search_init_1 : decode prog_5_method_1_code 1 = .ok (.invokespecial (3), 3) := by decide +kernel
theorem d_Search_init_4 : decode prog_5_method_1_code 4 = .ok (.aload_n (0), 1) := by decide +kernel
theorem d_Search_init_5 : decode prog_5_method_1_code 5 = .ok (.iconst (0), 1) := by decide +kernel
theorem d_Search_init_6 : decode prog_5_method_1_code 6 = .ok (.putfield (9), 3) := by decide +kernel
theorem d_Search_init_9 : decode prog_5_method_1_code 9 = .ok (.aload_n (0), 1) := by decide +kernel
theorem d_Search_init_10 : decode prog_5_method_1_code 10 = .ok (.aload_n (1), 1) := by decide +kernel
theorem d_Search_init_11 : decode prog_5_method_1_code 11 = .ok (.putfield (15), 3) := by decide +kernel
theorem d_Search_init_14 : decode prog_5_method_1_code 14 = .ok (.aload_n (0), 1) := by decide +kernel
theorem d_Search_init_15 : decode prog_5_method_1_code 15 = .ok (.aload_n (2), 1) := by decide +kernel
theorem d_Search_init_16 : decode prog_5_method_1_code 16 = .ok (.putfield (19), 3) := by decide +kernel
theorem d_Search_init_19 : decode prog_5_method_1_code 19 = .ok (.aload_n (0), 1) := by decide +kernel
theorem d_Search_init_20 : decode prog_5_method_1_code 20 = .ok (.iload_n (3), 1) := by decide +kernel
theorem d_Search_init_21 : decode prog_5_method_1_code 21 = .ok (.putfield (23), 3) := by decide +kernel
theorem d_Search_init_24 : decode prog_5_method_1_code 24 = .ok (.aload_n (0), 1) := by decide +kernel
theorem d_Search_init_25 : decode prog_5_method_1_code 25 = .ok (.aload_n (1), 1) := by decide +kernel
theorem d_Search_init_26 : decode prog_5_method_1_code 26 = .ok (.getfield (26), 3) := by decide +kernel
theorem d_Search_init_29 : decode prog_5_method_1_code 29 = .ok (.iconst (1), 1) := by decide +kernel
theorem d_Search_init_30 : decode prog_5_method_1_code 30 = .ok (.iadd, 1) := by decide +kernel
theorem d_Search_init_31 : decode prog_5_method_1_code 31 = .ok (.putfield (31), 3) := by decide +kernel
theorem d_Search_init_34 : decode prog_5_method_1_code 34 = .ok (.aload_n (0), 1) := by decide +kernel
theorem d_Search_init_35 : decode prog_5_method_1_code 35 = .ok (.iload_n (3), 1) := by decide +kernel
theorem d_Search_init_36 : decode prog_5_method_1_code 36 = .ok (.iconst (1), 1) := by decide +kernel
theorem d_Search_init_37 : decode prog_5_method_1_code 37 = .ok (.if_icmp .ne (7), 3) := by decide +kernel
theorem d_Search_init_40 : decode prog_5_method_1_code 40 = .ok (.iconst (1), 1) := by decide +kernel
theorem d_Search_init_41 : decode prog_5_method_1_code 41 = .ok (.goto (4), 3) := by decide +kernel
theorem d_Search_init_44 : decode prog_5_method_1_code 44 = .ok (.iconst (0), 1) := by decide +kernel
theorem d_Search_init_45 : decode prog_5_method_1_code 45 = .ok (.putfield (34), 3) := by decide +kernel
theorem d_Search_init_48 : decode prog_5_method_1_code 48 = .ok (.aload_n (0), 1) := by decide +kernel
theorem d_Search_init_49 : decode prog_5_method_1_code 49 = .ok (.aload_n (0), 1) := by decide +kernel
theorem d_Search_init_50 : decode prog_5_method_1_code 50 = .ok (.getfield (34), 3) := by decide +kernel
theorem d_Search_init_53 : decode prog_5_method_1_code 53 = .ok (.ifCond .eq (9), 3) := by decide +kernel
theorem d_Search_init_56 : decode prog_5_method_1_code 56 = .ok (.ldc2_w (38), 3) := by decide +kernel
theorem d_Search_init_59 : decode prog_5_method_1_code 59 = .ok (.goto (4), 3) := by decide +kernel
theorem d_Search_init_62 : decode prog_5_method_1_code 62 = .ok (.lconst (1), 1) := by decide +kernel
theorem d_Search_init_63 : decode prog_5_method_1_code 63 = .ok (.putfield (40), 3) := by decide +kernel
theorem d_Search_init_66 : decode prog_5_method_1_code 66 = .ok (.aload_n (0), 1) := by decide +kernel
theorem d_Search_init_67 : decode prog_5_method_1_code 67 = .ok (.aload_n (0), 1) := by decide +kernel
theorem d_Search_init_68 : decode prog_5_method_1_code 68 = .ok (.getfield (34), 3) := by decide +kernel
theorem d_Search_init_71 : decode prog_5_method_1_code 71 = .ok (.ifCond .eq (7), 3) := by decide +kernel
theorem d_Search_init_74 : decode prog_5_method_1_code 74 = .ok (.lconst (1), 1) := by decide +kernel
theorem d_Search_init_75 : decode prog_5_method_1_code 75 = .ok (.goto (4), 3) := by decide +kernel
theorem d_Search_init_78 : decode prog_5_method_1_code 78 = .ok (.lconst (0), 1) := by decide +kernel
theorem d_Search_init_79 : decode prog_5_method_1_code 79 = .ok (.putfield (44), 3) := by decide +kernel
theorem d_Search_init_82 : decode prog_5_method_1_code 82 = .ok (.aload_n (0), 1) := by decide +kernel
theorem d_Search_init_83 : decode prog_5_method_1_code 83 = .ok (.aload_n (0), 1) := by decide +kernel
theorem d_Search_init_84 : decode prog_5_method_1_code 84 = .ok (.getfield (34), 3) := by decide +kernel
theorem d_Search_init_87 : decode prog_5_method_1_code 87 = .ok (.ifCond .eq (12), 3) := by decide +kernel
theorem d_Search_init_90 : decode prog_5_method_1_code 90 = .ok (.aload_n (1), 1) := by decide +kernel
theorem d_Search_init_91 : decode prog_5_method_1_code 91 = .ok (.getfield (47), 3) := by decide +kernel
theorem d_Search_init_94 : decode prog_5_method_1_code 94 = .ok (.iconst (1), 1) := by decide +kernel
theorem d_Search_init_95 : decode prog_5_method_1_code 95 = .ok (.iadd, 1) := by decide +kernel
theorem d_Search_init_96 : decode prog_5_method_1_code 96 = .ok (.goto (4), 3) := by decide +kernel
theorem d_Search_init_99 : decode prog_5_method_1_code 99 = .ok (.iconst (3), 1) := by decide +kernel
theorem d_Search_init_100 : decode prog_5_method_1_code 100 = .ok (.aload_n (0), 1) := by decide +kernel
theorem d_Search_init_101 : decode prog_5_method_1_code 101 = .ok (.getfield (31), 3) := by decide +kernel
theorem d_Search_init_104 : decode prog_5_method_1_code 104 = .ok (.aload_n (0), 1) := by decide +kernel
theorem d_Search_init_105 : decode prog_5_method_1_code 105 = .ok (.getfield (31), 3) := by decide +kernel
theorem d_Search_init_108 : decode prog_5_method_1_code 108 = .ok (.imul, 1) := by decide +kernel
theorem d_Search_init_109 : decode prog_5_method_1_code 109 = .ok (.iload_n (3), 1) := by decide +kernel
theorem d_Search_init_110 : decode prog_5_method_1_code 110 = .ok (.imul, 1) := by decide +kernel
theorem d_Search_init_111 : decode prog_5_method_1_code 111 = .ok (.multianewarray (50) (2), 4) := by decide +kernel
theorem d_Search_init_115 : decode prog_5_method_1_code 115 = .ok (.putfield (52), 3) := by decide +kernel
theorem d_Search_init_118 : decode prog_5_method_1_code 118 = .ok (.aload_n (0), 1) := by decide +kernel
theorem d_Search_init_119 : decode prog_5_method_1_code 119 = .ok (.aload_n (0), 1) := by decide +kernel
theorem d_Search_init_120 : decode prog_5_method_1_code 120 = .ok (.getfield (31), 3) := by decide +kernel
theorem d_Search_init_123 : decode prog_5_method_1_code 123 = .ok (.iload_n (3), 1) := by decide +kernel
theorem d_Search_init_124 : decode prog_5_method_1_code 124 = .ok (.imul, 1) := by decide +kernel
theorem d_Search_init_125 : decode prog_5_method_1_code 125 = .ok (.newarray .long, 2) := by decide +kernel
theorem d_Search_init_127 : decode prog_5_method_1_code 127 = .ok (.putfield (55), 3) := by decide +kernel
theorem d_Search_init_130 : decode prog_5_method_1_code 130 = .ok (.aload_n (0), 1) := by decide +kernel
theorem d_Search_init_131 : decode prog_5_method_1_code 131 = .ok (.iload_n (3), 1) := by decide +kernel
theorem d_Search_init_132 : decode prog_5_method_1_code 132 = .ok (.newarray .long, 2) := by decide +kernel
theorem d_Search_init_134 : decode prog_5_method_1_code 134 = .ok (.putfield (59), 3) := by decide +kernel
theorem d_Search_init_137 : decode prog_5_method_1_code 137 = .ok (.return_, 1) := by decide +kernel
set_option maxHeartbeats 4000000 in
set_option maxRecDepth 100000 in
theorem k_Search_init_100 (N : Nat) {X : zX} (C : zB X prog_5_method_1_code 4 R_Search rm_Search_init) {h0 : zH} {p : Unit × zH} (E : zR X none rm_Search_init h0 none p.2) (hin : (x_t X).name = "<init>") : ∀ (x0 : Nat) (x3 : Int32) (s0 : Nat) (s1 : Int32) (h : zH), f_Search_init_100 N x0 x3 s0 s1 h = some p → Zt X 4 0 0 100 [(0, .ref x0), (3, .int x3)] [.int s1, .ref s0] h := by
  intro x0 x3 s0 s1 h hf
  unfold f_Search_init_100 at hf
  refine z_aload_n C 0 d_Search_init_100 rfl rfl ?_
  refine z_getI C 8 2 rfl in_Search (by decide) w_424 rfl d_Search_init_101 hf (fun v1 hf => ?_)
  refine z_aload_n C 0 d_Search_init_104 rfl rfl ?_
  refine z_getI C 8 2 rfl in_Search (by decide) w_424 rfl d_Search_init_105 hf (fun v2 hf => ?_)
  refine z_imul C d_Search_init_108 ?_
  refine z_iload_n C 1 d_Search_init_109 rfl rfl ?_
  refine z_imul C d_Search_init_110 ?_
  refine z_newG C 25 3750 w_420 (Nat.le_of_ble_eq_true rfl) (Nat.le_of_ble_eq_true rfl) (Nat.le_of_ble_eq_true rfl) (Nat.le_of_ble_eq_true rfl) d_Search_init_111 hf (fun q3 hf => ?_)
  refine z_put C 8 7 ty_Search rfl in_Search tyok_Search nm_Search (by decide) w_429 rfl (Or.inr ⟨rfl, hin, rfl⟩) rfl rfl rfl d_Search_init_115 hf (fun h4 hf => ?_)
  refine z_aload_n C 0 d_Search_init_118 rfl rfl ?_
  refine z_aload_n C 0 d_Search_init_119 rfl rfl ?_
  refine z_getI C 8 2 rfl in_Search (by decide) w_424 rfl d_Search_init_120 hf (fun v5 hf => ?_)
  refine z_iload_n C 1 d_Search_init_123 rfl rfl ?_
  refine z_imul C d_Search_init_124 ?_
  refine z_newJ C 150 w_172 (Nat.le_of_ble_eq_true rfl) (Nat.le_of_ble_eq_true rfl) (Nat.le_of_ble_eq_true rfl) d_Search_init_125 hf (fun q6 hf => ?_)
  refine z_put C 8 8 ty_Search rfl in_Search tyok_Search nm_Search (by decide) w_430 rfl (Or.inr ⟨rfl, hin, rfl⟩) rfl rfl rfl d_Search_init_127 hf (fun h7 hf => ?_)
  refine z_aload_n C 0 d_Search_init_130 rfl rfl ?_
  refine z_iload_n C 1 d_Search_init_131 rfl rfl ?_
  refine z_newJ C 150 w_172 (Nat.le_of_ble_eq_true rfl) (Nat.le_of_ble_eq_true rfl) (Nat.le_of_ble_eq_true rfl) d_Search_init_132 hf (fun q8 hf => ?_)
  refine z_put C 8 9 ty_Search rfl in_Search tyok_Search nm_Search (by decide) w_431 rfl (Or.inr ⟨rfl, hin, rfl⟩) rfl rfl rfl d_Search_init_134 hf (fun h9 hf => ?_)
  exact z_vret C E (Nat.le_of_ble_eq_true rfl) (Nat.le_of_ble_eq_true rfl) d_Search_init_137 hf

set_option maxHeartbeats 4000000 in
set_option maxRecDepth 100000 in
theorem k_Search_init_79 (N : Nat) {X : zX} (C : zB X prog_5_method_1_code 4 R_Search rm_Search_init) {h0 : zH} {p : Unit × zH} (E : zR X none rm_Search_init h0 none p.2) (hin : (x_t X).name = "<init>") : ∀ (x0 : Nat) (x1 : Nat) (x3 : Int32) (s0 : Nat) (s1 : Int64) (h : zH), f_Search_init_79 N x0 x1 x3 s0 s1 h = some p → Zt X 4 0 0 79 [(0, .ref x0), (1, .ref x1), (3, .int x3)] [.long s1, .ref s0] h := by
  intro x0 x1 x3 s0 s1 h hf
  unfold f_Search_init_79 at hf
  refine z_put C 8 6 ty_Search rfl in_Search tyok_Search nm_Search (by decide) w_428 rfl (Or.inr ⟨rfl, hin, rfl⟩) rfl rfl rfl d_Search_init_79 hf (fun h10 hf => ?_)
  refine z_aload_n C 0 d_Search_init_82 rfl rfl ?_
  refine z_aload_n C 0 d_Search_init_83 rfl rfl ?_
  refine z_getI C 8 4 rfl in_Search (by decide) w_426 rfl d_Search_init_84 hf (fun v11 hf => ?_)
  refine z_if_eq (tgt := 99) C d_Search_init_87 (by decide) hf (fun hf => ?_) (fun hf => ?_)
  · refine z_iconst C (v := (3 : Int32)) d_Search_init_99 (by decide) ?_
    refine z_sub [0, 2] rfl ?_
    exact k_Search_init_100 N C E hin _ _ _ _ _ hf
  · refine z_aload_n C 1 d_Search_init_90 rfl rfl ?_
    refine z_getI C 2 0 rfl in_Site (by decide) w_95 rfl d_Search_init_91 hf (fun v12 hf => ?_)
    refine z_iconst C (v := (1 : Int32)) d_Search_init_94 (by decide) ?_
    refine z_iadd C d_Search_init_95 ?_
    refine z_goto (tgt := 100) C d_Search_init_96 (by decide) ?_
    refine z_sub [0, 2] rfl ?_
    exact k_Search_init_100 N C E hin _ _ _ _ _ hf

set_option maxHeartbeats 4000000 in
set_option maxRecDepth 100000 in
theorem k_Search_init_63 (N : Nat) {X : zX} (C : zB X prog_5_method_1_code 4 R_Search rm_Search_init) {h0 : zH} {p : Unit × zH} (E : zR X none rm_Search_init h0 none p.2) (hin : (x_t X).name = "<init>") : ∀ (x0 : Nat) (x1 : Nat) (x3 : Int32) (s0 : Nat) (s1 : Int64) (h : zH), f_Search_init_63 N x0 x1 x3 s0 s1 h = some p → Zt X 4 0 0 63 [(0, .ref x0), (1, .ref x1), (3, .int x3)] [.long s1, .ref s0] h := by
  intro x0 x1 x3 s0 s1 h hf
  unfold f_Search_init_63 at hf
  refine z_put C 8 5 ty_Search rfl in_Search tyok_Search nm_Search (by decide) w_427 rfl (Or.inr ⟨rfl, hin, rfl⟩) rfl rfl rfl d_Search_init_63 hf (fun h13 hf => ?_)
  refine z_aload_n C 0 d_Search_init_66 rfl rfl ?_
  refine z_aload_n C 0 d_Search_init_67 rfl rfl ?_
  refine z_getI C 8 4 rfl in_Search (by decide) w_426 rfl d_Search_init_68 hf (fun v14 hf => ?_)
  refine z_if_eq (tgt := 78) C d_Search_init_71 (by decide) hf (fun hf => ?_) (fun hf => ?_)
  · refine z_lconst C (v := (0 : Int64)) d_Search_init_78 (by decide) ?_
    refine z_sub [0, 1, 2] rfl ?_
    exact k_Search_init_79 N C E hin _ _ _ _ _ _ hf
  · refine z_lconst C (v := (1 : Int64)) d_Search_init_74 (by decide) ?_
    refine z_goto (tgt := 79) C d_Search_init_75 (by decide) ?_
    refine z_sub [0, 1, 2] rfl ?_
    exact k_Search_init_79 N C E hin _ _ _ _ _ _ hf

set_option maxHeartbeats 4000000 in
set_option maxRecDepth 100000 in
theorem k_Search_init_45 (N : Nat) {X : zX} (C : zB X prog_5_method_1_code 4 R_Search rm_Search_init) {h0 : zH} {p : Unit × zH} (E : zR X none rm_Search_init h0 none p.2) (hin : (x_t X).name = "<init>") : ∀ (x0 : Nat) (x1 : Nat) (x3 : Int32) (s0 : Nat) (s1 : Int32) (h : zH), f_Search_init_45 N x0 x1 x3 s0 s1 h = some p → Zt X 4 0 0 45 [(0, .ref x0), (1, .ref x1), (3, .int x3)] [.int s1, .ref s0] h := by
  intro x0 x1 x3 s0 s1 h hf
  unfold f_Search_init_45 at hf
  refine z_putZ C 8 4 ty_Search rfl in_Search tyok_Search nm_Search (by decide) w_426 rfl (Or.inr ⟨rfl, hin, rfl⟩) rfl d_Search_init_45 hf (fun h15 hf => ?_)
  refine z_aload_n C 0 d_Search_init_48 rfl rfl ?_
  refine z_aload_n C 0 d_Search_init_49 rfl rfl ?_
  refine z_getI C 8 4 rfl in_Search (by decide) w_426 rfl d_Search_init_50 hf (fun v16 hf => ?_)
  refine z_if_eq (tgt := 62) C d_Search_init_53 (by decide) hf (fun hf => ?_) (fun hf => ?_)
  · refine z_lconst C (v := (1 : Int64)) d_Search_init_62 (by decide) ?_
    refine z_sub [0, 1, 2] rfl ?_
    exact k_Search_init_63 N C E hin _ _ _ _ _ _ hf
  · refine z_ldc2 C d_Search_init_56 w_419 ?_
    refine z_goto (tgt := 63) C d_Search_init_59 (by decide) ?_
    refine z_sub [0, 1, 2] rfl ?_
    exact k_Search_init_63 N C E hin _ _ _ _ _ _ hf

set_option maxHeartbeats 4000000 in
set_option maxRecDepth 100000 in
theorem k_Search_init (N : Nat) {X : zX} (C : zB X prog_5_method_1_code 4 R_Search rm_Search_init) {h0 : zH} {p : Unit × zH} (E : zR X none rm_Search_init h0 none p.2) (hin : (x_t X).name = "<init>") : ∀ (x0 : Nat) (x1 : Nat) (x2 : Nat) (x3 : Int32) (h : zH), f_Search_init N x0 x1 x2 x3 h = some p → Zt X 4 0 0 0 [(0, .ref x0), (1, .ref x1), (2, .ref x2), (3, .int x3)] [] h := by
  intro x0 x1 x2 x3 h hf
  unfold f_Search_init at hf
  refine z_aload_n C 0 d_Search_init_0 rfl rfl ?_
  refine z_objInit C w_418 w_76 w_77 (Nat.le_of_ble_eq_true rfl) (Nat.le_of_ble_eq_true rfl) d_Search_init_1 ?_
  refine z_aload_n C 0 d_Search_init_4 rfl rfl ?_
  refine z_iconst C (v := (0 : Int32)) d_Search_init_5 (by decide) ?_
  refine z_put C 8 10 ty_Search rfl in_Search tyok_Search nm_Search (by decide) w_432 rfl (Or.inl rfl) rfl rfl rfl d_Search_init_6 hf (fun h17 hf => ?_)
  refine z_aload_n C 0 d_Search_init_9 rfl rfl ?_
  refine z_aload_n C 1 d_Search_init_10 rfl rfl ?_
  refine z_put C 8 0 ty_Search rfl in_Search tyok_Search nm_Search (by decide) w_422 rfl (Or.inr ⟨rfl, hin, rfl⟩) rfl rfl rfl d_Search_init_11 hf (fun h18 hf => ?_)
  refine z_aload_n C 0 d_Search_init_14 rfl rfl ?_
  refine z_aload_n C 2 d_Search_init_15 rfl rfl ?_
  refine z_put C 8 1 ty_Search rfl in_Search tyok_Search nm_Search (by decide) w_423 rfl (Or.inr ⟨rfl, hin, rfl⟩) rfl rfl rfl d_Search_init_16 hf (fun h19 hf => ?_)
  refine z_aload_n C 0 d_Search_init_19 rfl rfl ?_
  refine z_iload_n C 3 d_Search_init_20 rfl rfl ?_
  refine z_put C 8 3 ty_Search rfl in_Search tyok_Search nm_Search (by decide) w_425 rfl (Or.inr ⟨rfl, hin, rfl⟩) rfl rfl rfl d_Search_init_21 hf (fun h20 hf => ?_)
  refine z_aload_n C 0 d_Search_init_24 rfl rfl ?_
  refine z_aload_n C 1 d_Search_init_25 rfl rfl ?_
  refine z_getI C 2 1 rfl in_Site (by decide) w_100 rfl d_Search_init_26 hf (fun v21 hf => ?_)
  refine z_iconst C (v := (1 : Int32)) d_Search_init_29 (by decide) ?_
  refine z_iadd C d_Search_init_30 ?_
  refine z_put C 8 2 ty_Search rfl in_Search tyok_Search nm_Search (by decide) w_424 rfl (Or.inr ⟨rfl, hin, rfl⟩) rfl rfl rfl d_Search_init_31 hf (fun h22 hf => ?_)
  refine z_aload_n C 0 d_Search_init_34 rfl rfl ?_
  refine z_iload_n C 3 d_Search_init_35 rfl rfl ?_
  refine z_iconst C (v := (1 : Int32)) d_Search_init_36 (by decide) ?_
  refine z_ic_ne (tgt := 44) C d_Search_init_37 (by decide) hf (fun hf => ?_) (fun hf => ?_)
  · refine z_iconst C (v := (0 : Int32)) d_Search_init_44 (by decide) ?_
    refine z_sub [0, 1, 3] rfl ?_
    exact k_Search_init_45 N C E hin _ _ _ _ _ _ hf
  · refine z_iconst C (v := (1 : Int32)) d_Search_init_40 (by decide) ?_
    refine z_goto (tgt := 45) C d_Search_init_41 (by decide) ?_
    refine z_sub [0, 1, 3] rfl ?_
    exact k_Search_init_45 N C E hin _ _ _ _ _ _ hf

theorem c_Search_init (N : Nat) {l : Launch} {D : va_G} {T : List (ClassId × FieldType)} (hT : T.map (fun q => q.2) = ztl) {x0 : Nat} {x1 : Nat} {x2 : Nat} {x3 : Int32} {h : zH} {p : Unit × zH} (hf : f_Search_init N x0 x1 x2 x3 h = some p) : zM l y_Search_init prog_5_method_1_code 4 none rm_Search_init D T [.ref x0, .ref x1, .ref x2, .int x3] h none p.2 :=
  z_enter (by decide) hT (Nat.le_of_ble_eq_true rfl) (fun X el eD eT hin C E => k_Search_init N C E (hin rfl) x0 x1 x2 x3 h hf)
