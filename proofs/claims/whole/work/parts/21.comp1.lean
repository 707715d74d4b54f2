/-! ===== LevelTables$Search.slotOf(I)I ===== -/
abbrev y_Search_slotOf : MethodName := ⟨R_Search, "slotOf", "(I)I"⟩
theorem pd_Search_slotOf : y_Search_slotOf.cls ≠ "java/lang/invoke/MethodHandle" ∧ y_Search_slotOf.cls ≠ "java/lang/invoke/VarHandle" ∧ (parseMethodDescriptor y_Search_slotOf.desc).map (fun d => d.parameters.length) = some 1 := ⟨by decide +kernel, by decide +kernel, by decide +kernel⟩
abbrev rm_Search_slotOf : Room := { frames := 0, cells := 0, slots := 0, locals := 0 }
def f_Search_slotOf (N : Nat) (x0 : Nat) (x1 : Int32) (h : zH) : Option (Int32 × zH) :=
  Option.bind (zgI h x0 8 4) fun (v1 : Int32) =>
  (if v1 = 0 then
    some ((x1 &&& (1 : Int32)), h)
  else
    some (x1, h))
theorem d_Search_slotOf_0 : decode prog_5_method_4_code 0 = .ok (.aload_n (0), 1) := by decide +kernel
theorem d_Search_slotOf_1 : decode prog_5_method_4_code 1 = .ok (.getfield (34), 3) := by decide +kernel
theorem d_Search_slotOf_4 : decode prog_5_method_4_code 4 = .ok (.ifCond .eq (7), 3) := by decide +kernel
theorem d_Search_slotOf_7 : decode prog_5_method_4_code 7 = .ok (.iload_n (1), 1) := by decide +kernel
theorem d_Search_slotOf_8 : decode prog_5_method_4_code 8 = .ok (.goto (6), 3) := by decide +kernel
theorem d_Search_slotOf_11 : decode prog_5_method_4_code 11 = .ok (.iload_n (1), 1) := by decide +kernel
theorem d_Search_slotOf_12 : decode prog_5_method_4_code 12 = .ok (.iconst (1), 1) := by decide +kernel
theorem d_Search_slotOf_13 : decode prog_5_method_4_code 13 = .ok (.iand, 1) := by decide +kernel
theorem d_Search_slotOf_14 : decode prog_5_method_4_code 14 = .ok (.ireturn, 1) := by decide +kernel
set_option maxHeartbeats 4000000 in
set_option maxRecDepth 100000 in
theorem k_Search_slotOf (N : Nat) {X : zX} (C : zB X prog_5_method_4_code 2 R_Search rm_Search_slotOf) {h0 : zH} {p : Int32 × zH} (E : zR X (some .int) rm_Search_slotOf h0 (some (.int p.1)) p.2) : ∀ (x0 : Nat) (x1 : Int32) (h : zH), f_Search_slotOf N x0 x1 h = some p → Zt X 2 0 0 0 [(0, .ref x0), (1, .int x1)] [] h := by
  intro x0 x1 h hf
  unfold f_Search_slotOf at hf
  refine z_aload_n C 0 d_Search_slotOf_0 rfl rfl ?_
  refine z_getI C 8 4 rfl in_Search (by decide) w_426 rfl d_Search_slotOf_1 hf (fun v1 hf => ?_)
  refine z_if_eq (tgt := 11) C d_Search_slotOf_4 (by decide) hf (fun hf => ?_) (fun hf => ?_)
  · refine z_iload_n C 1 d_Search_slotOf_11 rfl rfl ?_
    refine z_iconst C (v := (1 : Int32)) d_Search_slotOf_12 (by decide) ?_
    refine z_iand C d_Search_slotOf_13 ?_
    exact z_iret C E (Nat.le_of_ble_eq_true rfl) (Nat.le_of_ble_eq_true rfl) d_Search_slotOf_14 hf
  · refine z_iload_n C 1 d_Search_slotOf_7 rfl rfl ?_
    refine z_goto (tgt := 14) C d_Search_slotOf_8 (by decide) ?_
    exact z_iret C E (Nat.le_of_ble_eq_true rfl) (Nat.le_of_ble_eq_true rfl) d_Search_slotOf_14 hf

theorem c_Search_slotOf (N : Nat) {l : Launch} {D : va_G} {T : List (ClassId × FieldType)} (hT : T.map (fun q => q.2) = ztl) {x0 : Nat} {x1 : Int32} {h : zH} {p : Int32 × zH} (hf : f_Search_slotOf N x0 x1 h = some p) : zM l y_Search_slotOf prog_5_method_4_code 2 (some .int) rm_Search_slotOf D T [.ref x0, .int x1] h (some (.int p.1)) p.2 :=
  z_enter (by decide) hT (Nat.le_of_ble_eq_true rfl) (fun X el eD eT hin C E => k_Search_slotOf N C E x0 x1 h hf)
/-! ===== LevelTables$Site.earthCents(II)J ===== -/
abbrev y_Site_earthCents : MethodName := ⟨R_Site, "earthCents", "(II)J"⟩
theorem pd_Site_earthCents : y_Site_earthCents.cls ≠ "java/lang/invoke/MethodHandle" ∧ y_Site_earthCents.cls ≠ "java/lang/invoke/VarHandle" ∧ (parseMethodDescriptor y_Site_earthCents.desc).map (fun d => d.parameters.length) = some 2 := ⟨by decide +kernel, by decide +kernel, by decide +kernel⟩
abbrev rm_Site_earthCents : Room := { frames := 0, cells := 0, slots := 0, locals := 0 }
def f_Site_earthCents (N : Nat) (x0 : Nat) (x1 : Int32) (x2 : Int32) (h : zH) : Option (Int64 × zH) :=
  Option.bind (zgR h x0 2 2) fun (v1 : Nat) =>
  Option.bind (zaI h 0 v1 x1) fun (v2 : Int32) =>
  (if 0 ≤ (x2 - v2) then
    Option.bind (zgR h x0 2 4) fun (v3 : Nat) =>
    Option.bind (zaI h 0 v3 x1) fun (v4 : Int32) =>
    some (((Int32.toInt64 (x2 - v2)) * (Int32.toInt64 v4)), h)
  else
    Option.bind (zgR h x0 2 3) fun (v5 : Nat) =>
    Option.bind (zaI h 0 v5 x1) fun (v6 : Int32) =>
    some (((Int32.toInt64 (-(x2 - v2))) * (Int32.toInt64 v6)), h))
theorem d_Site_earthCents_0 : decode prog_6_method_11_code 0 = .ok (.iload_n (2), 1) := by decide +kernel
theorem d_Site_earthCents_1 : decode prog_6_method_11_code 1 = .ok (.aload_n (0), 1) := by decide +kernel
theorem d_Site_earthCents_2 : decode prog_6_method_11_code 2 = .ok (.getfield (27), 3) := by decide +kernel
theorem d_Site_earthCents_5 : decode prog_6_method_11_code 5 = .ok (.iload_n (1), 1) := by decide +kernel
theorem d_Site_earthCents_6 : decode prog_6_method_11_code 6 = .ok (.iaload, 1) := by decide +kernel
theorem d_Site_earthCents_7 : decode prog_6_method_11_code 7 = .ok (.isub, 1) := by decide +kernel
theorem d_Site_earthCents_8 : decode prog_6_method_11_code 8 = .ok (.istore_n (3), 1) := by decide +kernel
theorem d_Site_earthCents_9 : decode prog_6_method_11_code 9 = .ok (.iload_n (3), 1) := by decide +kernel
theorem d_Site_earthCents_10 : decode prog_6_method_11_code 10 = .ok (.ifCond .ge (17), 3) := by decide +kernel
theorem d_Site_earthCents_13 : decode prog_6_method_11_code 13 = .ok (.iload_n (3), 1) := by decide +kernel
theorem d_Site_earthCents_14 : decode prog_6_method_11_code 14 = .ok (.ineg, 1) := by decide +kernel
theorem d_Site_earthCents_15 : decode prog_6_method_11_code 15 = .ok (.i2l, 1) := by decide +kernel
theorem d_Site_earthCents_16 : decode prog_6_method_11_code 16 = .ok (.aload_n (0), 1) := by decide +kernel
theorem d_Site_earthCents_17 : decode prog_6_method_11_code 17 = .ok (.getfield (31), 3) := by decide +kernel
theorem d_Site_earthCents_20 : decode prog_6_method_11_code 20 = .ok (.iload_n (1), 1) := by decide +kernel
theorem d_Site_earthCents_21 : decode prog_6_method_11_code 21 = .ok (.iaload, 1) := by decide +kernel
theorem d_Site_earthCents_22 : decode prog_6_method_11_code 22 = .ok (.i2l, 1) := by decide +kernel
theorem d_Site_earthCents_23 : decode prog_6_method_11_code 23 = .ok (.lmul, 1) := by decide +kernel
theorem d_Site_earthCents_24 : decode prog_6_method_11_code 24 = .ok (.goto (13), 3) := by decide +kernel
theorem d_Site_earthCents_27 : decode prog_6_method_11_code 27 = .ok (.iload_n (3), 1) := by decide +kernel
theorem d_Site_earthCents_28 : decode prog_6_method_11_code 28 = .ok (.i2l, 1) := by decide +kernel
theorem d_Site_earthCents_29 : decode prog_6_method_11_code 29 = .ok (.aload_n (0), 1) := by decide +kernel
theorem d_Site_earthCents_30 : decode prog_6_method_11_code 30 = .ok (.getfield (34), 3) := by decide +kernel
theorem d_Site_earthCents_33 : decode prog_6_method_11_code 33 = .ok (.iload_n (1), 1) := by decide +kernel
theorem d_Site_earthCents_34 : decode prog_6_method_11_code 34 = .ok (.iaload, 1) := by decide +kernel
theorem d_Site_earthCents_35 : decode prog_6_method_11_code 35 = .ok (.i2l, 1) := by decide +kernel
theorem d_Site_earthCents_36 : decode prog_6_method_11_code 36 = .ok (.lmul, 1) := by decide +kernel
theorem d_Site_earthCents_37 : decode prog_6_method_11_code 37 = .ok (.lreturn, 1) := by decide +kernel
set_option maxHeartbeats 4000000 in
set_option maxRecDepth 100000 in
theorem k_Site_earthCents (N : Nat) {X : zX} (C : zB X prog_6_method_11_code 4 R_Site rm_Site_earthCents) {h0 : zH} {p : Int64 × zH} (E : zR X (some .long) rm_Site_earthCents h0 (some (.long p.1)) p.2) : ∀ (x0 : Nat) (x1 : Int32) (x2 : Int32) (h : zH), f_Site_earthCents N x0 x1 x2 h = some p → Zt X 4 0 0 0 [(0, .ref x0), (1, .int x1), (2, .int x2)] [] h := by
  intro x0 x1 x2 h hf
  unfold f_Site_earthCents at hf
  refine z_iload_n C 2 d_Site_earthCents_0 rfl rfl ?_
  refine z_aload_n C 0 d_Site_earthCents_1 rfl rfl ?_
  refine z_getR C 2 2 rfl in_Site (by decide) w_101 rfl d_Site_earthCents_2 hf (fun v1 hf => ?_)
  refine z_iload_n C 1 d_Site_earthCents_5 rfl rfl ?_
  refine z_iald C d_Site_earthCents_6 hf (fun v2 hf => ?_)
  refine z_isub C d_Site_earthCents_7 ?_
  refine z_istore_n C (lv' := [(3, .int (x2 - v2)), (0, .ref x0), (1, .int x1), (2, .int x2)]) d_Site_earthCents_8 rfl (by decide) rfl ?_
  refine z_iload_n C 0 d_Site_earthCents_9 rfl rfl ?_
  refine z_if_ge (tgt := 27) C d_Site_earthCents_10 (by decide) hf (fun hf => ?_) (fun hf => ?_)
  · refine z_iload_n C 0 d_Site_earthCents_27 rfl rfl ?_
    refine z_i2l C d_Site_earthCents_28 ?_
    refine z_aload_n C 1 d_Site_earthCents_29 rfl rfl ?_
    refine z_getR C 2 4 rfl in_Site (by decide) w_107 rfl d_Site_earthCents_30 hf (fun v3 hf => ?_)
    refine z_iload_n C 2 d_Site_earthCents_33 rfl rfl ?_
    refine z_iald C d_Site_earthCents_34 hf (fun v4 hf => ?_)
    refine z_i2l C d_Site_earthCents_35 ?_
    refine z_lmul C d_Site_earthCents_36 ?_
    exact z_lret C E (Nat.le_of_ble_eq_true rfl) (Nat.le_of_ble_eq_true rfl) d_Site_earthCents_37 hf
  · refine z_iload_n C 0 d_Site_earthCents_13 rfl rfl ?_
    refine z_ineg C d_Site_earthCents_14 ?_
    refine z_i2l C d_Site_earthCents_15 ?_
    refine z_aload_n C 1 d_Site_earthCents_16 rfl rfl ?_
    refine z_getR C 2 3 rfl in_Site (by decide) w_105 rfl d_Site_earthCents_17 hf (fun v5 hf => ?_)
    refine z_iload_n C 2 d_Site_earthCents_20 rfl rfl ?_
    refine z_iald C d_Site_earthCents_21 hf (fun v6 hf => ?_)
    refine z_i2l C d_Site_earthCents_22 ?_
    refine z_lmul C d_Site_earthCents_23 ?_
    refine z_goto (tgt := 37) C d_Site_earthCents_24 (by decide) ?_
    exact z_lret C E (Nat.le_of_ble_eq_true rfl) (Nat.le_of_ble_eq_true rfl) d_Site_earthCents_37 hf

theorem c_Site_earthCents (N : Nat) {l : Launch} {D : va_G} {T : List (ClassId × FieldType)} (hT : T.map (fun q => q.2) = ztl) {x0 : Nat} {x1 : Int32} {x2 : Int32} {h : zH} {p : Int64 × zH} (hf : f_Site_earthCents N x0 x1 x2 h = some p) : zM l y_Site_earthCents prog_6_method_11_code 4 (some .long) rm_Site_earthCents D T [.ref x0, .int x1, .int x2] h (some (.long p.1)) p.2 :=
  z_enter (by decide) hT (Nat.le_of_ble_eq_true rfl) (fun X el eD eT hin C E => k_Site_earthCents N C E x0 x1 x2 h hf)
/-! ===== LevelTables$Search.indexOf(II)I ===== -/
abbrev y_Search_indexOf : MethodName := ⟨R_Search, "indexOf", "(II)I"⟩
theorem pd_Search_indexOf : y_Search_indexOf.cls ≠ "java/lang/invoke/MethodHandle" ∧ y_Search_indexOf.cls ≠ "java/lang/invoke/VarHandle" ∧ (parseMethodDescriptor y_Search_indexOf.desc).map (fun d => d.parameters.length) = some 2 := ⟨by decide +kernel, by decide +kernel, by decide +kernel⟩
abbrev rm_Search_indexOf : Room := { frames := 0, cells := 0, slots := 0, locals := 0 }
def f_Search_indexOf (N : Nat) (x0 : Nat) (x1 : Int32) (x2 : Int32) (h : zH) : Option (Int32 × zH) :=
  Option.bind (zgI h x0 8 2) fun (v1 : Int32) =>
  Option.bind (zgI h x0 8 3) fun (v2 : Int32) =>
  some ((((x1 * v1) + x2) * v2), h)
theorem d_Search_indexOf_0 : decode prog_5_method_7_code 0 = .ok (.iload_n (1), 1) := by decide +kernel
theorem d_Search_indexOf_1 : decode prog_5_method_7_code 1 = .ok (.aload_n (0), 1) := by decide +kernel
theorem d_Search_indexOf_2 : decode prog_5_method_7_code 2 = .ok (.getfield (31), 3) := by decide +kernel
theorem d_Search_indexOf_5 : decode prog_5_method_7_code 5 = .ok (.imul, 1) := by decide +kernel
theorem d_Search_indexOf_6 : decode prog_5_method_7_code 6 = .ok (.iload_n (2), 1) := by decide +kernel
theorem d_Search_indexOf_7 : decode prog_5_method_7_code 7 = .ok (.iadd, 1) := by decide +kernel
theorem d_Search_indexOf_8 : decode prog_5_method_7_code 8 = .ok (.aload_n (0), 1) := by decide +kernel
theorem d_Search_indexOf_9 : decode prog_5_method_7_code 9 = .ok (.getfield (23), 3) := by decide +kernel
theorem d_Search_indexOf_12 : decode prog_5_method_7_code 12 = .ok (.imul, 1) := by decide +kernel
theorem d_Search_indexOf_13 : decode prog_5_method_7_code 13 = .ok (.ireturn, 1) := by decide +kernel
set_option maxHeartbeats 4000000 in
set_option maxRecDepth 100000 in
theorem k_Search_indexOf (N : Nat) {X : zX} (C : zB X prog_5_method_7_code 3 R_Search rm_Search_indexOf) {h0 : zH} {p : Int32 × zH} (E : zR X (some .int) rm_Search_indexOf h0 (some (.int p.1)) p.2) : ∀ (x0 : Nat) (x1 : Int32) (x2 : Int32) (h : zH), f_Search_indexOf N x0 x1 x2 h = some p → Zt X 3 0 0 0 [(0, .ref x0), (1, .int x1), (2, .int x2)] [] h := by
  intro x0 x1 x2 h hf
  unfold f_Search_indexOf at hf
  refine z_iload_n C 1 d_Search_indexOf_0 rfl rfl ?_
  refine z_aload_n C 0 d_Search_indexOf_1 rfl rfl ?_
  refine z_getI C 8 2 rfl in_Search (by decide) w_424 rfl d_Search_indexOf_2 hf (fun v1 hf => ?_)
  refine z_imul C d_Search_indexOf_5 ?_
  refine z_iload_n C 2 d_Search_indexOf_6 rfl rfl ?_
  refine z_iadd C d_Search_indexOf_7 ?_
  refine z_aload_n C 0 d_Search_indexOf_8 rfl rfl ?_
  refine z_getI C 8 3 rfl in_Search (by decide) w_425 rfl d_Search_indexOf_9 hf (fun v2 hf => ?_)
  refine z_imul C d_Search_indexOf_12 ?_
  exact z_iret C E (Nat.le_of_ble_eq_true rfl) (Nat.le_of_ble_eq_true rfl) d_Search_indexOf_13 hf

theorem c_Search_indexOf (N : Nat) {l : Launch} {D : va_G} {T : List (ClassId × FieldType)} (hT : T.map (fun q => q.2) = ztl) {x0 : Nat} {x1 : Int32} {x2 : Int32} {h : zH} {p : Int32 × zH} (hf : f_Search_indexOf N x0 x1 x2 h = some p) : zM l y_Search_indexOf prog_5_method_7_code 3 (some .int) rm_Search_indexOf D T [.ref x0, .int x1, .int x2] h (some (.int p.1)) p.2 :=
  z_enter (by decide) hT (Nat.le_of_ble_eq_true rfl) (fun X el eD eT hin C E => k_Search_indexOf N C E x0 x1 x2 h hf)
/-! ===== LevelTables$Spans.startingAt(I)I ===== -/
abbrev y_Spans_startingAt : MethodName := ⟨R_Spans, "startingAt", "(I)I"⟩
theorem pd_Spans_startingAt : y_Spans_startingAt.cls ≠ "java/lang/invoke/MethodHandle" ∧ y_Spans_startingAt.cls ≠ "java/lang/invoke/VarHandle" ∧ (parseMethodDescriptor y_Spans_startingAt.desc).map (fun d => d.parameters.length) = some 1 := ⟨by decide +kernel, by decide +kernel, by decide +kernel⟩
abbrev rm_Spans_startingAt : Room := { frames := 0, cells := 0, slots := 0, locals := 0 }
def b_Spans_startingAt_2 (N : Nat) (rc2 : Nat → Int32 → Int32 → zH → Option (Int32 × zH)) (x0 : Nat) (x1 : Int32) (x2 : Int32) (h : zH) : Option (Int32 × zH) :=
  Option.bind (zgI h x0 3 0) fun (v1 : Int32) =>
  (if v1 ≤ x2 then
    some ((-1 : Int32), h)
  else
    Option.bind (zgR h x0 3 1) fun (v2 : Nat) =>
    Option.bind (zaI h 0 v2 x2) fun (v3 : Int32) =>
    (if v3 = x1 then
      some (x2, h)
    else
      rc2 x0 x1 (x2 + (1 : Int32)) h))
def f_Spans_startingAt_2 (N : Nat) : Nat → Nat → Int32 → Int32 → zH → Option (Int32 × zH)
  | 0 => fun _ _ _ _ => none
  | n + 1 => fun x0 x1 x2 h => b_Spans_startingAt_2 N (f_Spans_startingAt_2 N n) x0 x1 x2 h
def f_Spans_startingAt (N : Nat) (x0 : Nat) (x1 : Int32) (h : zH) : Option (Int32 × zH) :=
  f_Spans_startingAt_2 N N x0 x1 (0 : Int32) h
theorem d_Spans_startingAt_0 : decode prog_7_method_5_code 0 = .ok (.iconst (0), 1) := by decide +kernel
theorem d_Spans_startingAt_1 : decode prog_7_method_5_code 1 = .ok (.istore_n (2), 1) := by decide +kernel
theorem d_Spans_startingAt_2 : decode prog_7_method_5_code 2 = .ok (.iload_n (2), 1) := by decide +kernel
theorem d_Spans_startingAt_3 : decode prog_7_method_5_code 3 = .ok (.aload_n (0), 1) := by decide +kernel
theorem d_Spans_startingAt_4 : decode prog_7_method_5_code 4 = .ok (.getfield (9), 3) := by decide +kernel
theorem d_Spans_startingAt_7 : decode prog_7_method_5_code 7 = .ok (.if_icmp .ge (21), 3) := by decide +kernel
theorem d_Spans_startingAt_10 : decode prog_7_method_5_code 10 = .ok (.aload_n (0), 1) := by decide +kernel
theorem d_Spans_startingAt_11 : decode prog_7_method_5_code 11 = .ok (.getfield (15), 3) := by decide +kernel
theorem d_Spans_startingAt_14 : decode prog_7_method_5_code 14 = .ok (.iload_n (2), 1) := by decide +kernel
theorem d_Spans_startingAt_15 : decode prog_7_method_5_code 15 = .ok (.iaload, 1) := by decide +kernel
theorem d_Spans_startingAt_16 : decode prog_7_method_5_code 16 = .ok (.iload_n (1), 1) := by decide +kernel
theorem d_Spans_startingAt_17 : decode prog_7_method_5_code 17 = .ok (.if_icmp .ne (5), 3) := by decide +kernel
theorem d_Spans_startingAt_20 : decode prog_7_method_5_code 20 = .ok (.iload_n (2), 1) := by decide +kernel
theorem d_Spans_startingAt_21 : decode prog_7_method_5_code 21 = .ok (.ireturn, 1) := by decide +kernel
theorem d_Spans_startingAt_22 : decode prog_7_method_5_code 22 = .ok (.iinc (2) (1), 3) := by decide +kernel
theorem d_Spans_startingAt_25 : decode prog_7_method_5_code 25 = .ok (.goto (-23), 3) := by decide +kernel
theorem d_Spans_startingAt_28 : decode prog_7_method_5_code 28 = .ok (.iconst (-1), 1) := by decide +kernel
theorem d_Spans_startingAt_29 : decode prog_7_method_5_code 29 = .ok (.ireturn, 1) := by decide +kernel
set_option maxHeartbeats 4000000 in
set_option maxRecDepth 100000 in
theorem k_Spans_startingAt_2 (N : Nat) {X : zX} (C : zB X prog_7_method_5_code 3 R_Spans rm_Spans_startingAt) {h0 : zH} {p : Int32 × zH} (E : zR X (some .int) rm_Spans_startingAt h0 (some (.int p.1)) p.2) : ∀ n : Nat, ∀ (x0 : Nat) (x1 : Int32) (x2 : Int32) (h : zH), f_Spans_startingAt_2 N n x0 x1 x2 h = some p → Zt X 3 0 0 2 [(0, .ref x0), (1, .int x1), (2, .int x2)] [] h := by
  intro n
  induction n with
  | zero => intro x0 x1 x2 h hf; cases hf
  | succ n ih =>
  intro x0 x1 x2 h hf
  have H2 := ih
  replace hf : b_Spans_startingAt_2 N (f_Spans_startingAt_2 N n) x0 x1 x2 h = some p := hf
  unfold b_Spans_startingAt_2 at hf
  refine z_iload_n C 2 d_Spans_startingAt_2 rfl rfl ?_
  refine z_aload_n C 0 d_Spans_startingAt_3 rfl rfl ?_
  refine z_getI C 3 0 rfl in_Spans (by decide) w_149 rfl d_Spans_startingAt_4 hf (fun v1 hf => ?_)
  refine z_ic_ge (tgt := 28) C d_Spans_startingAt_7 (by decide) hf (fun hf => ?_) (fun hf => ?_)
  · refine z_iconst C (v := (-1 : Int32)) d_Spans_startingAt_28 (by decide) ?_
    exact z_iret C E (Nat.le_of_ble_eq_true rfl) (Nat.le_of_ble_eq_true rfl) d_Spans_startingAt_29 hf
  · refine z_aload_n C 0 d_Spans_startingAt_10 rfl rfl ?_
    refine z_getR C 3 1 rfl in_Spans (by decide) w_152 rfl d_Spans_startingAt_11 hf (fun v2 hf => ?_)
    refine z_iload_n C 2 d_Spans_startingAt_14 rfl rfl ?_
    refine z_iald C d_Spans_startingAt_15 hf (fun v3 hf => ?_)
    refine z_iload_n C 1 d_Spans_startingAt_16 rfl rfl ?_
    refine z_ic_ne (tgt := 22) C d_Spans_startingAt_17 (by decide) hf (fun hf => ?_) (fun hf => ?_)
    · refine z_iinc C (v := (x2 + (1 : Int32))) (lv' := [(2, .int (x2 + (1 : Int32))), (0, .ref x0), (1, .int x1)]) 2 d_Spans_startingAt_22 rfl (by rfl) (by decide) rfl ?_
      refine z_goto (tgt := 2) C d_Spans_startingAt_25 (by decide) ?_
      refine z_sub [1, 2, 0] rfl ?_
      exact H2 _ _ _ _ hf
    · refine z_iload_n C 2 d_Spans_startingAt_20 rfl rfl ?_
      exact z_iret C E (Nat.le_of_ble_eq_true rfl) (Nat.le_of_ble_eq_true rfl) d_Spans_startingAt_21 hf

set_option maxHeartbeats 4000000 in
set_option maxRecDepth 100000 in
theorem k_Spans_startingAt (N : Nat) {X : zX} (C : zB X prog_7_method_5_code 3 R_Spans rm_Spans_startingAt) {h0 : zH} {p : Int32 × zH} (E : zR X (some .int) rm_Spans_startingAt h0 (some (.int p.1)) p.2) : ∀ (x0 : Nat) (x1 : Int32) (h : zH), f_Spans_startingAt N x0 x1 h = some p → Zt X 3 0 0 0 [(0, .ref x0), (1, .int x1)] [] h := by
  intro x0 x1 h hf
  unfold f_Spans_startingAt at hf
  refine z_iconst C (v := (0 : Int32)) d_Spans_startingAt_0 (by decide) ?_
  refine z_istore_n C (lv' := [(2, .int (0 : Int32)), (0, .ref x0), (1, .int x1)]) d_Spans_startingAt_1 rfl (by decide) rfl ?_
  refine z_sub [1, 2, 0] rfl ?_
  exact k_Spans_startingAt_2 N C E N _ _ _ _ hf

theorem c_Spans_startingAt (N : Nat) {l : Launch} {D : va_G} {T : List (ClassId × FieldType)} (hT : T.map (fun q => q.2) = ztl) {x0 : Nat} {x1 : Int32} {h : zH} {p : Int32 × zH} (hf : f_Spans_startingAt N x0 x1 h = some p) : zM l y_Spans_startingAt prog_7_method_5_code 3 (some .int) rm_Spans_startingAt D T [.ref x0, .int x1] h (some (.int p.1)) p.2 :=
  z_enter (by decide) hT (Nat.le_of_ble_eq_true rfl) (fun X el eD eT hin C E => k_Spans_startingAt N C E x0 x1 h hf)
/-! ===== LevelTables$Search.insert([JIJ)V ===== -/
abbrev y_Search_insert : MethodName := ⟨R_Search, "insert", "([JIJ)V"⟩
theorem pd_Search_insert : y_Search_insert.cls ≠ "java/lang/invoke/MethodHandle" ∧ y_Search_insert.cls ≠ "java/lang/invoke/VarHandle" ∧ (parseMethodDescriptor y_Search_insert.desc).map (fun d => d.parameters.length) = some 3 := ⟨by decide +kernel, by decide +kernel, by decide +kernel⟩
abbrev rm_Search_insert : Room := { frames := 0, cells := 0, slots := 0, locals := 0 }
def b_Search_insert_49 (N : Nat) (rc49 : Nat → Int64 → Int32 → Int32 → zH → Option (Unit × zH)) (x1 : Nat) (x3 : Int64) (x6 : Int32) (x7 : Int32) (h : zH) : Option (Unit × zH) :=
  (if x7 ≤ x6 then
    Option.bind (zsJ h 1 x1 x6 x3) fun (h1 : zH) =>
    some ((), h1)
  else
    Option.bind (zaJ h 1 x1 (x7 - (1 : Int32))) fun (v2 : Int64) =>
    Option.bind (zsJ h 1 x1 x7 v2) fun (h3 : zH) =>
    rc49 x1 x3 x6 (x7 + (-1 : Int32)) h3)
def f_Search_insert_49 (N : Nat) : Nat → Nat → Int64 → Int32 → Int32 → zH → Option (Unit × zH)
  | 0 => fun _ _ _ _ _ => none
  | n + 1 => fun x1 x3 x6 x7 h => b_Search_insert_49 N (f_Search_insert_49 N n) x1 x3 x6 x7 h
def f_Search_insert_35 (N : Nat) (x1 : Nat) (x3 : Int64) (x5 : Int32) (x6 : Int32) (h : zH) : Option (Unit × zH) :=
  Option.bind (zaJ h 1 x1 x6) fun (v4 : Int64) =>
  (if (lg_cmp v4 x3) = 0 then
    some ((), h)
  else
    f_Search_insert_49 N N x1 x3 x6 x5 h)
def b_Search_insert_13 (N : Nat) (rc13 : Nat → Int64 → Int32 → Int32 → zH → Option (Unit × zH)) (x1 : Nat) (x3 : Int64) (x5 : Int32) (x6 : Int32) (h : zH) : Option (Unit × zH) :=
  (if x5 ≤ x6 then
    f_Search_insert_35 N x1 x3 x5 x6 h
  else
    Option.bind (zaJ h 1 x1 x6) fun (v5 : Int64) =>
    (if 0 ≤ (lg_cmp v5 x3) then
      f_Search_insert_35 N x1 x3 x5 x6 h
    else
      rc13 x1 x3 x5 (x6 + (1 : Int32)) h))
def f_Search_insert_13 (N : Nat) : Nat → Nat → Int64 → Int32 → Int32 → zH → Option (Unit × zH)
  | 0 => fun _ _ _ _ _ => none
  | n + 1 => fun x1 x3 x5 x6 h => b_Search_insert_13 N (f_Search_insert_13 N n) x1 x3 x5 x6 h
def f_Search_insert (N : Nat) (x0 : Nat) (x1 : Nat) (x2 : Int32) (x3 : Int64) (h : zH) : Option (Unit × zH) :=
  Option.bind (zgI h x0 8 3) fun (v6 : Int32) =>
  f_Search_insert_13 N N x1 x3 ((x2 + v6) - (1 : Int32)) x2 h
theorem d_Search_insert_0 : decode prog_5_method_18_code 0 = .ok (.iload_n (2), 1) := by decide +kernel
theorem d_Search_insert_1 : decode prog_5_method_18_code 1 = .ok (.aload_n (0), 1) := by decide +kernel
theorem d_Search_insert_2 : decode prog_5_method_18_code 2 = .ok (.getfield (23), 3) := by decide +kernel
theorem d_Search_insert_5 : decode prog_5_method_18_code 5 = .ok (.iadd, 1) := by decide +kernel
theorem d_Search_insert_6 : decode prog_5_method_18_code 6 = .ok (.iconst (1), 1) := by decide +kernel
theorem d_Search_insert_7 : decode prog_5_method_18_code 7 = .ok (.isub, 1) := by decide +kernel
theorem d_Search_insert_8 : decode prog_5_method_18_code 8 = .ok (.istore (5), 2) := by decide +kernel
theorem d_Search_insert_10 : decode prog_5_method_18_code 10 = .ok (.iload_n (2), 1) := by decide +kernel
theorem d_Search_insert_11 : decode prog_5_method_18_code 11 = .ok (.istore (6), 2) := by decide +kernel
theorem d_Search_insert_13 : decode prog_5_method_18_code 13 = .ok (.iload (6), 2) := by decide +kernel
theorem d_Search_insert_15 : decode prog_5_method_18_code 15 = .ok (.iload (5), 2) := by decide +kernel
theorem d_Search_insert_17 : decode prog_5_method_18_code 17 = .ok (.if_icmp .ge (18), 3) := by decide +kernel
theorem d_Search_insert_20 : decode prog_5_method_18_code 20 = .ok (.aload_n (1), 1) := by decide +kernel
theorem d_Search_insert_21 : decode prog_5_method_18_code 21 = .ok (.iload (6), 2) := by decide +kernel
theorem d_Search_insert_23 : decode prog_5_method_18_code 23 = .ok (.laload, 1) := by decide +kernel
theorem d_Search_insert_24 : decode prog_5_method_18_code 24 = .ok (.lload_n (3), 1) := by decide +kernel
theorem d_Search_insert_25 : decode prog_5_method_18_code 25 = .ok (.lcmp, 1) := by decide +kernel
theorem d_Search_insert_26 : decode prog_5_method_18_code 26 = .ok (.ifCond .ge (9), 3) := by decide +kernel
theorem d_Search_insert_29 : decode prog_5_method_18_code 29 = .ok (.iinc (6) (1), 3) := by decide +kernel
theorem d_Search_insert_32 : decode prog_5_method_18_code 32 = .ok (.goto (-19), 3) := by decide +kernel
theorem d_Search_insert_35 : decode prog_5_method_18_code 35 = .ok (.aload_n (1), 1) := by decide +kernel
theorem d_Search_insert_36 : decode prog_5_method_18_code 36 = .ok (.iload (6), 2) := by decide +kernel
theorem d_Search_insert_38 : decode prog_5_method_18_code 38 = .ok (.laload, 1) := by decide +kernel
theorem d_Search_insert_39 : decode prog_5_method_18_code 39 = .ok (.lload_n (3), 1) := by decide +kernel
theorem d_Search_insert_40 : decode prog_5_method_18_code 40 = .ok (.lcmp, 1) := by decide +kernel
theorem d_Search_insert_41 : decode prog_5_method_18_code 41 = .ok (.ifCond .ne (4), 3) := by decide +kernel
theorem d_Search_insert_44 : decode prog_5_method_18_code 44 = .ok (.return_, 1) := by decide +kernel
theorem d_Search_insert_45 : decode prog_5_method_18_code 45 = .ok (.iload (5), 2) := by decide +kernel
theorem d_Search_insert_47 : decode prog_5_method_18_code 47 = .ok (.istore (7), 2) := by decide +kernel
theorem d_Search_insert_49 : decode prog_5_method_18_code 49 = .ok (.iload (7), 2) := by decide +kernel
theorem d_Search_insert_51 : decode prog_5_method_18_code 51 = .ok (.iload (6), 2) := by decide +kernel
theorem d_Search_insert_53 : decode prog_5_method_18_code 53 = .ok (.if_icmp .le (19), 3) := by decide +kernel
theorem d_Search_insert_56 : decode prog_5_method_18_code 56 = .ok (.aload_n (1), 1) := by decide +kernel
theorem d_Search_insert_57 : decode prog_5_method_18_code 57 = .ok (.iload (7), 2) := by decide +kernel
theorem d_Search_insert_59 : decode prog_5_method_18_code 59 = .ok (.aload_n (1), 1) := by decide +kernel
theorem d_Search_insert_60 : decode prog_5_method_18_code 60 = .ok (.iload (7), 2) := by decide +kernel
theorem d_Search_insert_62 : decode prog_5_method_18_code 62 = .ok (.iconst (1), 1) := by decide +kernel
theorem d_Search_insert_63 : decode prog_5_method_18_code 63 = .ok (.isub, 1) := by decide +kernel
theorem d_Search_insert_64 : decode prog_5_method_18_code 64 = .ok (.laload, 1) := by decide +kernel
theorem d_Search_insert_65 : decode prog_5_method_18_code 65 = .ok (.lastore, 1) := by decide +kernel
theorem d_Search_insert_66 : decode prog_5_method_18_code 66 = .ok (.iinc (7) (-1), 3) := by decide +kernel
theorem d_Search_insert_69 : decode prog_5_method_18_code 69 = .ok (.goto (-20), 3) := by decide +kernel
theorem d_Search_insert_72 : decode prog_5_method_18_code 72 = .ok (.aload_n (1), 1) := by decide +kernel
theorem d_Search_insert_73 : decode prog_5_method_18_code 73 = .ok (.iload (6), 2) := by decide +kernel
theorem d_Search_insert_75 : decode prog_5_method_18_code 75 = .ok (.lload_n (3), 1) := by decide +kernel
theorem d_Search_insert_76 : decode prog_5_method_18_code 76 = .ok (.lastore, 1) := by decide +kernel
theorem d_Search_insert_77 : decode prog_5_method_18_code 77 = .ok (.return_, 1) := by decide +kernel
set_option maxHeartbeats 4000000 in
set_option maxRecDepth 100000 in
theorem k_Search_insert_49 (N : Nat) {X : zX} (C : zB X prog_5_method_18_code 8 R_Search rm_Search_insert) {h0 : zH} {p : Unit × zH} (E : zR X none rm_Search_insert h0 none p.2) : ∀ n : Nat, ∀ (x1 : Nat) (x3 : Int64) (x6 : Int32) (x7 : Int32) (h : zH), f_Search_insert_49 N n x1 x3 x6 x7 h = some p → Zt X 8 0 0 49 [(1, .ref x1), (3, .long x3), (6, .int x6), (7, .int x7)] [] h := by
  intro n
  induction n with
  | zero => intro x1 x3 x6 x7 h hf; cases hf
  | succ n ih =>
  intro x1 x3 x6 x7 h hf
  have H49 := ih
  replace hf : b_Search_insert_49 N (f_Search_insert_49 N n) x1 x3 x6 x7 h = some p := hf
  unfold b_Search_insert_49 at hf
  refine z_iload C 3 d_Search_insert_49 rfl ?_
  refine z_iload C 2 d_Search_insert_51 rfl ?_
  refine z_ic_le (tgt := 72) C d_Search_insert_53 (by decide) hf (fun hf => ?_) (fun hf => ?_)
  · refine z_aload_n C 0 d_Search_insert_72 rfl rfl ?_
    refine z_iload C 2 d_Search_insert_73 rfl ?_
    refine z_lload_n C 1 d_Search_insert_75 rfl rfl ?_
    refine z_last C d_Search_insert_76 hf (fun h1 hf => ?_)
    exact z_vret C E (Nat.le_of_ble_eq_true rfl) (Nat.le_of_ble_eq_true rfl) d_Search_insert_77 hf
  · refine z_aload_n C 0 d_Search_insert_56 rfl rfl ?_
    refine z_iload C 3 d_Search_insert_57 rfl ?_
    refine z_aload_n C 0 d_Search_insert_59 rfl rfl ?_
    refine z_iload C 3 d_Search_insert_60 rfl ?_
    refine z_iconst C (v := (1 : Int32)) d_Search_insert_62 (by decide) ?_
    refine z_isub C d_Search_insert_63 ?_
    refine z_lald C d_Search_insert_64 hf (fun v2 hf => ?_)
    refine z_last C d_Search_insert_65 hf (fun h3 hf => ?_)
    refine z_iinc C (v := (x7 + (-1 : Int32))) (lv' := [(7, .int (x7 + (-1 : Int32))), (1, .ref x1), (3, .long x3), (6, .int x6)]) 3 d_Search_insert_66 rfl (by rfl) (by decide) rfl ?_
    refine z_goto (tgt := 49) C d_Search_insert_69 (by decide) ?_
    refine z_sub [1, 2, 3, 0] rfl ?_
    exact H49 _ _ _ _ _ hf

set_option maxHeartbeats 4000000 in
set_option maxRecDepth 100000 in
theorem k_Search_insert_35 (N : Nat) {X : zX} (C : zB X prog_5_method_18_code 8 R_Search rm_Search_insert) {h0 : zH} {p : Unit × zH} (E : zR X none rm_Search_insert h0 none p.2) : ∀ (x1 : Nat) (x3 : Int64) (x5 : Int32) (x6 : Int32) (h : zH), f_Search_insert_35 N x1 x3 x5 x6 h = some p → Zt X 8 0 0 35 [(1, .ref x1), (3, .long x3), (5, .int x5), (6, .int x6)] [] h := by
  intro x1 x3 x5 x6 h hf
  unfold f_Search_insert_35 at hf
  refine z_aload_n C 0 d_Search_insert_35 rfl rfl ?_
  refine z_iload C 3 d_Search_insert_36 rfl ?_
  refine z_lald C d_Search_insert_38 hf (fun v4 hf => ?_)
  refine z_lload_n C 1 d_Search_insert_39 rfl rfl ?_
  refine z_lcmp C d_Search_insert_40 ?_
  refine z_if_ne (tgt := 45) C d_Search_insert_41 (by decide) hf (fun hf => ?_) (fun hf => ?_)
  · refine z_iload C 2 d_Search_insert_45 rfl ?_
    refine z_istore C (lv' := [(7, .int x5), (1, .ref x1), (3, .long x3), (5, .int x5), (6, .int x6)]) d_Search_insert_47 (by decide) rfl ?_
    refine z_sub [1, 2, 4, 0] rfl ?_
    exact k_Search_insert_49 N C E N _ _ _ _ _ hf
  · exact z_vret C E (Nat.le_of_ble_eq_true rfl) (Nat.le_of_ble_eq_true rfl) d_Search_insert_44 hf

set_option maxHeartbeats 4000000 in
set_option maxRecDepth 100000 in
theorem k_Search_insert_13 (N : Nat) {X : zX} (C : zB X prog_5_method_18_code 8 R_Search rm_Search_insert) {h0 : zH} {p : Unit × zH} (E : zR X none rm_Search_insert h0 none p.2) : ∀ n : Nat, ∀ (x1 : Nat) (x3 : Int64) (x5 : Int32) (x6 : Int32) (h : zH), f_Search_insert_13 N n x1 x3 x5 x6 h = some p → Zt X 8 0 0 13 [(1, .ref x1), (3, .long x3), (5, .int x5), (6, .int x6)] [] h := by
  intro n
  induction n with
  | zero => intro x1 x3 x5 x6 h hf; cases hf
  | succ n ih =>
  intro x1 x3 x5 x6 h hf
  have H13 := ih
  replace hf : b_Search_insert_13 N (f_Search_insert_13 N n) x1 x3 x5 x6 h = some p := hf
  unfold b_Search_insert_13 at hf
  refine z_iload C 3 d_Search_insert_13 rfl ?_
  refine z_iload C 2 d_Search_insert_15 rfl ?_
  refine z_ic_ge (tgt := 35) C d_Search_insert_17 (by decide) hf (fun hf => ?_) (fun hf => ?_)
  · refine z_sub [0, 1, 2, 3] rfl ?_
    exact k_Search_insert_35 N C E _ _ _ _ _ hf
  · refine z_aload_n C 0 d_Search_insert_20 rfl rfl ?_
    refine z_iload C 3 d_Search_insert_21 rfl ?_
    refine z_lald C d_Search_insert_23 hf (fun v5 hf => ?_)
    refine z_lload_n C 1 d_Search_insert_24 rfl rfl ?_
    refine z_lcmp C d_Search_insert_25 ?_
    refine z_if_ge (tgt := 35) C d_Search_insert_26 (by decide) hf (fun hf => ?_) (fun hf => ?_)
    · refine z_sub [0, 1, 2, 3] rfl ?_
      exact k_Search_insert_35 N C E _ _ _ _ _ hf
    · refine z_iinc C (v := (x6 + (1 : Int32))) (lv' := [(6, .int (x6 + (1 : Int32))), (1, .ref x1), (3, .long x3), (5, .int x5)]) 3 d_Search_insert_29 rfl (by rfl) (by decide) rfl ?_
      refine z_goto (tgt := 13) C d_Search_insert_32 (by decide) ?_
      refine z_sub [1, 2, 3, 0] rfl ?_
      exact H13 _ _ _ _ _ hf

set_option maxHeartbeats 4000000 in
set_option maxRecDepth 100000 in
theorem k_Search_insert (N : Nat) {X : zX} (C : zB X prog_5_method_18_code 8 R_Search rm_Search_insert) {h0 : zH} {p : Unit × zH} (E : zR X none rm_Search_insert h0 none p.2) : ∀ (x0 : Nat) (x1 : Nat) (x2 : Int32) (x3 : Int64) (h : zH), f_Search_insert N x0 x1 x2 x3 h = some p → Zt X 8 0 0 0 [(0, .ref x0), (1, .ref x1), (2, .int x2), (3, .long x3)] [] h := by
  intro x0 x1 x2 x3 h hf
  unfold f_Search_insert at hf
  refine z_iload_n C 2 d_Search_insert_0 rfl rfl ?_
  refine z_aload_n C 0 d_Search_insert_1 rfl rfl ?_
  refine z_getI C 8 3 rfl in_Search (by decide) w_425 rfl d_Search_insert_2 hf (fun v6 hf => ?_)
  refine z_iadd C d_Search_insert_5 ?_
  refine z_iconst C (v := (1 : Int32)) d_Search_insert_6 (by decide) ?_
  refine z_isub C d_Search_insert_7 ?_
  refine z_istore C (lv' := [(5, .int ((x2 + v6) - (1 : Int32))), (0, .ref x0), (1, .ref x1), (2, .int x2), (3, .long x3)]) d_Search_insert_8 (by decide) rfl ?_
  refine z_iload_n C 3 d_Search_insert_10 rfl rfl ?_
  refine z_istore C (lv' := [(6, .int x2), (5, .int ((x2 + v6) - (1 : Int32))), (0, .ref x0), (1, .ref x1), (2, .int x2), (3, .long x3)]) d_Search_insert_11 (by decide) rfl ?_
  refine z_sub [3, 5, 1, 0] rfl ?_
  exact k_Search_insert_13 N C E N _ _ _ _ _ hf

theorem c_Search_insert (N : Nat) {l : Launch} {D : va_G} {T : List (ClassId × FieldType)} (hT : T.map (fun q => q.2) = ztl) {x0 : Nat} {x1 : Nat} {x2 : Int32} {x3 : Int64} {h : zH} {p : Unit × zH} (hf : f_Search_insert N x0 x1 x2 x3 h = some p) : zM l y_Search_insert prog_5_method_18_code 8 none rm_Search_insert D T [.ref x0, .ref x1, .int x2, .long x3] h none p.2 :=
  z_enter (by decide) hT (Nat.le_of_ble_eq_true rfl) (fun X el eD eT hin C E => k_Search_insert N C E x0 x1 x2 x3 h hf)
/-! ===== LevelTables$Spans.suits(LLevelTables$Site;III)Z ===== -/
abbrev y_Spans_suits : MethodName := ⟨R_Spans, "suits", "(LLevelTables$Site;III)Z"⟩
theorem pd_Spans_suits : y_Spans_suits.cls ≠ "java/lang/invoke/MethodHandle" ∧ y_Spans_suits.cls ≠ "java/lang/invoke/VarHandle" ∧ (parseMethodDescriptor y_Spans_suits.desc).map (fun d => d.parameters.length) = some 4 := ⟨by decide +kernel, by decide +kernel, by decide +kernel⟩
abbrev rm_Spans_suits : Room := { frames := 1, cells := 0, slots := 0, locals := 23 }
def f_Spans_suits_81 (N : Nat) (rc10 : Nat → Nat → Int32 → Int32 → Int32 → Int32 → zH → Option (Int32 × zH)) (x0 : Nat) (x1 : Nat) (x2 : Int32) (x3 : Int32) (x4 : Int32) (x5 : Int32) (x6 : Int32) (s0 : Int32) (h : zH) : Option (Int32 × zH) :=
  (if s0 = 0 then
    zrb (0 : Int32) h
  else
    Option.bind (zck (zis h x1 2) (f_Site_allows N x1 x5 x6 h)) fun (p1 : Int32 × zH) =>
    (if p1.1 = 0 then
      zrb (0 : Int32) p1.2
    else
      rc10 x0 x1 x2 x3 x4 (x5 + (1 : Int32)) p1.2))
def b_Spans_suits_10 (N : Nat) (rc10 : Nat → Nat → Int32 → Int32 → Int32 → Int32 → zH → Option (Int32 × zH)) (x0 : Nat) (x1 : Nat) (x2 : Int32) (x3 : Int32) (x4 : Int32) (x5 : Int32) (h : zH) : Option (Int32 × zH) :=
  Option.bind (zgR h x0 3 2) fun (v2 : Nat) =>
  Option.bind (zaI h 0 v2 x2) fun (v3 : Int32) =>
  (if v3 ≤ x5 then
    zrb (1 : Int32) h
  else
    Option.bind (zgR h x0 3 1) fun (v4 : Nat) =>
    Option.bind (zaI h 0 v4 x2) fun (v5 : Int32) =>
    Option.bind (zgR h x1 2 2) fun (v6 : Nat) =>
    Option.bind (zaI h 0 v6 x5) fun (v7 : Int32) =>
    Option.bind (zgR h x0 3 3) fun (v8 : Nat) =>
    Option.bind (zaI h 0 v8 x2) fun (v9 : Int32) =>
    (if v9 = 0 then
      (if ((x3 + (x4 * (x5 - v5))) - v7) < 0 then
        f_Spans_suits_81 N rc10 x0 x1 x2 x3 x4 x5 (x3 + (x4 * (x5 - v5))) (0 : Int32) h
      else
        f_Spans_suits_81 N rc10 x0 x1 x2 x3 x4 x5 (x3 + (x4 * (x5 - v5))) (1 : Int32) h)
    else
      (if 0 < ((x3 + (x4 * (x5 - v5))) - v7) then
        f_Spans_suits_81 N rc10 x0 x1 x2 x3 x4 x5 (x3 + (x4 * (x5 - v5))) (0 : Int32) h
      else
        f_Spans_suits_81 N rc10 x0 x1 x2 x3 x4 x5 (x3 + (x4 * (x5 - v5))) (1 : Int32) h)))
def f_Spans_suits_10 (N : Nat) : Nat → Nat → Nat → Int32 → Int32 → Int32 → Int32 → zH → Option (Int32 × zH)
  | 0 => fun _ _ _ _ _ _ _ => none
  | n + 1 => fun x0 x1 x2 x3 x4 x5 h => b_Spans_suits_10 N (f_Spans_suits_10 N n) x0 x1 x2 x3 x4 x5 h
def f_Spans_suits (N : Nat) (x0 : Nat) (x1 : Nat) (x2 : Int32) (x3 : Int32) (x4 : Int32) (h : zH) : Option (Int32 × zH) :=
  Option.bind (zgR h x0 3 1) fun (v10 : Nat) =>
  Option.bind (zaI h 0 v10 x2) fun (v11 : Int32) =>
  f_Spans_suits_10 N N x0 x1 x2 x3 x4 (v11 + (1 : Int32)) h
theorem d_Spans_suits_0 : decode prog_7_method_7_code 0 = .ok (.aload_n (0), 1) := by decide +kernel
theorem d_Spans_suits_1 : decode prog_7_method_7_code 1 = .ok (.getfield (15), 3) := by decide +kernel
theorem d_Spans_suits_4 : decode prog_7_method_7_code 4 = .ok (.iload_n (2), 1) := by decide +kernel
theorem d_Spans_suits_5 : decode prog_7_method_7_code 5 = .ok (.iaload, 1) := by decide +kernel
theorem d_Spans_suits_6 : decode prog_7_method_7_code 6 = .ok (.iconst (1), 1) := by decide +kernel
theorem d_Spans_suits_7 : decode prog_7_method_7_code 7 = .ok (.iadd, 1) := by decide +kernel
theorem d_Spans_suits_8 : decode prog_7_method_7_code 8 = .ok (.istore (5), 2) := by decide +kernel
theorem d_Spans_suits_10 : decode prog_7_method_7_code 10 = .ok (.iload (5), 2) := by decide +kernel
theorem d_Spans_suits_12 : decode prog_7_method_7_code 12 = .ok (.aload_n (0), 1) := by decide +kernel
theorem d_Spans_suits_13 : decode prog_7_method_7_code 13 = .ok (.getfield (19), 3) := by decide +kernel
theorem d_Spans_suits_16 : decode prog_7_method_7_code 16 = .ok (.iload_n (2), 1) := by decide +kernel
theorem d_Spans_suits_17 : decode prog_7_method_7_code 17 = .ok (.iaload, 1) := by decide +kernel
theorem d_Spans_suits_18 : decode prog_7_method_7_code 18 = .ok (.if_icmp .ge (89), 3) := by decide +kernel
theorem d_Spans_suits_21 : decode prog_7_method_7_code 21 = .ok (.iload_n (3), 1) := by decide +kernel
theorem d_Spans_suits_22 : decode prog_7_method_7_code 22 = .ok (.iload (4), 2) := by decide +kernel
theorem d_Spans_suits_24 : decode prog_7_method_7_code 24 = .ok (.iload (5), 2) := by decide +kernel
theorem d_Spans_suits_26 : decode prog_7_method_7_code 26 = .ok (.aload_n (0), 1) := by decide +kernel
theorem d_Spans_suits_27 : decode prog_7_method_7_code 27 = .ok (.getfield (15), 3) := by decide +kernel
theorem d_Spans_suits_30 : decode prog_7_method_7_code 30 = .ok (.iload_n (2), 1) := by decide +kernel
theorem d_Spans_suits_31 : decode prog_7_method_7_code 31 = .ok (.iaload, 1) := by decide +kernel
theorem d_Spans_suits_32 : decode prog_7_method_7_code 32 = .ok (.isub, 1) := by decide +kernel
theorem d_Spans_suits_33 : decode prog_7_method_7_code 33 = .ok (.imul, 1) := by decide +kernel
theorem d_Spans_suits_34 : decode prog_7_method_7_code 34 = .ok (.iadd, 1) := by decide +kernel
theorem d_Spans_suits_35 : decode prog_7_method_7_code 35 = .ok (.istore (6), 2) := by decide +kernel
theorem d_Spans_suits_37 : decode prog_7_method_7_code 37 = .ok (.iload (6), 2) := by decide +kernel
theorem d_Spans_suits_39 : decode prog_7_method_7_code 39 = .ok (.aload_n (1), 1) := by decide +kernel
theorem d_Spans_suits_40 : decode prog_7_method_7_code 40 = .ok (.getfield (29), 3) := by decide +kernel
theorem d_Spans_suits_43 : decode prog_7_method_7_code 43 = .ok (.iload (5), 2) := by decide +kernel
theorem d_Spans_suits_45 : decode prog_7_method_7_code 45 = .ok (.iaload, 1) := by decide +kernel
theorem d_Spans_suits_46 : decode prog_7_method_7_code 46 = .ok (.isub, 1) := by decide +kernel
theorem d_Spans_suits_47 : decode prog_7_method_7_code 47 = .ok (.istore (7), 2) := by decide +kernel
theorem d_Spans_suits_49 : decode prog_7_method_7_code 49 = .ok (.aload_n (0), 1) := by decide +kernel
theorem d_Spans_suits_50 : decode prog_7_method_7_code 50 = .ok (.getfield (22), 3) := by decide +kernel
theorem d_Spans_suits_53 : decode prog_7_method_7_code 53 = .ok (.iload_n (2), 1) := by decide +kernel
theorem d_Spans_suits_54 : decode prog_7_method_7_code 54 = .ok (.iaload, 1) := by decide +kernel
theorem d_Spans_suits_55 : decode prog_7_method_7_code 55 = .ok (.ifCond .ne (16), 3) := by decide +kernel
theorem d_Spans_suits_58 : decode prog_7_method_7_code 58 = .ok (.iload (7), 2) := by decide +kernel
theorem d_Spans_suits_60 : decode prog_7_method_7_code 60 = .ok (.ifCond .lt (7), 3) := by decide +kernel
theorem d_Spans_suits_63 : decode prog_7_method_7_code 63 = .ok (.iconst (1), 1) := by decide +kernel
theorem d_Spans_suits_64 : decode prog_7_method_7_code 64 = .ok (.goto (17), 3) := by decide +kernel
theorem d_Spans_suits_67 : decode prog_7_method_7_code 67 = .ok (.iconst (0), 1) := by decide +kernel
theorem d_Spans_suits_68 : decode prog_7_method_7_code 68 = .ok (.goto (13), 3) := by decide +kernel
theorem d_Spans_suits_71 : decode prog_7_method_7_code 71 = .ok (.iload (7), 2) := by decide +kernel
theorem d_Spans_suits_73 : decode prog_7_method_7_code 73 = .ok (.ifCond .gt (7), 3) := by decide +kernel
theorem d_Spans_suits_76 : decode prog_7_method_7_code 76 = .ok (.iconst (1), 1) := by decide +kernel
theorem d_Spans_suits_77 : decode prog_7_method_7_code 77 = .ok (.goto (4), 3) := by decide +kernel
theorem d_Spans_suits_80 : decode prog_7_method_7_code 80 = .ok (.iconst (0), 1) := by decide +kernel
theorem d_Spans_suits_81 : decode prog_7_method_7_code 81 = .ok (.istore (8), 2) := by decide +kernel
theorem d_Spans_suits_83 : decode prog_7_method_7_code 83 = .ok (.iload (8), 2) := by decide +kernel
theorem d_Spans_suits_85 : decode prog_7_method_7_code 85 = .ok (.ifCond .eq (14), 3) := by decide +kernel
theorem d_Spans_suits_88 : decode prog_7_method_7_code 88 = .ok (.aload_n (1), 1) := by decide +kernel
theorem d_Spans_suits_89 : decode prog_7_method_7_code 89 = .ok (.iload (5), 2) := by decide +kernel
theorem d_Spans_suits_91 : decode prog_7_method_7_code 91 = .ok (.iload (6), 2) := by decide +kernel
theorem d_Spans_suits_93 : decode prog_7_method_7_code 93 = .ok (.invokevirtual (34), 3) := by decide +kernel
theorem d_Spans_suits_96 : decode prog_7_method_7_code 96 = .ok (.ifCond .ne (5), 3) := by decide +kernel
theorem d_Spans_suits_99 : decode prog_7_method_7_code 99 = .ok (.iconst (0), 1) := by decide +kernel
theorem d_Spans_suits_100 : decode prog_7_method_7_code 100 = .ok (.ireturn, 1) := by decide +kernel
theorem d_Spans_suits_101 : decode prog_7_method_7_code 101 = .ok (.iinc (5) (1), 3) := by decide +kernel
theorem d_Spans_suits_104 : decode prog_7_method_7_code 104 = .ok (.goto (-94), 3) := by decide +kernel
theorem d_Spans_suits_107 : decode prog_7_method_7_code 107 = .ok (.iconst (1), 1) := by decide +kernel
theorem d_Spans_suits_108 : decode prog_7_method_7_code 108 = .ok (.ireturn, 1) := by decide +kernel
set_option maxHeartbeats 4000000 in
set_option maxRecDepth 100000 in
theorem k_Spans_suits_81 (N : Nat) {X : zX} (C : zB X prog_7_method_7_code 9 R_Spans rm_Spans_suits) {h0 : zH} {p : Int32 × zH} (E : zR X (some .boolean) rm_Spans_suits h0 (some (.int p.1)) p.2) {rc10 : Nat → Nat → Int32 → Int32 → Int32 → Int32 → zH → Option (Int32 × zH)} (H10 : ∀ (x0 : Nat) (x1 : Nat) (x2 : Int32) (x3 : Int32) (x4 : Int32) (x5 : Int32) (h : zH), rc10 x0 x1 x2 x3 x4 x5 h = some p → Zt X 9 0 0 10 [(0, .ref x0), (1, .ref x1), (2, .int x2), (3, .int x3), (4, .int x4), (5, .int x5)] [] h) : ∀ (x0 : Nat) (x1 : Nat) (x2 : Int32) (x3 : Int32) (x4 : Int32) (x5 : Int32) (x6 : Int32) (s0 : Int32) (h : zH), f_Spans_suits_81 N rc10 x0 x1 x2 x3 x4 x5 x6 s0 h = some p → Zt X 9 0 0 81 [(0, .ref x0), (1, .ref x1), (2, .int x2), (3, .int x3), (4, .int x4), (5, .int x5), (6, .int x6)] [.int s0] h := by
  intro x0 x1 x2 x3 x4 x5 x6 s0 h hf
  unfold f_Spans_suits_81 at hf
  refine z_istore C (lv' := [(8, .int s0), (0, .ref x0), (1, .ref x1), (2, .int x2), (3, .int x3), (4, .int x4), (5, .int x5), (6, .int x6)]) d_Spans_suits_81 (by decide) rfl ?_
  refine z_iload C 0 d_Spans_suits_83 rfl ?_
  refine z_if_eq (tgt := 99) C d_Spans_suits_85 (by decide) hf (fun hf => ?_) (fun hf => ?_)
  · refine z_iconst C (v := (0 : Int32)) d_Spans_suits_99 (by decide) ?_
    exact z_zret C E (Nat.le_of_ble_eq_true rfl) (Nat.le_of_ble_eq_true rfl) d_Spans_suits_100 hf
  · refine z_aload_n C 2 d_Spans_suits_88 rfl rfl ?_
    refine z_iload C 6 d_Spans_suits_89 rfl ?_
    refine z_iload C 7 d_Spans_suits_91 rfl ?_
    obtain ⟨p1, hc, hf⟩ := Option.bind_eq_some_iff.mp hf
    obtain ⟨hz, hc⟩ := zck_some hc
    refine z_callV C (ci := 2) (c_Site_allows N C.2.2.1 hc) rfl hz w_375 w_59 w_520 w_373 w_374 pd_Site_allows rfl ⟨(Nat.le_of_ble_eq_true rfl), (Nat.le_of_ble_eq_true rfl)⟩ ⟨(Nat.le_of_ble_eq_true rfl), (Nat.le_of_ble_eq_true rfl)⟩ rfl (Nat.le_of_ble_eq_true rfl) d_Spans_suits_93 (k' := 0) (n' := 0) (stk' := [.int p1.1]) rfl rfl rfl ?_
    refine z_if_ne (tgt := 101) C d_Spans_suits_96 (by decide) hf (fun hf => ?_) (fun hf => ?_)
    · refine z_iinc C (v := (x5 + (1 : Int32))) (lv' := [(5, .int (x5 + (1 : Int32))), (8, .int s0), (0, .ref x0), (1, .ref x1), (2, .int x2), (3, .int x3), (4, .int x4), (6, .int x6)]) 6 d_Spans_suits_101 rfl (by rfl) (by decide) rfl ?_
      refine z_goto (tgt := 10) C d_Spans_suits_104 (by decide) ?_
      refine z_sub [2, 3, 4, 5, 6, 0] rfl ?_
      exact H10 _ _ _ _ _ _ _ hf
    · refine z_iconst C (v := (0 : Int32)) d_Spans_suits_99 (by decide) ?_
      exact z_zret C E (Nat.le_of_ble_eq_true rfl) (Nat.le_of_ble_eq_true rfl) d_Spans_suits_100 hf

set_option maxHeartbeats 4000000 in
set_option maxRecDepth 100000 in
theorem k_Spans_suits_10 (N : Nat) {X : zX} (C : zB X prog_7_method_7_code 9 R_Spans rm_Spans_suits) {h0 : zH} {p : Int32 × zH} (E : zR X (some .boolean) rm_Spans_suits h0 (some (.int p.1)) p.2) : ∀ n : Nat, ∀ (x0 : Nat) (x1 : Nat) (x2 : Int32) (x3 : Int32) (x4 : Int32) (x5 : Int32) (h : zH), f_Spans_suits_10 N n x0 x1 x2 x3 x4 x5 h = some p → Zt X 9 0 0 10 [(0, .ref x0), (1, .ref x1), (2, .int x2), (3, .int x3), (4, .int x4), (5, .int x5)] [] h := by
  intro n
  induction n with
  | zero => intro x0 x1 x2 x3 x4 x5 h hf; cases hf
  | succ n ih =>
  intro x0 x1 x2 x3 x4 x5 h hf
  have H10 := ih
  replace hf : b_Spans_suits_10 N (f_Spans_suits_10 N n) x0 x1 x2 x3 x4 x5 h = some p := hf
  unfold b_Spans_suits_10 at hf
  refine z_iload C 5 d_Spans_suits_10 rfl ?_
  refine z_aload_n C 0 d_Spans_suits_12 rfl rfl ?_
  refine z_getR C 3 2 rfl in_Spans (by decide) w_155 rfl d_Spans_suits_13 hf (fun v2 hf => ?_)
  refine z_iload_n C 2 d_Spans_suits_16 rfl rfl ?_
  refine z_iald C d_Spans_suits_17 hf (fun v3 hf => ?_)
  refine z_ic_ge (tgt := 107) C d_Spans_suits_18 (by decide) hf (fun hf => ?_) (fun hf => ?_)
  · refine z_iconst C (v := (1 : Int32)) d_Spans_suits_107 (by decide) ?_
    exact z_zret C E (Nat.le_of_ble_eq_true rfl) (Nat.le_of_ble_eq_true rfl) d_Spans_suits_108 hf
  · refine z_iload_n C 3 d_Spans_suits_21 rfl rfl ?_
    refine z_iload C 4 d_Spans_suits_22 rfl ?_
    refine z_iload C 5 d_Spans_suits_24 rfl ?_
    refine z_aload_n C 0 d_Spans_suits_26 rfl rfl ?_
    refine z_getR C 3 1 rfl in_Spans (by decide) w_152 rfl d_Spans_suits_27 hf (fun v4 hf => ?_)
    refine z_iload_n C 2 d_Spans_suits_30 rfl rfl ?_
    refine z_iald C d_Spans_suits_31 hf (fun v5 hf => ?_)
    refine z_isub C d_Spans_suits_32 ?_
    refine z_imul C d_Spans_suits_33 ?_
    refine z_iadd C d_Spans_suits_34 ?_
    refine z_istore C (lv' := [(6, .int (x3 + (x4 * (x5 - v5)))), (0, .ref x0), (1, .ref x1), (2, .int x2), (3, .int x3), (4, .int x4), (5, .int x5)]) d_Spans_suits_35 (by decide) rfl ?_
    refine z_iload C 0 d_Spans_suits_37 rfl ?_
    refine z_aload_n C 2 d_Spans_suits_39 rfl rfl ?_
    refine z_getR C 2 2 rfl in_Site (by decide) w_104 rfl d_Spans_suits_40 hf (fun v6 hf => ?_)
    refine z_iload C 6 d_Spans_suits_43 rfl ?_
    refine z_iald C d_Spans_suits_45 hf (fun v7 hf => ?_)
    refine z_isub C d_Spans_suits_46 ?_
    refine z_istore C (lv' := [(7, .int ((x3 + (x4 * (x5 - v5))) - v7)), (6, .int (x3 + (x4 * (x5 - v5)))), (0, .ref x0), (1, .ref x1), (2, .int x2), (3, .int x3), (4, .int x4), (5, .int x5)]) d_Spans_suits_47 (by decide) rfl ?_
    refine z_aload_n C 2 d_Spans_suits_49 rfl rfl ?_
    refine z_getR C 3 3 rfl in_Spans (by decide) w_158 rfl d_Spans_suits_50 hf (fun v8 hf => ?_)
    refine z_iload_n C 4 d_Spans_suits_53 rfl rfl ?_
    refine z_iald C d_Spans_suits_54 hf (fun v9 hf => ?_)
    refine z_if_ne (tgt := 71) C d_Spans_suits_55 (by decide) hf (fun hf => ?_) (fun hf => ?_)
    · refine z_iload C 0 d_Spans_suits_71 rfl ?_
      refine z_if_gt (tgt := 80) C d_Spans_suits_73 (by decide) hf (fun hf => ?_) (fun hf => ?_)
      · refine z_iconst C (v := (0 : Int32)) d_Spans_suits_80 (by decide) ?_
        refine z_sub [2, 3, 4, 5, 6, 7, 1] rfl ?_
        exact k_Spans_suits_81 N C E H10 _ _ _ _ _ _ _ _ _ hf
      · refine z_iconst C (v := (1 : Int32)) d_Spans_suits_76 (by decide) ?_
        refine z_goto (tgt := 81) C d_Spans_suits_77 (by decide) ?_
        refine z_sub [2, 3, 4, 5, 6, 7, 1] rfl ?_
        exact k_Spans_suits_81 N C E H10 _ _ _ _ _ _ _ _ _ hf
    · refine z_iload C 0 d_Spans_suits_58 rfl ?_
      refine z_if_lt (tgt := 67) C d_Spans_suits_60 (by decide) hf (fun hf => ?_) (fun hf => ?_)
      · refine z_iconst C (v := (0 : Int32)) d_Spans_suits_67 (by decide) ?_
        refine z_goto (tgt := 81) C d_Spans_suits_68 (by decide) ?_
        refine z_sub [2, 3, 4, 5, 6, 7, 1] rfl ?_
        exact k_Spans_suits_81 N C E H10 _ _ _ _ _ _ _ _ _ hf
      · refine z_iconst C (v := (1 : Int32)) d_Spans_suits_63 (by decide) ?_
        refine z_goto (tgt := 81) C d_Spans_suits_64 (by decide) ?_
        refine z_sub [2, 3, 4, 5, 6, 7, 1] rfl ?_
        exact k_Spans_suits_81 N C E H10 _ _ _ _ _ _ _ _ _ hf

set_option maxHeartbeats 4000000 in
set_option maxRecDepth 100000 in
theorem k_Spans_suits (N : Nat) {X : zX} (C : zB X prog_7_method_7_code 9 R_Spans rm_Spans_suits) {h0 : zH} {p : Int32 × zH} (E : zR X (some .boolean) rm_Spans_suits h0 (some (.int p.1)) p.2) : ∀ (x0 : Nat) (x1 : Nat) (x2 : Int32) (x3 : Int32) (x4 : Int32) (h : zH), f_Spans_suits N x0 x1 x2 x3 x4 h = some p → Zt X 9 0 0 0 [(0, .ref x0), (1, .ref x1), (2, .int x2), (3, .int x3), (4, .int x4)] [] h := by
  intro x0 x1 x2 x3 x4 h hf
  unfold f_Spans_suits at hf
  refine z_aload_n C 0 d_Spans_suits_0 rfl rfl ?_
  refine z_getR C 3 1 rfl in_Spans (by decide) w_152 rfl d_Spans_suits_1 hf (fun v10 hf => ?_)
  refine z_iload_n C 2 d_Spans_suits_4 rfl rfl ?_
  refine z_iald C d_Spans_suits_5 hf (fun v11 hf => ?_)
  refine z_iconst C (v := (1 : Int32)) d_Spans_suits_6 (by decide) ?_
  refine z_iadd C d_Spans_suits_7 ?_
  refine z_istore C (lv' := [(5, .int (v11 + (1 : Int32))), (0, .ref x0), (1, .ref x1), (2, .int x2), (3, .int x3), (4, .int x4)]) d_Spans_suits_8 (by decide) rfl ?_
  refine z_sub [1, 2, 3, 4, 5, 0] rfl ?_
  exact k_Spans_suits_10 N C E N _ _ _ _ _ _ _ hf

theorem c_Spans_suits (N : Nat) {l : Launch} {D : va_G} {T : List (ClassId × FieldType)} (hT : T.map (fun q => q.2) = ztl) {x0 : Nat} {x1 : Nat} {x2 : Int32} {x3 : Int32} {x4 : Int32} {h : zH} {p : Int32 × zH} (hf : f_Spans_suits N x0 x1 x2 x3 x4 h = some p) : zM l y_Spans_suits prog_7_method_7_code 9 (some .boolean) rm_Spans_suits D T [.ref x0, .ref x1, .int x2, .int x3, .int x4] h (some (.int p.1)) p.2 :=
  z_enter (by decide) hT (Nat.le_of_ble_eq_true rfl) (fun X el eD eT hin C E => k_Spans_suits N C E x0 x1 x2 x3 x4 h hf)
/-! ===== LevelTables$Search.slotOfEnd(I)I ===== -/
abbrev y_Search_slotOfEnd : MethodName := ⟨R_Search, "slotOfEnd", "(I)I"⟩
theorem pd_Search_slotOfEnd : y_Search_slotOfEnd.cls ≠ "java/lang/invoke/MethodHandle" ∧ y_Search_slotOfEnd.cls ≠ "java/lang/invoke/VarHandle" ∧ (parseMethodDescriptor y_Search_slotOfEnd.desc).map (fun d => d.parameters.length) = some 1 := ⟨by decide +kernel, by decide +kernel, by decide +kernel⟩
abbrev rm_Search_slotOfEnd : Room := { frames := 0, cells := 0, slots := 0, locals := 0 }
def f_Search_slotOfEnd (N : Nat) (x0 : Nat) (x1 : Int32) (h : zH) : Option (Int32 × zH) :=
  Option.bind (zgI h x0 8 4) fun (v1 : Int32) =>
  (if v1 = 0 then
    some ((2 : Int32), h)
  else
    some (x1, h))
theorem d_Search_slotOfEnd_0 : decode prog_5_method_5_code 0 = .ok (.aload_n (0), 1) := by decide +kernel
theorem d_Search_slotOfEnd_1 : decode prog_5_method_5_code 1 = .ok (.getfield (34), 3) := by decide +kernel
theorem d_Search_slotOfEnd_4 : decode prog_5_method_5_code 4 = .ok (.ifCond .eq (7), 3) := by decide +kernel
theorem d_Search_slotOfEnd_7 : decode prog_5_method_5_code 7 = .ok (.iload_n (1), 1) := by decide +kernel
theorem d_Search_slotOfEnd_8 : decode prog_5_method_5_code 8 = .ok (.goto (4), 3) := by decide +kernel
theorem d_Search_slotOfEnd_11 : decode prog_5_method_5_code 11 = .ok (.iconst (2), 1) := by decide +kernel
theorem d_Search_slotOfEnd_12 : decode prog_5_method_5_code 12 = .ok (.ireturn, 1) := by decide +kernel
set_option maxHeartbeats 4000000 in
set_option maxRecDepth 100000 in
theorem k_Search_slotOfEnd (N : Nat) {X : zX} (C : zB X prog_5_method_5_code 2 R_Search rm_Search_slotOfEnd) {h0 : zH} {p : Int32 × zH} (E : zR X (some .int) rm_Search_slotOfEnd h0 (some (.int p.1)) p.2) : ∀ (x0 : Nat) (x1 : Int32) (h : zH), f_Search_slotOfEnd N x0 x1 h = some p → Zt X 2 0 0 0 [(0, .ref x0), (1, .int x1)] [] h := by
  intro x0 x1 h hf
  unfold f_Search_slotOfEnd at hf
  refine z_aload_n C 0 d_Search_slotOfEnd_0 rfl rfl ?_
  refine z_getI C 8 4 rfl in_Search (by decide) w_426 rfl d_Search_slotOfEnd_1 hf (fun v1 hf => ?_)
  refine z_if_eq (tgt := 11) C d_Search_slotOfEnd_4 (by decide) hf (fun hf => ?_) (fun hf => ?_)
  · refine z_iconst C (v := (2 : Int32)) d_Search_slotOfEnd_11 (by decide) ?_
    exact z_iret C E (Nat.le_of_ble_eq_true rfl) (Nat.le_of_ble_eq_true rfl) d_Search_slotOfEnd_12 hf
  · refine z_iload_n C 1 d_Search_slotOfEnd_7 rfl rfl ?_
    refine z_goto (tgt := 12) C d_Search_slotOfEnd_8 (by decide) ?_
    exact z_iret C E (Nat.le_of_ble_eq_true rfl) (Nat.le_of_ble_eq_true rfl) d_Search_slotOfEnd_12 hf

theorem c_Search_slotOfEnd (N : Nat) {l : Launch} {D : va_G} {T : List (ClassId × FieldType)} (hT : T.map (fun q => q.2) = ztl) {x0 : Nat} {x1 : Int32} {h : zH} {p : Int32 × zH} (hf : f_Search_slotOfEnd N x0 x1 h = some p) : zM l y_Search_slotOfEnd prog_5_method_5_code 2 (some .int) rm_Search_slotOfEnd D T [.ref x0, .int x1] h (some (.int p.1)) p.2 :=
  z_enter (by decide) hT (Nat.le_of_ble_eq_true rfl) (fun X el eD eT hin C E => k_Search_slotOfEnd N C E x0 x1 h hf)
/-! ===== LevelTables$Spans.anyEndsAt(I)Z ===== -/
abbrev y_Spans_anyEndsAt : MethodName := ⟨R_Spans, "anyEndsAt", "(I)Z"⟩
theorem pd_Spans_anyEndsAt : y_Spans_anyEndsAt.cls ≠ "java/lang/invoke/MethodHandle" ∧ y_Spans_anyEndsAt.cls ≠ "java/lang/invoke/VarHandle" ∧ (parseMethodDescriptor y_Spans_anyEndsAt.desc).map (fun d => d.parameters.length) = some 1 := ⟨by decide +kernel, by decide +kernel, by decide +kernel⟩
abbrev rm_Spans_anyEndsAt : Room := { frames := 0, cells := 0, slots := 0, locals := 0 }
def b_Spans_anyEndsAt_2 (N : Nat) (rc2 : Nat → Int32 → Int32 → zH → Option (Int32 × zH)) (x0 : Nat) (x1 : Int32) (x2 : Int32) (h : zH) : Option (Int32 × zH) :=
  Option.bind (zgI h x0 3 0) fun (v1 : Int32) =>
  (if v1 ≤ x2 then
    zrb (0 : Int32) h
  else
    Option.bind (zgR h x0 3 2) fun (v2 : Nat) =>
    Option.bind (zaI h 0 v2 x2) fun (v3 : Int32) =>
    (if v3 = x1 then
      zrb (1 : Int32) h
    else
      rc2 x0 x1 (x2 + (1 : Int32)) h))
def f_Spans_anyEndsAt_2 (N : Nat) : Nat → Nat → Int32 → Int32 → zH → Option (Int32 × zH)
  | 0 => fun _ _ _ _ => none
  | n + 1 => fun x0 x1 x2 h => b_Spans_anyEndsAt_2 N (f_Spans_anyEndsAt_2 N n) x0 x1 x2 h
def f_Spans_anyEndsAt (N : Nat) (x0 : Nat) (x1 : Int32) (h : zH) : Option (Int32 × zH) :=
  f_Spans_anyEndsAt_2 N N x0 x1 (0 : Int32) h
theorem d_Spans_anyEndsAt_0 : decode prog_7_method_6_code 0 = .ok (.iconst (0), 1) := by decide +kernel
theorem d_Spans_anyEndsAt_1 : decode prog_7_method_6_code 1 = .ok (.istore_n (2), 1) := by decide +kernel
theorem d_Spans_anyEndsAt_2 : decode prog_7_method_6_code 2 = .ok (.iload_n (2), 1) := by decide +kernel
theorem d_Spans_anyEndsAt_3 : decode prog_7_method_6_code 3 = .ok (.aload_n (0), 1) := by decide +kernel
theorem d_Spans_anyEndsAt_4 : decode prog_7_method_6_code 4 = .ok (.getfield (9), 3) := by decide +kernel
theorem d_Spans_anyEndsAt_7 : decode prog_7_method_6_code 7 = .ok (.if_icmp .ge (21), 3) := by decide +kernel
theorem d_Spans_anyEndsAt_10 : decode prog_7_method_6_code 10 = .ok (.aload_n (0), 1) := by decide +kernel
theorem d_Spans_anyEndsAt_11 : decode prog_7_method_6_code 11 = .ok (.getfield (19), 3) := by decide +kernel
theorem d_Spans_anyEndsAt_14 : decode prog_7_method_6_code 14 = .ok (.iload_n (2), 1) := by decide +kernel
theorem d_Spans_anyEndsAt_15 : decode prog_7_method_6_code 15 = .ok (.iaload, 1) := by decide +kernel
theorem d_Spans_anyEndsAt_16 : decode prog_7_method_6_code 16 = .ok (.iload_n (1), 1) := by decide +kernel
theorem d_Spans_anyEndsAt_17 : decode prog_7_method_6_code 17 = .ok (.if_icmp .ne (5), 3) := by decide +kernel
theorem d_Spans_anyEndsAt_20 : decode prog_7_method_6_code 20 = .ok (.iconst (1), 1) := by decide +kernel
theorem d_Spans_anyEndsAt_21 : decode prog_7_method_6_code 21 = .ok (.ireturn, 1) := by decide +kernel
theorem d_Spans_anyEndsAt_22 : decode prog_7_method_6_code 22 = .ok (.iinc (2) (1), 3) := by decide +kernel
theorem d_Spans_anyEndsAt_25 : decode prog_7_method_6_code 25 = .ok (.goto (-23), 3) := by decide +kernel
theorem d_Spans_anyEndsAt_28 : decode prog_7_method_6_code 28 = .ok (.iconst (0), 1) := by decide +kernel
theorem d_Spans_anyEndsAt_29 : decode prog_7_method_6_code 29 = .ok (.ireturn, 1) := by decide +kernel
set_option maxHeartbeats 4000000 in
set_option maxRecDepth 100000 in
theorem k_Spans_anyEndsAt_2 (N : Nat) {X : zX} (C : zB X prog_7_method_6_code 3 R_Spans rm_Spans_anyEndsAt) {h0 : zH} {p : Int32 × zH} (E : zR X (some .boolean) rm_Spans_anyEndsAt h0 (some (.int p.1)) p.2) : ∀ n : Nat, ∀ (x0 : Nat) (x1 : Int32) (x2 : Int32) (h : zH), f_Spans_anyEndsAt_2 N n x0 x1 x2 h = some p → Zt X 3 0 0 2 [(0, .ref x0), (1, .int x1), (2, .int x2)] [] h := by
  intro n
  induction n with
  | zero => intro x0 x1 x2 h hf; cases hf
  | succ n ih =>
  intro x0 x1 x2 h hf
  have H2 := ih
  replace hf : b_Spans_anyEndsAt_2 N (f_Spans_anyEndsAt_2 N n) x0 x1 x2 h = some p := hf
  unfold b_Spans_anyEndsAt_2 at hf
  refine z_iload_n C 2 d_Spans_anyEndsAt_2 rfl rfl ?_
  refine z_aload_n C 0 d_Spans_anyEndsAt_3 rfl rfl ?_
  refine z_getI C 3 0 rfl in_Spans (by decide) w_149 rfl d_Spans_anyEndsAt_4 hf (fun v1 hf => ?_)
  refine z_ic_ge (tgt := 28) C d_Spans_anyEndsAt_7 (by decide) hf (fun hf => ?_) (fun hf => ?_)
  · refine z_iconst C (v := (0 : Int32)) d_Spans_anyEndsAt_28 (by decide) ?_
    exact z_zret C E (Nat.le_of_ble_eq_true rfl) (Nat.le_of_ble_eq_true rfl) d_Spans_anyEndsAt_29 hf
  · refine z_aload_n C 0 d_Spans_anyEndsAt_10 rfl rfl ?_
    refine z_getR C 3 2 rfl in_Spans (by decide) w_155 rfl d_Spans_anyEndsAt_11 hf (fun v2 hf => ?_)
    refine z_iload_n C 2 d_Spans_anyEndsAt_14 rfl rfl ?_
    refine z_iald C d_Spans_anyEndsAt_15 hf (fun v3 hf => ?_)
    refine z_iload_n C 1 d_Spans_anyEndsAt_16 rfl rfl ?_
    refine z_ic_ne (tgt := 22) C d_Spans_anyEndsAt_17 (by decide) hf (fun hf => ?_) (fun hf => ?_)
    · refine z_iinc C (v := (x2 + (1 : Int32))) (lv' := [(2, .int (x2 + (1 : Int32))), (0, .ref x0), (1, .int x1)]) 2 d_Spans_anyEndsAt_22 rfl (by rfl) (by decide) rfl ?_
      refine z_goto (tgt := 2) C d_Spans_anyEndsAt_25 (by decide) ?_
      refine z_sub [1, 2, 0] rfl ?_
      exact H2 _ _ _ _ hf
    · refine z_iconst C (v := (1 : Int32)) d_Spans_anyEndsAt_20 (by decide) ?_
      exact z_zret C E (Nat.le_of_ble_eq_true rfl) (Nat.le_of_ble_eq_true rfl) d_Spans_anyEndsAt_21 hf

set_option maxHeartbeats 4000000 in
set_option maxRecDepth 100000 in
theorem k_Spans_anyEndsAt (N : Nat) {X : zX} (C : zB X prog_7_method_6_code 3 R_Spans rm_Spans_anyEndsAt) {h0 : zH} {p : Int32 × zH} (E : zR X (some .boolean) rm_Spans_anyEndsAt h0 (some (.int p.1)) p.2) : ∀ (x0 : Nat) (x1 : Int32) (h : zH), f_Spans_anyEndsAt N x0 x1 h = some p → Zt X 3 0 0 0 [(0, .ref x0), (1, .int x1)] [] h := by
  intro x0 x1 h hf
  unfold f_Spans_anyEndsAt at hf
  refine z_iconst C (v := (0 : Int32)) d_Spans_anyEndsAt_0 (by decide) ?_
  refine z_istore_n C (lv' := [(2, .int (0 : Int32)), (0, .ref x0), (1, .int x1)]) d_Spans_anyEndsAt_1 rfl (by decide) rfl ?_
  refine z_sub [1, 2, 0] rfl ?_
  exact k_Spans_anyEndsAt_2 N C E N _ _ _ _ hf

theorem c_Spans_anyEndsAt (N : Nat) {l : Launch} {D : va_G} {T : List (ClassId × FieldType)} (hT : T.map (fun q => q.2) = ztl) {x0 : Nat} {x1 : Int32} {h : zH} {p : Int32 × zH} (hf : f_Spans_anyEndsAt N x0 x1 h = some p) : zM l y_Spans_anyEndsAt prog_7_method_6_code 3 (some .boolean) rm_Spans_anyEndsAt D T [.ref x0, .int x1] h (some (.int p.1)) p.2 :=
  z_enter (by decide) hT (Nat.le_of_ble_eq_true rfl) (fun X el eD eT hin C E => k_Spans_anyEndsAt N C E x0 x1 h hf)
/-! ===== LevelTables$Search.keepLayer(I)V ===== -/
abbrev y_Search_keepLayer : MethodName := ⟨R_Search, "keepLayer", "(I)V"⟩
theorem pd_Search_keepLayer : y_Search_keepLayer.cls ≠ "java/lang/invoke/MethodHandle" ∧ y_Search_keepLayer.cls ≠ "java/lang/invoke/VarHandle" ∧ (parseMethodDescriptor y_Search_keepLayer.desc).map (fun d => d.parameters.length) = some 1 := ⟨by decide +kernel, by decide +kernel, by decide +kernel⟩
abbrev rm_Search_keepLayer : Room := { frames := 1, cells := 0, slots := 0, locals := 60 }
def f_Search_keepLayer (N : Nat) (x0 : Nat) (x1 : Int32) (h : zH) : Option (Unit × zH) :=
  Option.bind (zgR h x0 8 7) fun (v1 : Nat) =>
  Option.bind (zck (zis h x0 8) (f_Search_slotOf N x0 x1 h)) fun (p2 : Int32 × zH) =>
  Option.bind (zaR p2.2 3 v1 p2.1) fun (v3 : Nat) =>
  Option.bind (zgR p2.2 x0 8 7) fun (v4 : Nat) =>
  Option.bind (zaR p2.2 3 v4 (2 : Int32)) fun (v5 : Nat) =>
  Option.bind (zlen p2.2 1 v3) fun (v6 : Int32) =>
  Option.bind (zcpJ p2.2 v3 (0 : Int32) v5 (0 : Int32) v6) fun (h7 : zH) =>
  some ((), h7)
theorem d_Search_keepLayer_0 : decode prog_5_method_6_code 0 = .ok (.aload_n (0), 1) := by decide +kernel
theorem d_Search_keepLayer_1 : decode prog_5_method_6_code 1 = .ok (.getfield (52), 3) := by decide +kernel
theorem d_Search_keepLayer_4 : decode prog_5_method_6_code 4 = .ok (.aload_n (0), 1) := by decide +kernel
theorem d_Search_keepLayer_5 : decode prog_5_method_6_code 5 = .ok (.iload_n (1), 1) := by decide +kernel
theorem d_Search_keepLayer_6 : decode prog_5_method_6_code 6 = .ok (.invokevirtual (82), 3) := by decide +kernel
theorem d_Search_keepLayer_9 : decode prog_5_method_6_code 9 = .ok (.aaload, 1) := by decide +kernel
theorem d_Search_keepLayer_10 : decode prog_5_method_6_code 10 = .ok (.astore_n (2), 1) := by decide +kernel
theorem d_Search_keepLayer_11 : decode prog_5_method_6_code 11 = .ok (.aload_n (2), 1) := by decide +kernel
theorem d_Search_keepLayer_12 : decode prog_5_method_6_code 12 = .ok (.iconst (0), 1) := by decide +kernel
theorem d_Search_keepLayer_13 : decode prog_5_method_6_code 13 = .ok (.aload_n (0), 1) := by decide +kernel
theorem d_Search_keepLayer_14 : decode prog_5_method_6_code 14 = .ok (.getfield (52), 3) := by decide +kernel
theorem d_Search_keepLayer_17 : decode prog_5_method_6_code 17 = .ok (.iconst (2), 1) := by decide +kernel
theorem d_Search_keepLayer_18 : decode prog_5_method_6_code 18 = .ok (.aaload, 1) := by decide +kernel
theorem d_Search_keepLayer_19 : decode prog_5_method_6_code 19 = .ok (.iconst (0), 1) := by decide +kernel
theorem d_Search_keepLayer_20 : decode prog_5_method_6_code 20 = .ok (.aload_n (2), 1) := by decide +kernel
theorem d_Search_keepLayer_21 : decode prog_5_method_6_code 21 = .ok (.arraylength, 1) := by decide +kernel
theorem d_Search_keepLayer_22 : decode prog_5_method_6_code 22 = .ok (.invokestatic (86), 3) := by decide +kernel
theorem d_Search_keepLayer_25 : decode prog_5_method_6_code 25 = .ok (.return_, 1) := by decide +kernel
set_option maxHeartbeats 4000000 in
set_option maxRecDepth 100000 in
theorem k_Search_keepLayer (N : Nat) {X : zX} (C : zB X prog_5_method_6_code 3 R_Search rm_Search_keepLayer) {h0 : zH} {p : Unit × zH} (E : zR X none rm_Search_keepLayer h0 none p.2) : ∀ (x0 : Nat) (x1 : Int32) (h : zH), f_Search_keepLayer N x0 x1 h = some p → Zt X 3 0 0 0 [(0, .ref x0), (1, .int x1)] [] h := by
  intro x0 x1 h hf
  unfold f_Search_keepLayer at hf
  refine z_aload_n C 0 d_Search_keepLayer_0 rfl rfl ?_
  refine z_getR C 8 7 rfl in_Search (by decide) w_429 rfl d_Search_keepLayer_1 hf (fun v1 hf => ?_)
  refine z_aload_n C 0 d_Search_keepLayer_4 rfl rfl ?_
  refine z_iload_n C 1 d_Search_keepLayer_5 rfl rfl ?_
  obtain ⟨p2, hc, hf⟩ := Option.bind_eq_some_iff.mp hf
  obtain ⟨hz, hc⟩ := zck_some hc
  refine z_callV C (ci := 8) (c_Search_slotOf N C.2.2.1 hc) rfl hz w_467 w_67 w_464 w_466 w_7 pd_Search_slotOf rfl ⟨(Nat.le_of_ble_eq_true rfl), (Nat.le_of_ble_eq_true rfl)⟩ ⟨(Nat.le_of_ble_eq_true rfl), (Nat.le_of_ble_eq_true rfl)⟩ rfl (Nat.le_of_ble_eq_true rfl) d_Search_keepLayer_6 (k' := 0) (n' := 0) (stk' := [.int p2.1, .ref v1]) rfl rfl rfl ?_
  refine z_aald C d_Search_keepLayer_9 hf (fun v3 hf => ?_)
  refine z_astore_n C (lv' := [(2, .ref v3), (0, .ref x0), (1, .int x1)]) d_Search_keepLayer_10 rfl (by decide) rfl ?_
  refine z_aload_n C 0 d_Search_keepLayer_11 rfl rfl ?_
  refine z_iconst C (v := (0 : Int32)) d_Search_keepLayer_12 (by decide) ?_
  refine z_aload_n C 1 d_Search_keepLayer_13 rfl rfl ?_
  refine z_getR C 8 7 rfl in_Search (by decide) w_429 rfl d_Search_keepLayer_14 hf (fun v4 hf => ?_)
  refine z_iconst C (v := (2 : Int32)) d_Search_keepLayer_17 (by decide) ?_
  refine z_aald C d_Search_keepLayer_18 hf (fun v5 hf => ?_)
  refine z_iconst C (v := (0 : Int32)) d_Search_keepLayer_19 (by decide) ?_
  refine z_aload_n C 0 d_Search_keepLayer_20 rfl rfl ?_
  refine z_alen C 1 d_Search_keepLayer_21 hf (fun v6 hf => ?_)
  refine z_cpJ C w_531 w_533 w_532 w_68 (Nat.le_of_ble_eq_true rfl) (Nat.le_of_ble_eq_true rfl) d_Search_keepLayer_22 hf (fun h7 hf => ?_)
  exact z_vret C E (Nat.le_of_ble_eq_true rfl) (Nat.le_of_ble_eq_true rfl) d_Search_keepLayer_25 hf

theorem c_Search_keepLayer (N : Nat) {l : Launch} {D : va_G} {T : List (ClassId × FieldType)} (hT : T.map (fun q => q.2) = ztl) {x0 : Nat} {x1 : Int32} {h : zH} {p : Unit × zH} (hf : f_Search_keepLayer N x0 x1 h = some p) : zM l y_Search_keepLayer prog_5_method_6_code 3 none rm_Search_keepLayer D T [.ref x0, .int x1] h none p.2 :=
  z_enter (by decide) hT (Nat.le_of_ble_eq_true rfl) (fun X el eD eT hin C E => k_Search_keepLayer N C E x0 x1 h hf)
/-! ===== LevelTables$Search.wantedAt(LLevelTables$Table;I)J ===== -/
abbrev y_Search_wantedAt : MethodName := ⟨R_Search, "wantedAt", "(LLevelTables$Table;I)J"⟩
theorem pd_Search_wantedAt : y_Search_wantedAt.cls ≠ "java/lang/invoke/MethodHandle" ∧ y_Search_wantedAt.cls ≠ "java/lang/invoke/VarHandle" ∧ (parseMethodDescriptor y_Search_wantedAt.desc).map (fun d => d.parameters.length) = some 2 := ⟨by decide +kernel, by decide +kernel, by decide +kernel⟩
abbrev rm_Search_wantedAt : Room := { frames := 1, cells := 0, slots := 0, locals := 22 }
def f_Search_wantedAt (N : Nat) (x0 : Nat) (x1 : Nat) (x2 : Int32) (h : zH) : Option (Int64 × zH) :=
  (if x2 = 0 then
    Option.bind (zgR h x0 8 9) fun (v9 : Nat) =>
    Option.bind (zaJ h 1 v9 (0 : Int32)) fun (v10 : Int64) =>
    some (v10, h)
  else
    Option.bind (zgR h x0 8 7) fun (v1 : Nat) =>
    Option.bind (zaR h 3 v1 x2) fun (v2 : Nat) =>
    Option.bind (zgR h x1 5 2) fun (v3 : Nat) =>
    Option.bind (zaI h 0 v3 x2) fun (v4 : Int32) =>
    Option.bind (zgR h x1 5 2) fun (v5 : Nat) =>
    Option.bind (zaI h 0 v5 (x2 - (1 : Int32))) fun (v6 : Int32) =>
    Option.bind (zck (zis h x0 8) (f_Search_indexOf N x0 v4 v6 h)) fun (p7 : Int32 × zH) =>
    Option.bind (zaJ p7.2 1 v2 p7.1) fun (v8 : Int64) =>
    some (v8, p7.2))
theorem d_Search_wantedAt_0 : decode prog_5_method_21_code 0 = .ok (.iload_n (2), 1) := by decide +kernel
theorem d_Search_wantedAt_1 : decode prog_5_method_21_code 1 = .ok (.ifCond .ne (10), 3) := by decide +kernel
theorem d_Search_wantedAt_4 : decode prog_5_method_21_code 4 = .ok (.aload_n (0), 1) := by decide +kernel
theorem d_Search_wantedAt_5 : decode prog_5_method_21_code 5 = .ok (.getfield (59), 3) := by decide +kernel
theorem d_Search_wantedAt_8 : decode prog_5_method_21_code 8 = .ok (.iconst (0), 1) := by decide +kernel
theorem d_Search_wantedAt_9 : decode prog_5_method_21_code 9 = .ok (.laload, 1) := by decide +kernel
theorem d_Search_wantedAt_10 : decode prog_5_method_21_code 10 = .ok (.lreturn, 1) := by decide +kernel
theorem d_Search_wantedAt_11 : decode prog_5_method_21_code 11 = .ok (.aload_n (0), 1) := by decide +kernel
theorem d_Search_wantedAt_12 : decode prog_5_method_21_code 12 = .ok (.getfield (52), 3) := by decide +kernel
theorem d_Search_wantedAt_15 : decode prog_5_method_21_code 15 = .ok (.iload_n (2), 1) := by decide +kernel
theorem d_Search_wantedAt_16 : decode prog_5_method_21_code 16 = .ok (.aaload, 1) := by decide +kernel
theorem d_Search_wantedAt_17 : decode prog_5_method_21_code 17 = .ok (.aload_n (0), 1) := by decide +kernel
theorem d_Search_wantedAt_18 : decode prog_5_method_21_code 18 = .ok (.aload_n (1), 1) := by decide +kernel
theorem d_Search_wantedAt_19 : decode prog_5_method_21_code 19 = .ok (.getfield (189), 3) := by decide +kernel
theorem d_Search_wantedAt_22 : decode prog_5_method_21_code 22 = .ok (.iload_n (2), 1) := by decide +kernel
theorem d_Search_wantedAt_23 : decode prog_5_method_21_code 23 = .ok (.iaload, 1) := by decide +kernel
theorem d_Search_wantedAt_24 : decode prog_5_method_21_code 24 = .ok (.aload_n (1), 1) := by decide +kernel
theorem d_Search_wantedAt_25 : decode prog_5_method_21_code 25 = .ok (.getfield (189), 3) := by decide +kernel
theorem d_Search_wantedAt_28 : decode prog_5_method_21_code 28 = .ok (.iload_n (2), 1) := by decide +kernel
theorem d_Search_wantedAt_29 : decode prog_5_method_21_code 29 = .ok (.iconst (1), 1) := by decide +kernel
theorem d_Search_wantedAt_30 : decode prog_5_method_21_code 30 = .ok (.isub, 1) := by decide +kernel
theorem d_Search_wantedAt_31 : decode prog_5_method_21_code 31 = .ok (.iaload, 1) := by decide +kernel
theorem d_Search_wantedAt_32 : decode prog_5_method_21_code 32 = .ok (.invokevirtual (126), 3) := by decide +kernel
theorem d_Search_wantedAt_35 : decode prog_5_method_21_code 35 = .ok (.laload, 1) := by decide +kernel
theorem d_Search_wantedAt_36 : decode prog_5_method_21_code 36 = .ok (.lreturn, 1) := by decide +kernel
set_option maxHeartbeats 4000000 in
set_option maxRecDepth 100000 in
theorem k_Search_wantedAt (N : Nat) {X : zX} (C : zB X prog_5_method_21_code 3 R_Search rm_Search_wantedAt) {h0 : zH} {p : Int64 × zH} (E : zR X (some .long) rm_Search_wantedAt h0 (some (.long p.1)) p.2) : ∀ (x0 : Nat) (x1 : Nat) (x2 : Int32) (h : zH), f_Search_wantedAt N x0 x1 x2 h = some p → Zt X 3 0 0 0 [(0, .ref x0), (1, .ref x1), (2, .int x2)] [] h := by
  intro x0 x1 x2 h hf
  unfold f_Search_wantedAt at hf
  refine z_iload_n C 2 d_Search_wantedAt_0 rfl rfl ?_
  refine z_if_ne (tgt := 11) C d_Search_wantedAt_1 (by decide) hf (fun hf => ?_) (fun hf => ?_)
  · refine z_aload_n C 0 d_Search_wantedAt_11 rfl rfl ?_
    refine z_getR C 8 7 rfl in_Search (by decide) w_429 rfl d_Search_wantedAt_12 hf (fun v1 hf => ?_)
    refine z_iload_n C 2 d_Search_wantedAt_15 rfl rfl ?_
    refine z_aald C d_Search_wantedAt_16 hf (fun v2 hf => ?_)
    refine z_aload_n C 0 d_Search_wantedAt_17 rfl rfl ?_
    refine z_aload_n C 1 d_Search_wantedAt_18 rfl rfl ?_
    refine z_getR C 5 2 rfl in_Table (by decide) w_200 rfl d_Search_wantedAt_19 hf (fun v3 hf => ?_)
    refine z_iload_n C 2 d_Search_wantedAt_22 rfl rfl ?_
    refine z_iald C d_Search_wantedAt_23 hf (fun v4 hf => ?_)
    refine z_aload_n C 1 d_Search_wantedAt_24 rfl rfl ?_
    refine z_getR C 5 2 rfl in_Table (by decide) w_200 rfl d_Search_wantedAt_25 hf (fun v5 hf => ?_)
    refine z_iload_n C 2 d_Search_wantedAt_28 rfl rfl ?_
    refine z_iconst C (v := (1 : Int32)) d_Search_wantedAt_29 (by decide) ?_
    refine z_isub C d_Search_wantedAt_30 ?_
    refine z_iald C d_Search_wantedAt_31 hf (fun v6 hf => ?_)
    obtain ⟨p7, hc, hf⟩ := Option.bind_eq_some_iff.mp hf
    obtain ⟨hz, hc⟩ := zck_some hc
    refine z_callV C (ci := 8) (c_Search_indexOf N C.2.2.1 hc) rfl hz w_489 w_67 w_486 w_488 w_10 pd_Search_indexOf rfl ⟨(Nat.le_of_ble_eq_true rfl), (Nat.le_of_ble_eq_true rfl)⟩ ⟨(Nat.le_of_ble_eq_true rfl), (Nat.le_of_ble_eq_true rfl)⟩ rfl (Nat.le_of_ble_eq_true rfl) d_Search_wantedAt_32 (k' := 0) (n' := 0) (stk' := [.int p7.1, .ref v2]) rfl rfl rfl ?_
    refine z_lald C d_Search_wantedAt_35 hf (fun v8 hf => ?_)
    exact z_lret C E (Nat.le_of_ble_eq_true rfl) (Nat.le_of_ble_eq_true rfl) d_Search_wantedAt_36 hf
  · refine z_aload_n C 0 d_Search_wantedAt_4 rfl rfl ?_
    refine z_getR C 8 9 rfl in_Search (by decide) w_431 rfl d_Search_wantedAt_5 hf (fun v9 hf => ?_)
    refine z_iconst C (v := (0 : Int32)) d_Search_wantedAt_8 (by decide) ?_
    refine z_lald C d_Search_wantedAt_9 hf (fun v10 hf => ?_)
    exact z_lret C E (Nat.le_of_ble_eq_true rfl) (Nat.le_of_ble_eq_true rfl) d_Search_wantedAt_10 hf

theorem c_Search_wantedAt (N : Nat) {l : Launch} {D : va_G} {T : List (ClassId × FieldType)} (hT : T.map (fun q => q.2) = ztl) {x0 : Nat} {x1 : Nat} {x2 : Int32} {h : zH} {p : Int64 × zH} (hf : f_Search_wantedAt N x0 x1 x2 h = some p) : zM l y_Search_wantedAt prog_5_method_21_code 3 (some .long) rm_Search_wantedAt D T [.ref x0, .ref x1, .int x2] h (some (.long p.1)) p.2 :=
  z_enter (by decide) hT (Nat.le_of_ble_eq_true rfl) (fun X el eD eT hin C E => k_Search_wantedAt N C E x0 x1 x2 h hf)
/-! ===== LevelTables$Table.slopeOf(I)I ===== -/
abbrev y_Table_slopeOf : MethodName := ⟨R_Table, "slopeOf", "(I)I"⟩
theorem pd_Table_slopeOf : y_Table_slopeOf.cls ≠ "java/lang/invoke/MethodHandle" ∧ y_Table_slopeOf.cls ≠ "java/lang/invoke/VarHandle" ∧ (parseMethodDescriptor y_Table_slopeOf.desc).map (fun d => d.parameters.length) = some 1 := ⟨by decide +kernel, by decide +kernel, by decide +kernel⟩
abbrev rm_Table_slopeOf : Room := { frames := 0, cells := 0, slots := 0, locals := 0 }
def f_Table_slopeOf (N : Nat) (x0 : Nat) (x1 : Int32) (h : zH) : Option (Int32 × zH) :=
  Option.bind (zgR h x0 5 2) fun (v1 : Nat) =>
  Option.bind (zaI h 0 v1 (x1 + (1 : Int32))) fun (v2 : Int32) =>
  Option.bind (zgR h x0 5 2) fun (v3 : Nat) =>
  Option.bind (zaI h 0 v3 x1) fun (v4 : Int32) =>
  some ((v2 - v4), h)
theorem d_Table_slopeOf_0 : decode prog_8_method_2_code 0 = .ok (.aload_n (0), 1) := by decide +kernel
theorem d_Table_slopeOf_1 : decode prog_8_method_2_code 1 = .ok (.getfield (36), 3) := by decide +kernel
theorem d_Table_slopeOf_4 : decode prog_8_method_2_code 4 = .ok (.iload_n (1), 1) := by decide +kernel
theorem d_Table_slopeOf_5 : decode prog_8_method_2_code 5 = .ok (.iconst (1), 1) := by decide +kernel
theorem d_Table_slopeOf_6 : decode prog_8_method_2_code 6 = .ok (.iadd, 1) := by decide +kernel
theorem d_Table_slopeOf_7 : decode prog_8_method_2_code 7 = .ok (.iaload, 1) := by decide +kernel
theorem d_Table_slopeOf_8 : decode prog_8_method_2_code 8 = .ok (.aload_n (0), 1) := by decide +kernel
theorem d_Table_slopeOf_9 : decode prog_8_method_2_code 9 = .ok (.getfield (36), 3) := by decide +kernel
theorem d_Table_slopeOf_12 : decode prog_8_method_2_code 12 = .ok (.iload_n (1), 1) := by decide +kernel
theorem d_Table_slopeOf_13 : decode prog_8_method_2_code 13 = .ok (.iaload, 1) := by decide +kernel
theorem d_Table_slopeOf_14 : decode prog_8_method_2_code 14 = .ok (.isub, 1) := by decide +kernel
theorem d_Table_slopeOf_15 : decode prog_8_method_2_code 15 = .ok (.ireturn, 1) := by decide +kernel
set_option maxHeartbeats 4000000 in
set_option maxRecDepth 100000 in
theorem k_Table_slopeOf (N : Nat) {X : zX} (C : zB X prog_8_method_2_code 2 R_Table rm_Table_slopeOf) {h0 : zH} {p : Int32 × zH} (E : zR X (some .int) rm_Table_slopeOf h0 (some (.int p.1)) p.2) : ∀ (x0 : Nat) (x1 : Int32) (h : zH), f_Table_slopeOf N x0 x1 h = some p → Zt X 2 0 0 0 [(0, .ref x0), (1, .int x1)] [] h := by
  intro x0 x1 h hf
  unfold f_Table_slopeOf at hf
  refine z_aload_n C 0 d_Table_slopeOf_0 rfl rfl ?_
  refine z_getR C 5 2 rfl in_Table (by decide) w_197 rfl d_Table_slopeOf_1 hf (fun v1 hf => ?_)
  refine z_iload_n C 1 d_Table_slopeOf_4 rfl rfl ?_
  refine z_iconst C (v := (1 : Int32)) d_Table_slopeOf_5 (by decide) ?_
  refine z_iadd C d_Table_slopeOf_6 ?_
  refine z_iald C d_Table_slopeOf_7 hf (fun v2 hf => ?_)
  refine z_aload_n C 0 d_Table_slopeOf_8 rfl rfl ?_
  refine z_getR C 5 2 rfl in_Table (by decide) w_197 rfl d_Table_slopeOf_9 hf (fun v3 hf => ?_)
  refine z_iload_n C 1 d_Table_slopeOf_12 rfl rfl ?_
  refine z_iald C d_Table_slopeOf_13 hf (fun v4 hf => ?_)
  refine z_isub C d_Table_slopeOf_14 ?_
  exact z_iret C E (Nat.le_of_ble_eq_true rfl) (Nat.le_of_ble_eq_true rfl) d_Table_slopeOf_15 hf

theorem c_Table_slopeOf (N : Nat) {l : Launch} {D : va_G} {T : List (ClassId × FieldType)} (hT : T.map (fun q => q.2) = ztl) {x0 : Nat} {x1 : Int32} {h : zH} {p : Int32 × zH} (hf : f_Table_slopeOf N x0 x1 h = some p) : zM l y_Table_slopeOf prog_8_method_2_code 2 (some .int) rm_Table_slopeOf D T [.ref x0, .int x1] h (some (.int p.1)) p.2 :=
  z_enter (by decide) hT (Nat.le_of_ble_eq_true rfl) (fun X el eD eT hin C E => k_Table_slopeOf N C E x0 x1 h hf)
/-! ===== LevelTables$Site.changeFits(II)Z ===== -/
abbrev y_Site_changeFits : MethodName := ⟨R_Site, "changeFits", "(II)Z"⟩
theorem pd_Site_changeFits : y_Site_changeFits.cls ≠ "java/lang/invoke/MethodHandle" ∧ y_Site_changeFits.cls ≠ "java/lang/invoke/VarHandle" ∧ (parseMethodDescriptor y_Site_changeFits.desc).map (fun d => d.parameters.length) = some 2 := ⟨by decide +kernel, by decide +kernel, by decide +kernel⟩
abbrev rm_Site_changeFits : Room := { frames := 1, cells := 0, slots := 0, locals := 21 }
def f_Site_changeFits (N : Nat) (x0 : Nat) (x1 : Int32) (x2 : Int32) (h : zH) : Option (Int32 × zH) :=
  Option.bind (zgI h x0 2 8) fun (v1 : Int32) =>
  (if v1 < (zabs (x2 - x1)) then
    zrb (0 : Int32) h
  else
    zrb (1 : Int32) h)
theorem d_Site_changeFits_0 : decode prog_6_method_10_code 0 = .ok (.iload_n (2), 1) := by decide +kernel
theorem d_Site_changeFits_1 : decode prog_6_method_10_code 1 = .ok (.iload_n (1), 1) := by decide +kernel
theorem d_Site_changeFits_2 : decode prog_6_method_10_code 2 = .ok (.isub, 1) := by decide +kernel
theorem d_Site_changeFits_3 : decode prog_6_method_10_code 3 = .ok (.invokestatic (52), 3) := by decide +kernel
theorem d_Site_changeFits_6 : decode prog_6_method_10_code 6 = .ok (.aload_n (0), 1) := by decide +kernel
theorem d_Site_changeFits_7 : decode prog_6_method_10_code 7 = .ok (.getfield (15), 3) := by decide +kernel
theorem d_Site_changeFits_10 : decode prog_6_method_10_code 10 = .ok (.if_icmp .gt (7), 3) := by decide +kernel
theorem d_Site_changeFits_13 : decode prog_6_method_10_code 13 = .ok (.iconst (1), 1) := by decide +kernel
theorem d_Site_changeFits_14 : decode prog_6_method_10_code 14 = .ok (.goto (4), 3) := by decide +kernel
theorem d_Site_changeFits_17 : decode prog_6_method_10_code 17 = .ok (.iconst (0), 1) := by decide +kernel
theorem d_Site_changeFits_18 : decode prog_6_method_10_code 18 = .ok (.ireturn, 1) := by decide +kernel
set_option maxHeartbeats 4000000 in
set_option maxRecDepth 100000 in
theorem k_Site_changeFits (N : Nat) {X : zX} (C : zB X prog_6_method_10_code 3 R_Site rm_Site_changeFits) {h0 : zH} {p : Int32 × zH} (E : zR X (some .boolean) rm_Site_changeFits h0 (some (.int p.1)) p.2) : ∀ (x0 : Nat) (x1 : Int32) (x2 : Int32) (h : zH), f_Site_changeFits N x0 x1 x2 h = some p → Zt X 3 0 0 0 [(0, .ref x0), (1, .int x1), (2, .int x2)] [] h := by
  intro x0 x1 x2 h hf
  unfold f_Site_changeFits at hf
  refine z_iload_n C 2 d_Site_changeFits_0 rfl rfl ?_
  refine z_iload_n C 1 d_Site_changeFits_1 rfl rfl ?_
  refine z_isub C d_Site_changeFits_2 ?_
  refine z_mabs C w_406 w_407 w_58 w_408 (Nat.le_of_ble_eq_true rfl) (Nat.le_of_ble_eq_true rfl) (Nat.le_of_ble_eq_true rfl) (Nat.le_of_ble_eq_true rfl) d_Site_changeFits_3 ?_
  refine z_aload_n C 0 d_Site_changeFits_6 rfl rfl ?_
  refine z_getI C 2 8 rfl in_Site (by decide) w_115 rfl d_Site_changeFits_7 hf (fun v1 hf => ?_)
  refine z_ic_gt (tgt := 17) C d_Site_changeFits_10 (by decide) hf (fun hf => ?_) (fun hf => ?_)
  · refine z_iconst C (v := (0 : Int32)) d_Site_changeFits_17 (by decide) ?_
    exact z_zret C E (Nat.le_of_ble_eq_true rfl) (Nat.le_of_ble_eq_true rfl) d_Site_changeFits_18 hf
  · refine z_iconst C (v := (1 : Int32)) d_Site_changeFits_13 (by decide) ?_
    refine z_goto (tgt := 18) C d_Site_changeFits_14 (by decide) ?_
    exact z_zret C E (Nat.le_of_ble_eq_true rfl) (Nat.le_of_ble_eq_true rfl) d_Site_changeFits_18 hf

theorem c_Site_changeFits (N : Nat) {l : Launch} {D : va_G} {T : List (ClassId × FieldType)} (hT : T.map (fun q => q.2) = ztl) {x0 : Nat} {x1 : Int32} {x2 : Int32} {h : zH} {p : Int32 × zH} (hf : f_Site_changeFits N x0 x1 x2 h = some p) : zM l y_Site_changeFits prog_6_method_10_code 3 (some .boolean) rm_Site_changeFits D T [.ref x0, .int x1, .int x2] h (some (.int p.1)) p.2 :=
  z_enter (by decide) hT (Nat.le_of_ble_eq_true rfl) (fun X el eD eT hin C E => k_Site_changeFits N C E x0 x1 x2 h hf)
/-! ===== LevelTables$Search.lay(LLevelTables$Table;IIII)I ===== -/
abbrev y_Search_lay : MethodName := ⟨R_Search, "lay", "(LLevelTables$Table;IIII)I"⟩
theorem pd_Search_lay : y_Search_lay.cls ≠ "java/lang/invoke/MethodHandle" ∧ y_Search_lay.cls ≠ "java/lang/invoke/VarHandle" ∧ (parseMethodDescriptor y_Search_lay.desc).map (fun d => d.parameters.length) = some 5 := ⟨by decide +kernel, by decide +kernel, by decide +kernel⟩
abbrev rm_Search_lay : Room := { frames := 0, cells := 0, slots := 0, locals := 0 }
def b_Search_lay_3 (N : Nat) (rc3 : Nat → Int32 → Int32 → Int32 → Int32 → zH → Option (Int32 × zH)) (x1 : Nat) (x3 : Int32) (x4 : Int32) (x5 : Int32) (x6 : Int32) (h : zH) : Option (Int32 × zH) :=
  (if x3 ≤ x6 then
    some (x3, h)
  else
    Option.bind (zgR h x1 5 2) fun (v1 : Nat) =>
    Option.bind (zgR h x1 5 2) fun (v2 : Nat) =>
    Option.bind (zaI h 0 v2 x6) fun (v3 : Int32) =>
    Option.bind (zsI h 0 v1 (x6 + (1 : Int32)) (v3 + x4)) fun (h4 : zH) =>
    Option.bind (zgR h4 x1 5 3) fun (v5 : Nat) =>
    Option.bind (zsI h4 0 v5 x6 x5) fun (h6 : zH) =>
    rc3 x1 x3 x4 x5 (x6 + (1 : Int32)) h6)
def f_Search_lay_3 (N : Nat) : Nat → Nat → Int32 → Int32 → Int32 → Int32 → zH → Option (Int32 × zH)
  | 0 => fun _ _ _ _ _ _ => none
  | n + 1 => fun x1 x3 x4 x5 x6 h => b_Search_lay_3 N (f_Search_lay_3 N n) x1 x3 x4 x5 x6 h
def f_Search_lay (N : Nat) (x0 : Nat) (x1 : Nat) (x2 : Int32) (x3 : Int32) (x4 : Int32) (x5 : Int32) (h : zH) : Option (Int32 × zH) :=
  f_Search_lay_3 N N x1 x3 x4 x5 x2 h
theorem d_Search_lay_0 : decode prog_5_method_23_code 0 = .ok (.iload_n (2), 1) := by decide +kernel
theorem d_Search_lay_1 : decode prog_5_method_23_code 1 = .ok (.istore (6), 2) := by decide +kernel
theorem d_Search_lay_3 : decode prog_5_method_23_code 3 = .ok (.iload (6), 2) := by decide +kernel
theorem d_Search_lay_5 : decode prog_5_method_23_code 5 = .ok (.iload_n (3), 1) := by decide +kernel
theorem d_Search_lay_6 : decode prog_5_method_23_code 6 = .ok (.if_icmp .ge (37), 3) := by decide +kernel
theorem d_Search_lay_9 : decode prog_5_method_23_code 9 = .ok (.aload_n (1), 1) := by decide +kernel
theorem d_Search_lay_10 : decode prog_5_method_23_code 10 = .ok (.getfield (189), 3) := by decide +kernel
theorem d_Search_lay_13 : decode prog_5_method_23_code 13 = .ok (.iload (6), 2) := by decide +kernel
theorem d_Search_lay_15 : decode prog_5_method_23_code 15 = .ok (.iconst (1), 1) := by decide +kernel
theorem d_Search_lay_16 : decode prog_5_method_23_code 16 = .ok (.iadd, 1) := by decide +kernel
theorem d_Search_lay_17 : decode prog_5_method_23_code 17 = .ok (.aload_n (1), 1) := by decide +kernel
theorem d_Search_lay_18 : decode prog_5_method_23_code 18 = .ok (.getfield (189), 3) := by decide +kernel
theorem d_Search_lay_21 : decode prog_5_method_23_code 21 = .ok (.iload (6), 2) := by decide +kernel
theorem d_Search_lay_23 : decode prog_5_method_23_code 23 = .ok (.iaload, 1) := by decide +kernel
theorem d_Search_lay_24 : decode prog_5_method_23_code 24 = .ok (.iload (4), 2) := by decide +kernel
theorem d_Search_lay_26 : decode prog_5_method_23_code 26 = .ok (.iadd, 1) := by decide +kernel
theorem d_Search_lay_27 : decode prog_5_method_23_code 27 = .ok (.iastore, 1) := by decide +kernel
theorem d_Search_lay_28 : decode prog_5_method_23_code 28 = .ok (.aload_n (1), 1) := by decide +kernel
theorem d_Search_lay_29 : decode prog_5_method_23_code 29 = .ok (.getfield (224), 3) := by decide +kernel
theorem d_Search_lay_32 : decode prog_5_method_23_code 32 = .ok (.iload (6), 2) := by decide +kernel
theorem d_Search_lay_34 : decode prog_5_method_23_code 34 = .ok (.iload (5), 2) := by decide +kernel
theorem d_Search_lay_36 : decode prog_5_method_23_code 36 = .ok (.iastore, 1) := by decide +kernel
theorem d_Search_lay_37 : decode prog_5_method_23_code 37 = .ok (.iinc (6) (1), 3) := by decide +kernel
theorem d_Search_lay_40 : decode prog_5_method_23_code 40 = .ok (.goto (-37), 3) := by decide +kernel
theorem d_Search_lay_43 : decode prog_5_method_23_code 43 = .ok (.iload_n (3), 1) := by decide +kernel
theorem d_Search_lay_44 : decode prog_5_method_23_code 44 = .ok (.ireturn, 1) := by decide +kernel
set_option maxHeartbeats 4000000 in
set_option maxRecDepth 100000 in
theorem k_Search_lay_3 (N : Nat) {X : zX} (C : zB X prog_5_method_23_code 7 R_Search rm_Search_lay) {h0 : zH} {p : Int32 × zH} (E : zR X (some .int) rm_Search_lay h0 (some (.int p.1)) p.2) : ∀ n : Nat, ∀ (x1 : Nat) (x3 : Int32) (x4 : Int32) (x5 : Int32) (x6 : Int32) (h : zH), f_Search_lay_3 N n x1 x3 x4 x5 x6 h = some p → Zt X 7 0 0 3 [(1, .ref x1), (3, .int x3), (4, .int x4), (5, .int x5), (6, .int x6)] [] h := by
  intro n
  induction n with
  | zero => intro x1 x3 x4 x5 x6 h hf; cases hf
  | succ n ih =>
  intro x1 x3 x4 x5 x6 h hf
  have H3 := ih
  replace hf : b_Search_lay_3 N (f_Search_lay_3 N n) x1 x3 x4 x5 x6 h = some p := hf
  unfold b_Search_lay_3 at hf
  refine z_iload C 4 d_Search_lay_3 rfl ?_
  refine z_iload_n C 1 d_Search_lay_5 rfl rfl ?_
  refine z_ic_ge (tgt := 43) C d_Search_lay_6 (by decide) hf (fun hf => ?_) (fun hf => ?_)
  · refine z_iload_n C 1 d_Search_lay_43 rfl rfl ?_
    exact z_iret C E (Nat.le_of_ble_eq_true rfl) (Nat.le_of_ble_eq_true rfl) d_Search_lay_44 hf
  · refine z_aload_n C 0 d_Search_lay_9 rfl rfl ?_
    refine z_getR C 5 2 rfl in_Table (by decide) w_200 rfl d_Search_lay_10 hf (fun v1 hf => ?_)
    refine z_iload C 4 d_Search_lay_13 rfl ?_
    refine z_iconst C (v := (1 : Int32)) d_Search_lay_15 (by decide) ?_
    refine z_iadd C d_Search_lay_16 ?_
    refine z_aload_n C 0 d_Search_lay_17 rfl rfl ?_
    refine z_getR C 5 2 rfl in_Table (by decide) w_200 rfl d_Search_lay_18 hf (fun v2 hf => ?_)
    refine z_iload C 4 d_Search_lay_21 rfl ?_
    refine z_iald C d_Search_lay_23 hf (fun v3 hf => ?_)
    refine z_iload C 2 d_Search_lay_24 rfl ?_
    refine z_iadd C d_Search_lay_26 ?_
    refine z_iast C d_Search_lay_27 hf (fun h4 hf => ?_)
    refine z_aload_n C 0 d_Search_lay_28 rfl rfl ?_
    refine z_getR C 5 3 rfl in_Table (by decide) w_202 rfl d_Search_lay_29 hf (fun v5 hf => ?_)
    refine z_iload C 4 d_Search_lay_32 rfl ?_
    refine z_iload C 3 d_Search_lay_34 rfl ?_
    refine z_iast C d_Search_lay_36 hf (fun h6 hf => ?_)
    refine z_iinc C (v := (x6 + (1 : Int32))) (lv' := [(6, .int (x6 + (1 : Int32))), (1, .ref x1), (3, .int x3), (4, .int x4), (5, .int x5)]) 4 d_Search_lay_37 rfl (by rfl) (by decide) rfl ?_
    refine z_goto (tgt := 3) C d_Search_lay_40 (by decide) ?_
    refine z_sub [1, 2, 3, 4, 0] rfl ?_
    exact H3 _ _ _ _ _ _ hf

set_option maxHeartbeats 4000000 in
set_option maxRecDepth 100000 in
theorem k_Search_lay (N : Nat) {X : zX} (C : zB X prog_5_method_23_code 7 R_Search rm_Search_lay) {h0 : zH} {p : Int32 × zH} (E : zR X (some .int) rm_Search_lay h0 (some (.int p.1)) p.2) : ∀ (x0 : Nat) (x1 : Nat) (x2 : Int32) (x3 : Int32) (x4 : Int32) (x5 : Int32) (h : zH), f_Search_lay N x0 x1 x2 x3 x4 x5 h = some p → Zt X 7 0 0 0 [(0, .ref x0), (1, .ref x1), (2, .int x2), (3, .int x3), (4, .int x4), (5, .int x5)] [] h := by
  intro x0 x1 x2 x3 x4 x5 h hf
  unfold f_Search_lay at hf
  refine z_iload_n C 2 d_Search_lay_0 rfl rfl ?_
  refine z_istore C (lv' := [(6, .int x2), (0, .ref x0), (1, .ref x1), (2, .int x2), (3, .int x3), (4, .int x4), (5, .int x5)]) d_Search_lay_1 (by decide) rfl ?_
  refine z_sub [2, 4, 5, 6, 0] rfl ?_
  exact k_Search_lay_3 N C E N _ _ _ _ _ _ hf

theorem c_Search_lay (N : Nat) {l : Launch} {D : va_G} {T : List (ClassId × FieldType)} (hT : T.map (fun q => q.2) = ztl) {x0 : Nat} {x1 : Nat} {x2 : Int32} {x3 : Int32} {x4 : Int32} {x5 : Int32} {h : zH} {p : Int32 × zH} (hf : f_Search_lay N x0 x1 x2 x3 x4 x5 h = some p) : zM l y_Search_lay prog_5_method_23_code 7 (some .int) rm_Search_lay D T [.ref x0, .ref x1, .int x2, .int x3, .int x4, .int x5] h (some (.int p.1)) p.2 :=
  z_enter (by decide) hT (Nat.le_of_ble_eq_true rfl) (fun X el eD eT hin C E => k_Search_lay N C E x0 x1 x2 x3 x4 x5 h hf)
/-! ===== LevelTables.level(I)I ===== -/
abbrev y_LT_level : MethodName := ⟨R_LT, "level", "(I)I"⟩
theorem pd_LT_level : y_LT_level.cls ≠ "java/lang/invoke/MethodHandle" ∧ y_LT_level.cls ≠ "java/lang/invoke/VarHandle" ∧ (parseMethodDescriptor y_LT_level.desc).map (fun d => d.parameters.length) = some 1 := ⟨by decide +kernel, by decide +kernel, by decide +kernel⟩
abbrev rm_LT_level : Room := { frames := 1, cells := 0, slots := 0, locals := 21 }
def f_LT_level (N : Nat) (x0 : Nat) (x1 : Int32) (h : zH) : Option (Int32 × zH) :=
  Option.bind (zgR h x0 1 3) fun (v1 : Nat) =>
  Option.bind (zgI h v1 5 4) fun (v2 : Int32) =>
  (if v2 = 0 then
    some ((-1 : Int32), h)
  else
    Option.bind (zgR h x0 1 0) fun (v3 : Nat) =>
    Option.bind (zck (zis h v3 2) (f_Site_isPlace N v3 x1 h)) fun (p4 : Int32 × zH) =>
    (if p4.1 = 0 then
      some ((-1 : Int32), p4.2)
    else
      Option.bind (zgR p4.2 x0 1 3) fun (v5 : Nat) =>
      Option.bind (zgR p4.2 v5 5 2) fun (v6 : Nat) =>
      Option.bind (zaI p4.2 0 v6 x1) fun (v7 : Int32) =>
      some (v7, p4.2)))
theorem d_LT_level_0 : decode prog_1_method_9_code 0 = .ok (.aload_n (0), 1) := by decide +kernel
theorem d_LT_level_1 : decode prog_1_method_9_code 1 = .ok (.getfield (48), 3) := by decide +kernel
theorem d_LT_level_4 : decode prog_1_method_9_code 4 = .ok (.getfield (150), 3) := by decide +kernel
theorem d_LT_level_7 : decode prog_1_method_9_code 7 = .ok (.ifCond .eq (14), 3) := by decide +kernel
theorem d_LT_level_10 : decode prog_1_method_9_code 10 = .ok (.aload_n (0), 1) := by decide +kernel
theorem d_LT_level_11 : decode prog_1_method_9_code 11 = .ok (.getfield (23), 3) := by decide +kernel
theorem d_LT_level_14 : decode prog_1_method_9_code 14 = .ok (.iload_n (1), 1) := by decide +kernel
theorem d_LT_level_15 : decode prog_1_method_9_code 15 = .ok (.invokevirtual (68), 3) := by decide +kernel
theorem d_LT_level_18 : decode prog_1_method_9_code 18 = .ok (.ifCond .ne (5), 3) := by decide +kernel
theorem d_LT_level_21 : decode prog_1_method_9_code 21 = .ok (.iconst (-1), 1) := by decide +kernel
theorem d_LT_level_22 : decode prog_1_method_9_code 22 = .ok (.ireturn, 1) := by decide +kernel
theorem d_LT_level_23 : decode prog_1_method_9_code 23 = .ok (.aload_n (0), 1) := by decide +kernel
theorem d_LT_level_24 : decode prog_1_method_9_code 24 = .ok (.getfield (48), 3) := by decide +kernel
theorem d_LT_level_27 : decode prog_1_method_9_code 27 = .ok (.getfield (154), 3) := by decide +kernel
theorem d_LT_level_30 : decode prog_1_method_9_code 30 = .ok (.iload_n (1), 1) := by decide +kernel
theorem d_LT_level_31 : decode prog_1_method_9_code 31 = .ok (.iaload, 1) := by decide +kernel
theorem d_LT_level_32 : decode prog_1_method_9_code 32 = .ok (.ireturn, 1) := by decide +kernel
set_option maxHeartbeats 4000000 in
set_option maxRecDepth 100000 in
theorem k_LT_level (N : Nat) {X : zX} (C : zB X prog_1_method_9_code 2 R_LT rm_LT_level) {h0 : zH} {p : Int32 × zH} (E : zR X (some .int) rm_LT_level h0 (some (.int p.1)) p.2) : ∀ (x0 : Nat) (x1 : Int32) (h : zH), f_LT_level N x0 x1 h = some p → Zt X 2 0 0 0 [(0, .ref x0), (1, .int x1)] [] h := by
  intro x0 x1 h hf
  unfold f_LT_level at hf
  refine z_aload_n C 0 d_LT_level_0 rfl rfl ?_
  refine z_getR C 1 3 rfl in_LT (by decide) w_269 rfl d_LT_level_1 hf (fun v1 hf => ?_)
  refine z_getI C 5 4 rfl in_Table (by decide) w_205 rfl d_LT_level_4 hf (fun v2 hf => ?_)
  refine z_if_eq (tgt := 21) C d_LT_level_7 (by decide) hf (fun hf => ?_) (fun hf => ?_)
  · refine z_iconst C (v := (-1 : Int32)) d_LT_level_21 (by decide) ?_
    exact z_iret C E (Nat.le_of_ble_eq_true rfl) (Nat.le_of_ble_eq_true rfl) d_LT_level_22 hf
  · refine z_aload_n C 0 d_LT_level_10 rfl rfl ?_
    refine z_getR C 1 0 rfl in_LT (by decide) w_266 rfl d_LT_level_11 hf (fun v3 hf => ?_)
    refine z_iload_n C 1 d_LT_level_14 rfl rfl ?_
    obtain ⟨p4, hc, hf⟩ := Option.bind_eq_some_iff.mp hf
    obtain ⟨hz, hc⟩ := zck_some hc
    refine z_callV C (ci := 2) (c_Site_isPlace N C.2.2.1 hc) rfl hz w_304 w_59 w_301 w_302 w_303 pd_Site_isPlace rfl ⟨(Nat.le_of_ble_eq_true rfl), (Nat.le_of_ble_eq_true rfl)⟩ ⟨(Nat.le_of_ble_eq_true rfl), (Nat.le_of_ble_eq_true rfl)⟩ rfl (Nat.le_of_ble_eq_true rfl) d_LT_level_15 (k' := 0) (n' := 0) (stk' := [.int p4.1]) rfl rfl rfl ?_
    refine z_if_ne (tgt := 23) C d_LT_level_18 (by decide) hf (fun hf => ?_) (fun hf => ?_)
    · refine z_aload_n C 0 d_LT_level_23 rfl rfl ?_
      refine z_getR C 1 3 rfl in_LT (by decide) w_269 rfl d_LT_level_24 hf (fun v5 hf => ?_)
      refine z_getR C 5 2 rfl in_Table (by decide) w_199 rfl d_LT_level_27 hf (fun v6 hf => ?_)
      refine z_iload_n C 1 d_LT_level_30 rfl rfl ?_
      refine z_iald C d_LT_level_31 hf (fun v7 hf => ?_)
      exact z_iret C E (Nat.le_of_ble_eq_true rfl) (Nat.le_of_ble_eq_true rfl) d_LT_level_32 hf
    · refine z_iconst C (v := (-1 : Int32)) d_LT_level_21 (by decide) ?_
      exact z_iret C E (Nat.le_of_ble_eq_true rfl) (Nat.le_of_ble_eq_true rfl) d_LT_level_22 hf

theorem c_LT_level (N : Nat) {l : Launch} {D : va_G} {T : List (ClassId × FieldType)} (hT : T.map (fun q => q.2) = ztl) {x0 : Nat} {x1 : Int32} {h : zH} {p : Int32 × zH} (hf : f_LT_level N x0 x1 h = some p) : zM l y_LT_level prog_1_method_9_code 2 (some .int) rm_LT_level D T [.ref x0, .int x1] h (some (.int p.1)) p.2 :=
  z_enter (by decide) hT (Nat.le_of_ble_eq_true rfl) (fun X el eD eT hin C E => k_LT_level N C E x0 x1 h hf)
/-! ===== LevelTables.cost()J ===== -/
abbrev y_LT_cost : MethodName := ⟨R_LT, "cost", "()J"⟩
theorem pd_LT_cost : y_LT_cost.cls ≠ "java/lang/invoke/MethodHandle" ∧ y_LT_cost.cls ≠ "java/lang/invoke/VarHandle" ∧ (parseMethodDescriptor y_LT_cost.desc).map (fun d => d.parameters.length) = some 0 := ⟨by decide +kernel, by decide +kernel, by decide +kernel⟩
abbrev rm_LT_cost : Room := { frames := 0, cells := 0, slots := 0, locals := 0 }
def f_LT_cost (N : Nat) (x0 : Nat) (h : zH) : Option (Int64 × zH) :=
  Option.bind (zgR h x0 1 3) fun (v1 : Nat) =>
  Option.bind (zgI h v1 5 4) fun (v2 : Int32) =>
  (if v2 = 0 then
    some ((-1 : Int64), h)
  else
    Option.bind (zgR h x0 1 3) fun (v3 : Nat) =>
    Option.bind (zgJ h v3 5 6) fun (v4 : Int64) =>
    some (v4, h))
theorem d_LT_cost_0 : decode prog_1_method_10_code 0 = .ok (.aload_n (0), 1) := by decide +kernel
theorem d_LT_cost_1 : decode prog_1_method_10_code 1 = .ok (.getfield (48), 3) := by decide +kernel
theorem d_LT_cost_4 : decode prog_1_method_10_code 4 = .ok (.getfield (150), 3) := by decide +kernel
theorem d_LT_cost_7 : decode prog_1_method_10_code 7 = .ok (.ifCond .eq (13), 3) := by decide +kernel
theorem d_LT_cost_10 : decode prog_1_method_10_code 10 = .ok (.aload_n (0), 1) := by decide +kernel
theorem d_LT_cost_11 : decode prog_1_method_10_code 11 = .ok (.getfield (48), 3) := by decide +kernel
theorem d_LT_cost_14 : decode prog_1_method_10_code 14 = .ok (.getfield (157), 3) := by decide +kernel
theorem d_LT_cost_17 : decode prog_1_method_10_code 17 = .ok (.goto (6), 3) := by decide +kernel
theorem d_LT_cost_20 : decode prog_1_method_10_code 20 = .ok (.ldc2_w (161), 3) := by decide +kernel
theorem d_LT_cost_23 : decode prog_1_method_10_code 23 = .ok (.lreturn, 1) := by decide +kernel
set_option maxHeartbeats 4000000 in
set_option maxRecDepth 100000 in
theorem k_LT_cost (N : Nat) {X : zX} (C : zB X prog_1_method_10_code 1 R_LT rm_LT_cost) {h0 : zH} {p : Int64 × zH} (E : zR X (some .long) rm_LT_cost h0 (some (.long p.1)) p.2) : ∀ (x0 : Nat) (h : zH), f_LT_cost N x0 h = some p → Zt X 1 0 0 0 [(0, .ref x0)] [] h := by
  intro x0 h hf
  unfold f_LT_cost at hf
  refine z_aload_n C 0 d_LT_cost_0 rfl rfl ?_
  refine z_getR C 1 3 rfl in_LT (by decide) w_269 rfl d_LT_cost_1 hf (fun v1 hf => ?_)
  refine z_getI C 5 4 rfl in_Table (by decide) w_205 rfl d_LT_cost_4 hf (fun v2 hf => ?_)
  refine z_if_eq (tgt := 20) C d_LT_cost_7 (by decide) hf (fun hf => ?_) (fun hf => ?_)
  · refine z_ldc2 C d_LT_cost_20 w_592 ?_
    exact z_lret C E (Nat.le_of_ble_eq_true rfl) (Nat.le_of_ble_eq_true rfl) d_LT_cost_23 hf
  · refine z_aload_n C 0 d_LT_cost_10 rfl rfl ?_
    refine z_getR C 1 3 rfl in_LT (by decide) w_269 rfl d_LT_cost_11 hf (fun v3 hf => ?_)
    refine z_getJ C 5 6 rfl in_Table (by decide) w_211 rfl d_LT_cost_14 hf (fun v4 hf => ?_)
    refine z_goto (tgt := 23) C d_LT_cost_17 (by decide) ?_
    exact z_lret C E (Nat.le_of_ble_eq_true rfl) (Nat.le_of_ble_eq_true rfl) d_LT_cost_23 hf

theorem c_LT_cost (N : Nat) {l : Launch} {D : va_G} {T : List (ClassId × FieldType)} (hT : T.map (fun q => q.2) = ztl) {x0 : Nat} {h : zH} {p : Int64 × zH} (hf : f_LT_cost N x0 h = some p) : zM l y_LT_cost prog_1_method_10_code 1 (some .long) rm_LT_cost D T [.ref x0] h (some (.long p.1)) p.2 :=
  z_enter (by decide) hT (Nat.le_of_ble_eq_true rfl) (fun X el eD eT hin C E => k_LT_cost N C E x0 h hf)
/-! ===== LevelTables$Search.leastOrNone(I)J ===== -/
abbrev y_Search_leastOrNone : MethodName := ⟨R_Search, "leastOrNone", "(I)J"⟩
theorem pd_Search_leastOrNone : y_Search_leastOrNone.cls ≠ "java/lang/invoke/MethodHandle" ∧ y_Search_leastOrNone.cls ≠ "java/lang/invoke/VarHandle" ∧ (parseMethodDescriptor y_Search_leastOrNone.desc).map (fun d => d.parameters.length) = some 1 := ⟨by decide +kernel, by decide +kernel, by decide +kernel⟩
abbrev rm_Search_leastOrNone : Room := { frames := 0, cells := 0, slots := 0, locals := 0 }
def f_Search_leastOrNone (N : Nat) (x0 : Nat) (x1 : Int32) (h : zH) : Option (Int64 × zH) :=
  Option.bind (zgR h x0 8 9) fun (v1 : Nat) =>
  Option.bind (zaJ h 1 v1 x1) fun (v2 : Int64) =>
  (if (lg_cmp v2 (1152921504606846976 : Int64)) < 0 then
    Option.bind (zgR h x0 8 9) fun (v3 : Nat) =>
    Option.bind (zaJ h 1 v3 x1) fun (v4 : Int64) =>
    some (v4, h)
  else
    some ((-1 : Int64), h))
theorem d_Search_leastOrNone_0 : decode prog_5_method_3_code 0 = .ok (.aload_n (0), 1) := by decide +kernel
theorem d_Search_leastOrNone_1 : decode prog_5_method_3_code 1 = .ok (.getfield (59), 3) := by decide +kernel
theorem d_Search_leastOrNone_4 : decode prog_5_method_3_code 4 = .ok (.iload_n (1), 1) := by decide +kernel
theorem d_Search_leastOrNone_5 : decode prog_5_method_3_code 5 = .ok (.laload, 1) := by decide +kernel
theorem d_Search_leastOrNone_6 : decode prog_5_method_3_code 6 = .ok (.ldc2_w (78), 3) := by decide +kernel
theorem d_Search_leastOrNone_9 : decode prog_5_method_3_code 9 = .ok (.lcmp, 1) := by decide +kernel
theorem d_Search_leastOrNone_10 : decode prog_5_method_3_code 10 = .ok (.ifCond .lt (9), 3) := by decide +kernel
theorem d_Search_leastOrNone_13 : decode prog_5_method_3_code 13 = .ok (.ldc2_w (80), 3) := by decide +kernel
theorem d_Search_leastOrNone_16 : decode prog_5_method_3_code 16 = .ok (.goto (9), 3) := by decide +kernel
theorem d_Search_leastOrNone_19 : decode prog_5_method_3_code 19 = .ok (.aload_n (0), 1) := by decide +kernel
theorem d_Search_leastOrNone_20 : decode prog_5_method_3_code 20 = .ok (.getfield (59), 3) := by decide +kernel
theorem d_Search_leastOrNone_23 : decode prog_5_method_3_code 23 = .ok (.iload_n (1), 1) := by decide +kernel
theorem d_Search_leastOrNone_24 : decode prog_5_method_3_code 24 = .ok (.laload, 1) := by decide +kernel
theorem d_Search_leastOrNone_25 : decode prog_5_method_3_code 25 = .ok (.lreturn, 1) := by decide +kernel
set_option maxHeartbeats 4000000 in
set_option maxRecDepth 100000 in
theorem k_Search_leastOrNone (N : Nat) {X : zX} (C : zB X prog_5_method_3_code 2 R_Search rm_Search_leastOrNone) {h0 : zH} {p : Int64 × zH} (E : zR X (some .long) rm_Search_leastOrNone h0 (some (.long p.1)) p.2) : ∀ (x0 : Nat) (x1 : Int32) (h : zH), f_Search_leastOrNone N x0 x1 h = some p → Zt X 2 0 0 0 [(0, .ref x0), (1, .int x1)] [] h := by
  intro x0 x1 h hf
  unfold f_Search_leastOrNone at hf
  refine z_aload_n C 0 d_Search_leastOrNone_0 rfl rfl ?_
  refine z_getR C 8 9 rfl in_Search (by decide) w_431 rfl d_Search_leastOrNone_1 hf (fun v1 hf => ?_)
  refine z_iload_n C 1 d_Search_leastOrNone_4 rfl rfl ?_
  refine z_lald C d_Search_leastOrNone_5 hf (fun v2 hf => ?_)
  refine z_ldc2 C d_Search_leastOrNone_6 w_468 ?_
  refine z_lcmp C d_Search_leastOrNone_9 ?_
  refine z_if_lt (tgt := 19) C d_Search_leastOrNone_10 (by decide) hf (fun hf => ?_) (fun hf => ?_)
  · refine z_aload_n C 0 d_Search_leastOrNone_19 rfl rfl ?_
    refine z_getR C 8 9 rfl in_Search (by decide) w_431 rfl d_Search_leastOrNone_20 hf (fun v3 hf => ?_)
    refine z_iload_n C 1 d_Search_leastOrNone_23 rfl rfl ?_
    refine z_lald C d_Search_leastOrNone_24 hf (fun v4 hf => ?_)
    exact z_lret C E (Nat.le_of_ble_eq_true rfl) (Nat.le_of_ble_eq_true rfl) d_Search_leastOrNone_25 hf
  · refine z_ldc2 C d_Search_leastOrNone_13 w_601 ?_
    refine z_goto (tgt := 25) C d_Search_leastOrNone_16 (by decide) ?_
    exact z_lret C E (Nat.le_of_ble_eq_true rfl) (Nat.le_of_ble_eq_true rfl) d_Search_leastOrNone_25 hf

theorem c_Search_leastOrNone (N : Nat) {l : Launch} {D : va_G} {T : List (ClassId × FieldType)} (hT : T.map (fun q => q.2) = ztl) {x0 : Nat} {x1 : Int32} {h : zH} {p : Int64 × zH} (hf : f_Search_leastOrNone N x0 x1 h = some p) : zM l y_Search_leastOrNone prog_5_method_3_code 2 (some .long) rm_Search_leastOrNone D T [.ref x0, .int x1] h (some (.long p.1)) p.2 :=
  z_enter (by decide) hT (Nat.le_of_ble_eq_true rfl) (fun X el eD eT hin C E => k_Search_leastOrNone N C E x0 x1 h hf)
/-! ===== LevelTables.speed(I)Z ===== -/
abbrev y_LT_speed : MethodName := ⟨R_LT, "speed", "(I)Z"⟩
theorem pd_LT_speed : y_LT_speed.cls ≠ "java/lang/invoke/MethodHandle" ∧ y_LT_speed.cls ≠ "java/lang/invoke/VarHandle" ∧ (parseMethodDescriptor y_LT_speed.desc).map (fun d => d.parameters.length) = some 1 := ⟨by decide +kernel, by decide +kernel, by decide +kernel⟩
abbrev rm_LT_speed : Room := { frames := 1, cells := 0, slots := 0, locals := 21 }
def f_LT_speed (N : Nat) (x0 : Nat) (x1 : Int32) (h : zH) : Option (Int32 × zH) :=
  Option.bind (f_LT_within N x1 (1000 : Int32) h) fun (p1 : Int32 × zH) =>
  (if p1.1 = 0 then
    zrb (0 : Int32) p1.2
  else
    Option.bind (zp p1.2 x0 1 9 (.int x1)) fun (h2 : zH) =>
    zrb (1 : Int32) h2)
theorem d_LT_speed_0 : decode prog_1_method_13_code 0 = .ok (.iload_n (1), 1) := by decide +kernel
theorem d_LT_speed_1 : decode prog_1_method_13_code 1 = .ok (.sipush (1000), 3) := by decide +kernel
theorem d_LT_speed_4 : decode prog_1_method_13_code 4 = .ok (.invokestatic (83), 3) := by decide +kernel
theorem d_LT_speed_7 : decode prog_1_method_13_code 7 = .ok (.ifCond .ne (5), 3) := by decide +kernel
theorem d_LT_speed_10 : decode prog_1_method_13_code 10 = .ok (.iconst (0), 1) := by decide +kernel
theorem d_LT_speed_11 : decode prog_1_method_13_code 11 = .ok (.ireturn, 1) := by decide +kernel
theorem d_LT_speed_12 : decode prog_1_method_13_code 12 = .ok (.aload_n (0), 1) := by decide +kernel
theorem d_LT_speed_13 : decode prog_1_method_13_code 13 = .ok (.iload_n (1), 1) := by decide +kernel
theorem d_LT_speed_14 : decode prog_1_method_13_code 14 = .ok (.putfield (180), 3) := by decide +kernel
theorem d_LT_speed_17 : decode prog_1_method_13_code 17 = .ok (.iconst (1), 1) := by decide +kernel
theorem d_LT_speed_18 : decode prog_1_method_13_code 18 = .ok (.ireturn, 1) := by decide +kernel
set_option maxHeartbeats 4000000 in
set_option maxRecDepth 100000 in
theorem k_LT_speed (N : Nat) {X : zX} (C : zB X prog_1_method_13_code 2 R_LT rm_LT_speed) {h0 : zH} {p : Int32 × zH} (E : zR X (some .boolean) rm_LT_speed h0 (some (.int p.1)) p.2) : ∀ (x0 : Nat) (x1 : Int32) (h : zH), f_LT_speed N x0 x1 h = some p → Zt X 2 0 0 0 [(0, .ref x0), (1, .int x1)] [] h := by
  intro x0 x1 h hf
  unfold f_LT_speed at hf
  refine z_iload_n C 1 d_LT_speed_0 rfl rfl ?_
  refine z_sipush C (v := (1000 : Int32)) d_LT_speed_1 (by decide) ?_
  obtain ⟨p1, hc, hf⟩ := Option.bind_eq_some_iff.mp hf
  refine z_callS C (c_LT_within N C.2.2.1 hc) w_325 w_57 w_323 w_324 pd_LT_within rfl ⟨(Nat.le_of_ble_eq_true rfl), (Nat.le_of_ble_eq_true rfl)⟩ ⟨(Nat.le_of_ble_eq_true rfl), (Nat.le_of_ble_eq_true rfl)⟩ rfl (Nat.le_of_ble_eq_true rfl) d_LT_speed_4 (k' := 0) (n' := 0) (stk' := [.int p1.1]) rfl rfl rfl ?_
  refine z_if_ne (tgt := 12) C d_LT_speed_7 (by decide) hf (fun hf => ?_) (fun hf => ?_)
  · refine z_aload_n C 0 d_LT_speed_12 rfl rfl ?_
    refine z_iload_n C 1 d_LT_speed_13 rfl rfl ?_
    refine z_put C 1 9 ty_LT rfl in_LT tyok_LT nm_LT (by decide) w_275 rfl (Or.inl rfl) rfl rfl rfl d_LT_speed_14 hf (fun h2 hf => ?_)
    refine z_iconst C (v := (1 : Int32)) d_LT_speed_17 (by decide) ?_
    exact z_zret C E (Nat.le_of_ble_eq_true rfl) (Nat.le_of_ble_eq_true rfl) d_LT_speed_18 hf
  · refine z_iconst C (v := (0 : Int32)) d_LT_speed_10 (by decide) ?_
    exact z_zret C E (Nat.le_of_ble_eq_true rfl) (Nat.le_of_ble_eq_true rfl) d_LT_speed_11 hf

theorem c_LT_speed (N : Nat) {l : Launch} {D : va_G} {T : List (ClassId × FieldType)} (hT : T.map (fun q => q.2) = ztl) {x0 : Nat} {x1 : Int32} {h : zH} {p : Int32 × zH} (hf : f_LT_speed N x0 x1 h = some p) : zM l y_LT_speed prog_1_method_13_code 2 (some .boolean) rm_LT_speed D T [.ref x0, .int x1] h (some (.int p.1)) p.2 :=
  z_enter (by decide) hT (Nat.le_of_ble_eq_true rfl) (fun X el eD eT hin C E => k_LT_speed N C E x0 x1 h hf)
/-! ===== LevelTables$Site.isHeld(I)Z ===== -/
abbrev y_Site_isHeld : MethodName := ⟨R_Site, "isHeld", "(I)Z"⟩
theorem pd_Site_isHeld : y_Site_isHeld.cls ≠ "java/lang/invoke/MethodHandle" ∧ y_Site_isHeld.cls ≠ "java/lang/invoke/VarHandle" ∧ (parseMethodDescriptor y_Site_isHeld.desc).map (fun d => d.parameters.length) = some 1 := ⟨by decide +kernel, by decide +kernel, by decide +kernel⟩
abbrev rm_Site_isHeld : Room := { frames := 0, cells := 0, slots := 0, locals := 0 }
def f_Site_isHeld_20 (N : Nat)  (h : zH) : Option (Int32 × zH) :=
  zrb (1 : Int32) h
def f_Site_isHeld (N : Nat) (x0 : Nat) (x1 : Int32) (h : zH) : Option (Int32 × zH) :=
  Option.bind (zgR h x0 2 5) fun (v1 : Nat) =>
  Option.bind (zaI h 0 v1 x1) fun (v2 : Int32) =>
  (if v2 = (-1 : Int32) then
    Option.bind (zgR h x0 2 6) fun (v3 : Nat) =>
    Option.bind (zaI h 0 v3 x1) fun (v4 : Int32) =>
    (if v4 = (-1 : Int32) then
      zrb (0 : Int32) h
    else
      f_Site_isHeld_20 N  h)
  else
    f_Site_isHeld_20 N  h)
theorem d_Site_isHeld_0 : decode prog_6_method_5_code 0 = .ok (.aload_n (0), 1) := by decide +kernel
theorem d_Site_isHeld_1 : decode prog_6_method_5_code 1 = .ok (.getfield (37), 3) := by decide +kernel
theorem d_Site_isHeld_4 : decode prog_6_method_5_code 4 = .ok (.iload_n (1), 1) := by decide +kernel
theorem d_Site_isHeld_5 : decode prog_6_method_5_code 5 = .ok (.iaload, 1) := by decide +kernel
theorem d_Site_isHeld_6 : decode prog_6_method_5_code 6 = .ok (.iconst (-1), 1) := by decide +kernel
theorem d_Site_isHeld_7 : decode prog_6_method_5_code 7 = .ok (.if_icmp .ne (13), 3) := by decide +kernel
theorem d_Site_isHeld_10 : decode prog_6_method_5_code 10 = .ok (.aload_n (0), 1) := by decide +kernel
theorem d_Site_isHeld_11 : decode prog_6_method_5_code 11 = .ok (.getfield (40), 3) := by decide +kernel
theorem d_Site_isHeld_14 : decode prog_6_method_5_code 14 = .ok (.iload_n (1), 1) := by decide +kernel
theorem d_Site_isHeld_15 : decode prog_6_method_5_code 15 = .ok (.iaload, 1) := by decide +kernel
theorem d_Site_isHeld_16 : decode prog_6_method_5_code 16 = .ok (.iconst (-1), 1) := by decide +kernel
theorem d_Site_isHeld_17 : decode prog_6_method_5_code 17 = .ok (.if_icmp .eq (7), 3) := by decide +kernel
theorem d_Site_isHeld_20 : decode prog_6_method_5_code 20 = .ok (.iconst (1), 1) := by decide +kernel
theorem d_Site_isHeld_21 : decode prog_6_method_5_code 21 = .ok (.goto (4), 3) := by decide +kernel
theorem d_Site_isHeld_24 : decode prog_6_method_5_code 24 = .ok (.iconst (0), 1) := by decide +kernel
theorem d_Site_isHeld_25 : decode prog_6_method_5_code 25 = .ok (.ireturn, 1) := by decide +kernel
set_option maxHeartbeats 4000000 in
set_option maxRecDepth 100000 in
theorem k_Site_isHeld_20 (N : Nat) {X : zX} (C : zB X prog_6_method_5_code 2 R_Site rm_Site_isHeld) {h0 : zH} {p : Int32 × zH} (E : zR X (some .boolean) rm_Site_isHeld h0 (some (.int p.1)) p.2) : ∀  (h : zH), f_Site_isHeld_20 N  h = some p → Zt X 2 0 0 20 [] [] h := by
  intro  h hf
  unfold f_Site_isHeld_20 at hf
  refine z_iconst C (v := (1 : Int32)) d_Site_isHeld_20 (by decide) ?_
  refine z_goto (tgt := 25) C d_Site_isHeld_21 (by decide) ?_
  exact z_zret C E (Nat.le_of_ble_eq_true rfl) (Nat.le_of_ble_eq_true rfl) d_Site_isHeld_25 hf

set_option maxHeartbeats 4000000 in
set_option maxRecDepth 100000 in
theorem k_Site_isHeld (N : Nat) {X : zX} (C : zB X prog_6_method_5_code 2 R_Site rm_Site_isHeld) {h0 : zH} {p : Int32 × zH} (E : zR X (some .boolean) rm_Site_isHeld h0 (some (.int p.1)) p.2) : ∀ (x0 : Nat) (x1 : Int32) (h : zH), f_Site_isHeld N x0 x1 h = some p → Zt X 2 0 0 0 [(0, .ref x0), (1, .int x1)] [] h := by
  intro x0 x1 h hf
  unfold f_Site_isHeld at hf
  refine z_aload_n C 0 d_Site_isHeld_0 rfl rfl ?_
  refine z_getR C 2 5 rfl in_Site (by decide) w_109 rfl d_Site_isHeld_1 hf (fun v1 hf => ?_)
  refine z_iload_n C 1 d_Site_isHeld_4 rfl rfl ?_
  refine z_iald C d_Site_isHeld_5 hf (fun v2 hf => ?_)
  refine z_iconst C (v := (-1 : Int32)) d_Site_isHeld_6 (by decide) ?_
  refine z_ic_ne (tgt := 20) C d_Site_isHeld_7 (by decide) hf (fun hf => ?_) (fun hf => ?_)
  · refine z_sub [] rfl ?_
    exact k_Site_isHeld_20 N C E  _ hf
  · refine z_aload_n C 0 d_Site_isHeld_10 rfl rfl ?_
    refine z_getR C 2 6 rfl in_Site (by decide) w_111 rfl d_Site_isHeld_11 hf (fun v3 hf => ?_)
    refine z_iload_n C 1 d_Site_isHeld_14 rfl rfl ?_
    refine z_iald C d_Site_isHeld_15 hf (fun v4 hf => ?_)
    refine z_iconst C (v := (-1 : Int32)) d_Site_isHeld_16 (by decide) ?_
    refine z_ic_eq (tgt := 24) C d_Site_isHeld_17 (by decide) hf (fun hf => ?_) (fun hf => ?_)
    · refine z_iconst C (v := (0 : Int32)) d_Site_isHeld_24 (by decide) ?_
      exact z_zret C E (Nat.le_of_ble_eq_true rfl) (Nat.le_of_ble_eq_true rfl) d_Site_isHeld_25 hf
    · refine z_sub [] rfl ?_
      exact k_Site_isHeld_20 N C E  _ hf

theorem c_Site_isHeld (N : Nat) {l : Launch} {D : va_G} {T : List (ClassId × FieldType)} (hT : T.map (fun q => q.2) = ztl) {x0 : Nat} {x1 : Int32} {h : zH} {p : Int32 × zH} (hf : f_Site_isHeld N x0 x1 h = some p) : zM l y_Site_isHeld prog_6_method_5_code 2 (some .boolean) rm_Site_isHeld D T [.ref x0, .int x1] h (some (.int p.1)) p.2 :=
  z_enter (by decide) hT (Nat.le_of_ble_eq_true rfl) (fun X el eD eT hin C E => k_Site_isHeld N C E x0 x1 h hf)
/-! ===== LevelTables$Curves.greaterNeighbour(I)I ===== -/
abbrev y_Curves_greaterNeighbour : MethodName := ⟨R_Curves, "greaterNeighbour", "(I)I"⟩
theorem pd_Curves_greaterNeighbour : y_Curves_greaterNeighbour.cls ≠ "java/lang/invoke/MethodHandle" ∧ y_Curves_greaterNeighbour.cls ≠ "java/lang/invoke/VarHandle" ∧ (parseMethodDescriptor y_Curves_greaterNeighbour.desc).map (fun d => d.parameters.length) = some 1 := ⟨by decide +kernel, by decide +kernel, by decide +kernel⟩
abbrev rm_Curves_greaterNeighbour : Room := { frames := 1, cells := 0, slots := 0, locals := 21 }
def f_Curves_greaterNeighbour (N : Nat) (x0 : Nat) (x1 : Int32) (h : zH) : Option (Int32 × zH) :=
  Option.bind (zgR h x0 6 0) fun (v1 : Nat) =>
  Option.bind (zaI h 0 v1 (x1 - (1 : Int32))) fun (v2 : Int32) =>
  Option.bind (zgR h x0 6 0) fun (v3 : Nat) =>
  Option.bind (zaI h 0 v3 (x1 + (1 : Int32))) fun (v4 : Int32) =>
  some ((zmax v2 v4), h)
theorem d_Curves_greaterNeighbour_0 : decode prog_2_method_4_code 0 = .ok (.aload_n (0), 1) := by decide +kernel
theorem d_Curves_greaterNeighbour_1 : decode prog_2_method_4_code 1 = .ok (.getfield (13), 3) := by decide +kernel
theorem d_Curves_greaterNeighbour_4 : decode prog_2_method_4_code 4 = .ok (.iload_n (1), 1) := by decide +kernel
theorem d_Curves_greaterNeighbour_5 : decode prog_2_method_4_code 5 = .ok (.iconst (1), 1) := by decide +kernel
theorem d_Curves_greaterNeighbour_6 : decode prog_2_method_4_code 6 = .ok (.isub, 1) := by decide +kernel
theorem d_Curves_greaterNeighbour_7 : decode prog_2_method_4_code 7 = .ok (.iaload, 1) := by decide +kernel
theorem d_Curves_greaterNeighbour_8 : decode prog_2_method_4_code 8 = .ok (.aload_n (0), 1) := by decide +kernel
theorem d_Curves_greaterNeighbour_9 : decode prog_2_method_4_code 9 = .ok (.getfield (13), 3) := by decide +kernel
theorem d_Curves_greaterNeighbour_12 : decode prog_2_method_4_code 12 = .ok (.iload_n (1), 1) := by decide +kernel
theorem d_Curves_greaterNeighbour_13 : decode prog_2_method_4_code 13 = .ok (.iconst (1), 1) := by decide +kernel
theorem d_Curves_greaterNeighbour_14 : decode prog_2_method_4_code 14 = .ok (.iadd, 1) := by decide +kernel
theorem d_Curves_greaterNeighbour_15 : decode prog_2_method_4_code 15 = .ok (.iaload, 1) := by decide +kernel
theorem d_Curves_greaterNeighbour_16 : decode prog_2_method_4_code 16 = .ok (.invokestatic (23), 3) := by decide +kernel
theorem d_Curves_greaterNeighbour_19 : decode prog_2_method_4_code 19 = .ok (.ireturn, 1) := by decide +kernel
set_option maxHeartbeats 4000000 in
set_option maxRecDepth 100000 in
theorem k_Curves_greaterNeighbour (N : Nat) {X : zX} (C : zB X prog_2_method_4_code 2 R_Curves rm_Curves_greaterNeighbour) {h0 : zH} {p : Int32 × zH} (E : zR X (some .int) rm_Curves_greaterNeighbour h0 (some (.int p.1)) p.2) : ∀ (x0 : Nat) (x1 : Int32) (h : zH), f_Curves_greaterNeighbour N x0 x1 h = some p → Zt X 2 0 0 0 [(0, .ref x0), (1, .int x1)] [] h := by
  intro x0 x1 h hf
  unfold f_Curves_greaterNeighbour at hf
  refine z_aload_n C 0 d_Curves_greaterNeighbour_0 rfl rfl ?_
  refine z_getR C 6 0 rfl in_Curves (by decide) w_234 rfl d_Curves_greaterNeighbour_1 hf (fun v1 hf => ?_)
  refine z_iload_n C 1 d_Curves_greaterNeighbour_4 rfl rfl ?_
  refine z_iconst C (v := (1 : Int32)) d_Curves_greaterNeighbour_5 (by decide) ?_
  refine z_isub C d_Curves_greaterNeighbour_6 ?_
  refine z_iald C d_Curves_greaterNeighbour_7 hf (fun v2 hf => ?_)
  refine z_aload_n C 0 d_Curves_greaterNeighbour_8 rfl rfl ?_
  refine z_getR C 6 0 rfl in_Curves (by decide) w_234 rfl d_Curves_greaterNeighbour_9 hf (fun v3 hf => ?_)
  refine z_iload_n C 1 d_Curves_greaterNeighbour_12 rfl rfl ?_
  refine z_iconst C (v := (1 : Int32)) d_Curves_greaterNeighbour_13 (by decide) ?_
  refine z_iadd C d_Curves_greaterNeighbour_14 ?_
  refine z_iald C d_Curves_greaterNeighbour_15 hf (fun v4 hf => ?_)
  refine z_mmax C w_628 w_82 w_58 w_83 (Nat.le_of_ble_eq_true rfl) (Nat.le_of_ble_eq_true rfl) (Nat.le_of_ble_eq_true rfl) (Nat.le_of_ble_eq_true rfl) d_Curves_greaterNeighbour_16 ?_
  exact z_iret C E (Nat.le_of_ble_eq_true rfl) (Nat.le_of_ble_eq_true rfl) d_Curves_greaterNeighbour_19 hf

theorem c_Curves_greaterNeighbour (N : Nat) {l : Launch} {D : va_G} {T : List (ClassId × FieldType)} (hT : T.map (fun q => q.2) = ztl) {x0 : Nat} {x1 : Int32} {h : zH} {p : Int32 × zH} (hf : f_Curves_greaterNeighbour N x0 x1 h = some p) : zM l y_Curves_greaterNeighbour prog_2_method_4_code 2 (some .int) rm_Curves_greaterNeighbour D T [.ref x0, .int x1] h (some (.int p.1)) p.2 :=
  z_enter (by decide) hT (Nat.le_of_ble_eq_true rfl) (fun X el eD eT hin C E => k_Curves_greaterNeighbour N C E x0 x1 h hf)
/-! ===== LevelTables$Curves.put(II)V ===== -/
abbrev y_Curves_put : MethodName := ⟨R_Curves, "put", "(II)V"⟩
theorem pd_Curves_put : y_Curves_put.cls ≠ "java/lang/invoke/MethodHandle" ∧ y_Curves_put.cls ≠ "java/lang/invoke/VarHandle" ∧ (parseMethodDescriptor y_Curves_put.desc).map (fun d => d.parameters.length) = some 2 := ⟨by decide +kernel, by decide +kernel, by decide +kernel⟩
abbrev rm_Curves_put : Room := { frames := 0, cells := 0, slots := 0, locals := 0 }
def f_Curves_put_33 (N : Nat) (x0 : Nat) (x1 : Int32) (x2 : Int32) (h : zH) : Option (Unit × zH) :=
  Option.bind (zgR h x0 6 0) fun (v1 : Nat) =>
  Option.bind (zsI h 0 v1 x1 x2) fun (h2 : zH) =>
  some ((), h2)
def f_Curves_put_19 (N : Nat) (x0 : Nat) (x1 : Int32) (x2 : Int32) (h : zH) : Option (Unit × zH) :=
  (if x2 = 0 then
    f_Curves_put_33 N x0 x1 x2 h
  else
    Option.bind (zgI h x0 6 1) fun (v3 : Int32) =>
    Option.bind (zp h x0 6 1 (.int (v3 + (1 : Int32)))) fun (h4 : zH) =>
    f_Curves_put_33 N x0 x1 x2 h4)
def f_Curves_put (N : Nat) (x0 : Nat) (x1 : Int32) (x2 : Int32) (h : zH) : Option (Unit × zH) :=
  Option.bind (zgR h x0 6 0) fun (v5 : Nat) =>
  Option.bind (zaI h 0 v5 x1) fun (v6 : Int32) =>
  (if v6 = 0 then
    f_Curves_put_19 N x0 x1 x2 h
  else
    Option.bind (zgI h x0 6 1) fun (v7 : Int32) =>
    Option.bind (zp h x0 6 1 (.int (v7 - (1 : Int32)))) fun (h8 : zH) =>
    f_Curves_put_19 N x0 x1 x2 h8)
theorem d_Curves_put_0 : decode prog_2_method_2_code 0 = .ok (.aload_n (0), 1) := by decide +kernel
theorem d_Curves_put_1 : decode prog_2_method_2_code 1 = .ok (.getfield (13), 3) := by decide +kernel
theorem d_Curves_put_4 : decode prog_2_method_2_code 4 = .ok (.iload_n (1), 1) := by decide +kernel
theorem d_Curves_put_5 : decode prog_2_method_2_code 5 = .ok (.iaload, 1) := by decide +kernel
theorem d_Curves_put_6 : decode prog_2_method_2_code 6 = .ok (.ifCond .eq (13), 3) := by decide +kernel
theorem d_Curves_put_9 : decode prog_2_method_2_code 9 = .ok (.aload_n (0), 1) := by decide +kernel
theorem d_Curves_put_10 : decode prog_2_method_2_code 10 = .ok (.dup, 1) := by decide +kernel
theorem d_Curves_put_11 : decode prog_2_method_2_code 11 = .ok (.getfield (7), 3) := by decide +kernel
theorem d_Curves_put_14 : decode prog_2_method_2_code 14 = .ok (.iconst (1), 1) := by decide +kernel
theorem d_Curves_put_15 : decode prog_2_method_2_code 15 = .ok (.isub, 1) := by decide +kernel
theorem d_Curves_put_16 : decode prog_2_method_2_code 16 = .ok (.putfield (7), 3) := by decide +kernel
theorem d_Curves_put_19 : decode prog_2_method_2_code 19 = .ok (.iload_n (2), 1) := by decide +kernel
theorem d_Curves_put_20 : decode prog_2_method_2_code 20 = .ok (.ifCond .eq (13), 3) := by decide +kernel
theorem d_Curves_put_23 : decode prog_2_method_2_code 23 = .ok (.aload_n (0), 1) := by decide +kernel
theorem d_Curves_put_24 : decode prog_2_method_2_code 24 = .ok (.dup, 1) := by decide +kernel
theorem d_Curves_put_25 : decode prog_2_method_2_code 25 = .ok (.getfield (7), 3) := by decide +kernel
theorem d_Curves_put_28 : decode prog_2_method_2_code 28 = .ok (.iconst (1), 1) := by decide +kernel
theorem d_Curves_put_29 : decode prog_2_method_2_code 29 = .ok (.iadd, 1) := by decide +kernel
theorem d_Curves_put_30 : decode prog_2_method_2_code 30 = .ok (.putfield (7), 3) := by decide +kernel
theorem d_Curves_put_33 : decode prog_2_method_2_code 33 = .ok (.aload_n (0), 1) := by decide +kernel
theorem d_Curves_put_34 : decode prog_2_method_2_code 34 = .ok (.getfield (13), 3) := by decide +kernel
theorem d_Curves_put_37 : decode prog_2_method_2_code 37 = .ok (.iload_n (1), 1) := by decide +kernel
theorem d_Curves_put_38 : decode prog_2_method_2_code 38 = .ok (.iload_n (2), 1) := by decide +kernel
theorem d_Curves_put_39 : decode prog_2_method_2_code 39 = .ok (.iastore, 1) := by decide +kernel
theorem d_Curves_put_40 : decode prog_2_method_2_code 40 = .ok (.return_, 1) := by decide +kernel
set_option maxHeartbeats 4000000 in
set_option maxRecDepth 100000 in
theorem k_Curves_put_33 (N : Nat) {X : zX} (C : zB X prog_2_method_2_code 3 R_Curves rm_Curves_put) {h0 : zH} {p : Unit × zH} (E : zR X none rm_Curves_put h0 none p.2) : ∀ (x0 : Nat) (x1 : Int32) (x2 : Int32) (h : zH), f_Curves_put_33 N x0 x1 x2 h = some p → Zt X 3 0 0 33 [(0, .ref x0), (1, .int x1), (2, .int x2)] [] h := by
  intro x0 x1 x2 h hf
  unfold f_Curves_put_33 at hf
  refine z_aload_n C 0 d_Curves_put_33 rfl rfl ?_
  refine z_getR C 6 0 rfl in_Curves (by decide) w_234 rfl d_Curves_put_34 hf (fun v1 hf => ?_)
  refine z_iload_n C 1 d_Curves_put_37 rfl rfl ?_
  refine z_iload_n C 2 d_Curves_put_38 rfl rfl ?_
  refine z_iast C d_Curves_put_39 hf (fun h2 hf => ?_)
  exact z_vret C E (Nat.le_of_ble_eq_true rfl) (Nat.le_of_ble_eq_true rfl) d_Curves_put_40 hf

set_option maxHeartbeats 4000000 in
set_option maxRecDepth 100000 in
theorem k_Curves_put_19 (N : Nat) {X : zX} (C : zB X prog_2_method_2_code 3 R_Curves rm_Curves_put) {h0 : zH} {p : Unit × zH} (E : zR X none rm_Curves_put h0 none p.2) : ∀ (x0 : Nat) (x1 : Int32) (x2 : Int32) (h : zH), f_Curves_put_19 N x0 x1 x2 h = some p → Zt X 3 0 0 19 [(0, .ref x0), (1, .int x1), (2, .int x2)] [] h := by
  intro x0 x1 x2 h hf
  unfold f_Curves_put_19 at hf
  refine z_iload_n C 2 d_Curves_put_19 rfl rfl ?_
  refine z_if_eq (tgt := 33) C d_Curves_put_20 (by decide) hf (fun hf => ?_) (fun hf => ?_)
  · refine z_sub [0, 1, 2] rfl ?_
    exact k_Curves_put_33 N C E _ _ _ _ hf
  · refine z_aload_n C 0 d_Curves_put_23 rfl rfl ?_
    refine z_dup C d_Curves_put_24 rfl ?_
    refine z_getI C 6 1 rfl in_Curves (by decide) w_236 rfl d_Curves_put_25 hf (fun v3 hf => ?_)
    refine z_iconst C (v := (1 : Int32)) d_Curves_put_28 (by decide) ?_
    refine z_iadd C d_Curves_put_29 ?_
    refine z_put C 6 1 ty_Curves rfl in_Curves tyok_Curves nm_Curves (by decide) w_236 rfl (Or.inl rfl) rfl rfl rfl d_Curves_put_30 hf (fun h4 hf => ?_)
    refine z_sub [0, 1, 2] rfl ?_
    exact k_Curves_put_33 N C E _ _ _ _ hf

set_option maxHeartbeats 4000000 in
set_option maxRecDepth 100000 in
theorem k_Curves_put (N : Nat) {X : zX} (C : zB X prog_2_method_2_code 3 R_Curves rm_Curves_put) {h0 : zH} {p : Unit × zH} (E : zR X none rm_Curves_put h0 none p.2) : ∀ (x0 : Nat) (x1 : Int32) (x2 : Int32) (h : zH), f_Curves_put N x0 x1 x2 h = some p → Zt X 3 0 0 0 [(0, .ref x0), (1, .int x1), (2, .int x2)] [] h := by
  intro x0 x1 x2 h hf
  unfold f_Curves_put at hf
  refine z_aload_n C 0 d_Curves_put_0 rfl rfl ?_
  refine z_getR C 6 0 rfl in_Curves (by decide) w_234 rfl d_Curves_put_1 hf (fun v5 hf => ?_)
  refine z_iload_n C 1 d_Curves_put_4 rfl rfl ?_
  refine z_iald C d_Curves_put_5 hf (fun v6 hf => ?_)
  refine z_if_eq (tgt := 19) C d_Curves_put_6 (by decide) hf (fun hf => ?_) (fun hf => ?_)
  · refine z_sub [0, 1, 2] rfl ?_
    exact k_Curves_put_19 N C E _ _ _ _ hf
  · refine z_aload_n C 0 d_Curves_put_9 rfl rfl ?_
    refine z_dup C d_Curves_put_10 rfl ?_
    refine z_getI C 6 1 rfl in_Curves (by decide) w_236 rfl d_Curves_put_11 hf (fun v7 hf => ?_)
    refine z_iconst C (v := (1 : Int32)) d_Curves_put_14 (by decide) ?_
    refine z_isub C d_Curves_put_15 ?_
    refine z_put C 6 1 ty_Curves rfl in_Curves tyok_Curves nm_Curves (by decide) w_236 rfl (Or.inl rfl) rfl rfl rfl d_Curves_put_16 hf (fun h8 hf => ?_)
    refine z_sub [0, 1, 2] rfl ?_
    exact k_Curves_put_19 N C E _ _ _ _ hf

theorem c_Curves_put (N : Nat) {l : Launch} {D : va_G} {T : List (ClassId × FieldType)} (hT : T.map (fun q => q.2) = ztl) {x0 : Nat} {x1 : Int32} {x2 : Int32} {h : zH} {p : Unit × zH} (hf : f_Curves_put N x0 x1 x2 h = some p) : zM l y_Curves_put prog_2_method_2_code 3 none rm_Curves_put D T [.ref x0, .int x1, .int x2] h none p.2 :=
  z_enter (by decide) hT (Nat.le_of_ble_eq_true rfl) (fun X el eD eT hin C E => k_Curves_put N C E x0 x1 x2 h hf)
