/-! ===== LevelTablesModel.usedSpans()I ===== -/
abbrev y_Model_usedSpans : MethodName := ⟨R_Model, "usedSpans", "()I"⟩
theorem pd_Model_usedSpans : y_Model_usedSpans.cls ≠ "java/lang/invoke/MethodHandle" ∧ y_Model_usedSpans.cls ≠ "java/lang/invoke/VarHandle" ∧ (parseMethodDescriptor y_Model_usedSpans.desc).map (fun d => d.parameters.length) = some 0 := ⟨by decide +kernel, by decide +kernel, by decide +kernel⟩
abbrev rm_Model_usedSpans : Room := { frames := 0, cells := 0, slots := 0, locals := 0 }
def b_Model_usedSpans_4 (N : Nat) (rc4 : Nat → Int32 → Int32 → zH → Option (Int32 × zH)) (x0 : Nat) (x1 : Int32) (x2 : Int32) (h : zH) : Option (Int32 × zH) :=
  Option.bind (zgI h x0 0 10) fun (v1 : Int32) =>
  (if v1 ≤ x2 then
    some (x1, h)
  else
    Option.bind (zgI h x0 0 26) fun (v2 : Int32) =>
    rc4 x0 (x1 + ((v2 >>> (x2 &&& 31)) &&& (1 : Int32))) (x2 + (1 : Int32)) h)
def f_Model_usedSpans_4 (N : Nat) : Nat → Nat → Int32 → Int32 → zH → Option (Int32 × zH)
  | 0 => fun _ _ _ _ => none
  | n + 1 => fun x0 x1 x2 h => b_Model_usedSpans_4 N (f_Model_usedSpans_4 N n) x0 x1 x2 h
def f_Model_usedSpans (N : Nat) (x0 : Nat) (h : zH) : Option (Int32 × zH) :=
  f_Model_usedSpans_4 N N x0 (0 : Int32) (0 : Int32) h
theorem d_Model_usedSpans_0 : decode prog_10_method_27_code 0 = .ok (.iconst (0), 1) := by decide +kernel
theorem d_Model_usedSpans_1 : decode prog_10_method_27_code 1 = .ok (.istore_n (1), 1) := by decide +kernel
theorem d_Model_usedSpans_2 : decode prog_10_method_27_code 2 = .ok (.iconst (0), 1) := by decide +kernel
theorem d_Model_usedSpans_3 : decode prog_10_method_27_code 3 = .ok (.istore_n (2), 1) := by decide +kernel
theorem d_Model_usedSpans_4 : decode prog_10_method_27_code 4 = .ok (.iload_n (2), 1) := by decide +kernel
theorem d_Model_usedSpans_5 : decode prog_10_method_27_code 5 = .ok (.aload_n (0), 1) := by decide +kernel
theorem d_Model_usedSpans_6 : decode prog_10_method_27_code 6 = .ok (.getfield (119), 3) := by decide +kernel
theorem d_Model_usedSpans_9 : decode prog_10_method_27_code 9 = .ok (.if_icmp .ge (20), 3) := by decide +kernel
theorem d_Model_usedSpans_12 : decode prog_10_method_27_code 12 = .ok (.iload_n (1), 1) := by decide +kernel
theorem d_Model_usedSpans_13 : decode prog_10_method_27_code 13 = .ok (.aload_n (0), 1) := by decide +kernel
theorem d_Model_usedSpans_14 : decode prog_10_method_27_code 14 = .ok (.getfield (169), 3) := by decide +kernel
theorem d_Model_usedSpans_17 : decode prog_10_method_27_code 17 = .ok (.iload_n (2), 1) := by decide +kernel
theorem d_Model_usedSpans_18 : decode prog_10_method_27_code 18 = .ok (.ishr, 1) := by decide +kernel
theorem d_Model_usedSpans_19 : decode prog_10_method_27_code 19 = .ok (.iconst (1), 1) := by decide +kernel
theorem d_Model_usedSpans_20 : decode prog_10_method_27_code 20 = .ok (.iand, 1) := by decide +kernel
theorem d_Model_usedSpans_21 : decode prog_10_method_27_code 21 = .ok (.iadd, 1) := by decide +kernel
theorem d_Model_usedSpans_22 : decode prog_10_method_27_code 22 = .ok (.istore_n (1), 1) := by decide +kernel
theorem d_Model_usedSpans_23 : decode prog_10_method_27_code 23 = .ok (.iinc (2) (1), 3) := by decide +kernel
theorem d_Model_usedSpans_26 : decode prog_10_method_27_code 26 = .ok (.goto (-22), 3) := by decide +kernel
theorem d_Model_usedSpans_29 : decode prog_10_method_27_code 29 = .ok (.iload_n (1), 1) := by decide +kernel
theorem d_Model_usedSpans_30 : decode prog_10_method_27_code 30 = .ok (.ireturn, 1) := by decide +kernel
set_option maxHeartbeats 4000000 in
set_option maxRecDepth 100000 in
theorem k_Model_usedSpans_4 (N : Nat) {X : zX} (C : zB X prog_10_method_27_code 3 R_Model rm_Model_usedSpans) {h0 : zH} {p : Int32 × zH} (E : zR X (some .int) rm_Model_usedSpans h0 (some (.int p.1)) p.2) : ∀ n : Nat, ∀ (x0 : Nat) (x1 : Int32) (x2 : Int32) (h : zH), f_Model_usedSpans_4 N n x0 x1 x2 h = some p → Zt X 3 0 0 4 [(0, .ref x0), (1, .int x1), (2, .int x2)] [] h := by
  intro n
  induction n with
  | zero => intro x0 x1 x2 h hf; cases hf
  | succ n ih =>
  intro x0 x1 x2 h hf
  have H4 := ih
  replace hf : b_Model_usedSpans_4 N (f_Model_usedSpans_4 N n) x0 x1 x2 h = some p := hf
  unfold b_Model_usedSpans_4 at hf
  refine z_iload_n C 2 d_Model_usedSpans_4 rfl rfl ?_
  refine z_aload_n C 0 d_Model_usedSpans_5 rfl rfl ?_
  refine z_getI C 0 10 rfl in_Model (by decide) w_751 rfl d_Model_usedSpans_6 hf (fun v1 hf => ?_)
  refine z_ic_ge (tgt := 29) C d_Model_usedSpans_9 (by decide) hf (fun hf => ?_) (fun hf => ?_)
  · refine z_iload_n C 1 d_Model_usedSpans_29 rfl rfl ?_
    exact z_iret C E (Nat.le_of_ble_eq_true rfl) (Nat.le_of_ble_eq_true rfl) d_Model_usedSpans_30 hf
  · refine z_iload_n C 1 d_Model_usedSpans_12 rfl rfl ?_
    refine z_aload_n C 0 d_Model_usedSpans_13 rfl rfl ?_
    refine z_getI C 0 26 rfl in_Model (by decide) w_767 rfl d_Model_usedSpans_14 hf (fun v2 hf => ?_)
    refine z_iload_n C 2 d_Model_usedSpans_17 rfl rfl ?_
    refine z_ishr C d_Model_usedSpans_18 ?_
    refine z_iconst C (v := (1 : Int32)) d_Model_usedSpans_19 (by decide) ?_
    refine z_iand C d_Model_usedSpans_20 ?_
    refine z_iadd C d_Model_usedSpans_21 ?_
    refine z_istore_n C (lv' := [(1, .int (x1 + ((v2 >>> (x2 &&& 31)) &&& (1 : Int32)))), (0, .ref x0), (2, .int x2)]) d_Model_usedSpans_22 rfl (by decide) rfl ?_
    refine z_iinc C (v := (x2 + (1 : Int32))) (lv' := [(2, .int (x2 + (1 : Int32))), (1, .int (x1 + ((v2 >>> (x2 &&& 31)) &&& (1 : Int32)))), (0, .ref x0)]) 2 d_Model_usedSpans_23 rfl (by rfl) (by decide) rfl ?_
    refine z_goto (tgt := 4) C d_Model_usedSpans_26 (by decide) ?_
    refine z_sub [2, 1, 0] rfl ?_
    exact H4 _ _ _ _ hf

set_option maxHeartbeats 4000000 in
set_option maxRecDepth 100000 in
theorem k_Model_usedSpans (N : Nat) {X : zX} (C : zB X prog_10_method_27_code 3 R_Model rm_Model_usedSpans) {h0 : zH} {p : Int32 × zH} (E : zR X (some .int) rm_Model_usedSpans h0 (some (.int p.1)) p.2) : ∀ (x0 : Nat) (h : zH), f_Model_usedSpans N x0 h = some p → Zt X 3 0 0 0 [(0, .ref x0)] [] h := by
  intro x0 h hf
  unfold f_Model_usedSpans at hf
  refine z_iconst C (v := (0 : Int32)) d_Model_usedSpans_0 (by decide) ?_
  refine z_istore_n C (lv' := [(1, .int (0 : Int32)), (0, .ref x0)]) d_Model_usedSpans_1 rfl (by decide) rfl ?_
  refine z_iconst C (v := (0 : Int32)) d_Model_usedSpans_2 (by decide) ?_
  refine z_istore_n C (lv' := [(2, .int (0 : Int32)), (1, .int (0 : Int32)), (0, .ref x0)]) d_Model_usedSpans_3 rfl (by decide) rfl ?_
  refine z_sub [2, 1, 0] rfl ?_
  exact k_Model_usedSpans_4 N C E N _ _ _ _ hf

theorem c_Model_usedSpans (N : Nat) {l : Launch} {D : va_G} {T : List (ClassId × FieldType)} (hT : T.map (fun q => q.2) = ztl) {x0 : Nat} {h : zH} {p : Int32 × zH} (hf : f_Model_usedSpans N x0 h = some p) : zM l y_Model_usedSpans prog_10_method_27_code 3 (some .int) rm_Model_usedSpans D T [.ref x0] h (some (.int p.1)) p.2 :=
  z_enter (by decide) hT (Nat.le_of_ble_eq_true rfl) (fun X el eD eT hin C E => k_Model_usedSpans N C E x0 h hf)
/-! ===== LevelTablesModel.level(I)I ===== -/
abbrev y_Model_level : MethodName := ⟨R_Model, "level", "(I)I"⟩
theorem pd_Model_level : y_Model_level.cls ≠ "java/lang/invoke/MethodHandle" ∧ y_Model_level.cls ≠ "java/lang/invoke/VarHandle" ∧ (parseMethodDescriptor y_Model_level.desc).map (fun d => d.parameters.length) = some 1 := ⟨by decide +kernel, by decide +kernel, by decide +kernel⟩
abbrev rm_Model_level : Room := { frames := 1, cells := 0, slots := 0, locals := 21 }
def f_Model_level (N : Nat) (x0 : Nat) (x1 : Int32) (h : zH) : Option (Int32 × zH) :=
  Option.bind (zgI h x0 0 24) fun (v1 : Int32) =>
  (if v1 = 0 then
    some ((-1 : Int32), h)
  else
    Option.bind (zck (zis h x0 0) (f_Model_isPlace N x0 x1 h)) fun (p2 : Int32 × zH) =>
    (if p2.1 = 0 then
      some ((-1 : Int32), p2.2)
    else
      Option.bind (zgR p2.2 x0 0 25) fun (v3 : Nat) =>
      Option.bind (zaI p2.2 0 v3 x1) fun (v4 : Int32) =>
      some (v4, p2.2)))
theorem d_Model_level_0 : decode prog_10_method_29_code 0 = .ok (.aload_n (0), 1) := by decide +kernel
theorem d_Model_level_1 : decode prog_10_method_29_code 1 = .ok (.getfield (95), 3) := by decide +kernel
theorem d_Model_level_4 : decode prog_10_method_29_code 4 = .ok (.ifCond .eq (20), 3) := by decide +kernel
theorem d_Model_level_7 : decode prog_10_method_29_code 7 = .ok (.aload_n (0), 1) := by decide +kernel
theorem d_Model_level_8 : decode prog_10_method_29_code 8 = .ok (.iload_n (1), 1) := by decide +kernel
theorem d_Model_level_9 : decode prog_10_method_29_code 9 = .ok (.invokevirtual (105), 3) := by decide +kernel
theorem d_Model_level_12 : decode prog_10_method_29_code 12 = .ok (.ifCond .eq (12), 3) := by decide +kernel
theorem d_Model_level_15 : decode prog_10_method_29_code 15 = .ok (.aload_n (0), 1) := by decide +kernel
theorem d_Model_level_16 : decode prog_10_method_29_code 16 = .ok (.getfield (68), 3) := by decide +kernel
theorem d_Model_level_19 : decode prog_10_method_29_code 19 = .ok (.iload_n (1), 1) := by decide +kernel
theorem d_Model_level_20 : decode prog_10_method_29_code 20 = .ok (.iaload, 1) := by decide +kernel
theorem d_Model_level_21 : decode prog_10_method_29_code 21 = .ok (.goto (4), 3) := by decide +kernel
theorem d_Model_level_24 : decode prog_10_method_29_code 24 = .ok (.iconst (-1), 1) := by decide +kernel
theorem d_Model_level_25 : decode prog_10_method_29_code 25 = .ok (.ireturn, 1) := by decide +kernel
set_option maxHeartbeats 4000000 in
set_option maxRecDepth 100000 in
theorem k_Model_level (N : Nat) {X : zX} (C : zB X prog_10_method_29_code 2 R_Model rm_Model_level) {h0 : zH} {p : Int32 × zH} (E : zR X (some .int) rm_Model_level h0 (some (.int p.1)) p.2) : ∀ (x0 : Nat) (x1 : Int32) (h : zH), f_Model_level N x0 x1 h = some p → Zt X 2 0 0 0 [(0, .ref x0), (1, .int x1)] [] h := by
  intro x0 x1 h hf
  unfold f_Model_level at hf
  refine z_aload_n C 0 d_Model_level_0 rfl rfl ?_
  refine z_getI C 0 24 rfl in_Model (by decide) w_765 rfl d_Model_level_1 hf (fun v1 hf => ?_)
  refine z_if_eq (tgt := 24) C d_Model_level_4 (by decide) hf (fun hf => ?_) (fun hf => ?_)
  · refine z_iconst C (v := (-1 : Int32)) d_Model_level_24 (by decide) ?_
    exact z_iret C E (Nat.le_of_ble_eq_true rfl) (Nat.le_of_ble_eq_true rfl) d_Model_level_25 hf
  · refine z_aload_n C 0 d_Model_level_7 rfl rfl ?_
    refine z_iload_n C 1 d_Model_level_8 rfl rfl ?_
    obtain ⟨p2, hc, hf⟩ := Option.bind_eq_some_iff.mp hf
    obtain ⟨hz, hc⟩ := zck_some hc
    refine z_callV C (ci := 0) (c_Model_isPlace N C.2.2.1 hc) rfl hz w_855 w_66 w_852 w_854 w_32 pd_Model_isPlace rfl ⟨(Nat.le_of_ble_eq_true rfl), (Nat.le_of_ble_eq_true rfl)⟩ ⟨(Nat.le_of_ble_eq_true rfl), (Nat.le_of_ble_eq_true rfl)⟩ rfl (Nat.le_of_ble_eq_true rfl) d_Model_level_9 (k' := 0) (n' := 0) (stk' := [.int p2.1]) rfl rfl rfl ?_
    refine z_if_eq (tgt := 24) C d_Model_level_12 (by decide) hf (fun hf => ?_) (fun hf => ?_)
    · refine z_iconst C (v := (-1 : Int32)) d_Model_level_24 (by decide) ?_
      exact z_iret C E (Nat.le_of_ble_eq_true rfl) (Nat.le_of_ble_eq_true rfl) d_Model_level_25 hf
    · refine z_aload_n C 0 d_Model_level_15 rfl rfl ?_
      refine z_getR C 0 25 rfl in_Model (by decide) w_766 rfl d_Model_level_16 hf (fun v3 hf => ?_)
      refine z_iload_n C 1 d_Model_level_19 rfl rfl ?_
      refine z_iald C d_Model_level_20 hf (fun v4 hf => ?_)
      refine z_goto (tgt := 25) C d_Model_level_21 (by decide) ?_
      exact z_iret C E (Nat.le_of_ble_eq_true rfl) (Nat.le_of_ble_eq_true rfl) d_Model_level_25 hf

theorem c_Model_level (N : Nat) {l : Launch} {D : va_G} {T : List (ClassId × FieldType)} (hT : T.map (fun q => q.2) = ztl) {x0 : Nat} {x1 : Int32} {h : zH} {p : Int32 × zH} (hf : f_Model_level N x0 x1 h = some p) : zM l y_Model_level prog_10_method_29_code 2 (some .int) rm_Model_level D T [.ref x0, .int x1] h (some (.int p.1)) p.2 :=
  z_enter (by decide) hT (Nat.le_of_ble_eq_true rfl) (fun X el eD eT hin C E => k_Model_level N C E x0 x1 h hf)
/-! ===== LevelTablesModel.cost()J ===== -/
abbrev y_Model_cost : MethodName := ⟨R_Model, "cost", "()J"⟩
theorem pd_Model_cost : y_Model_cost.cls ≠ "java/lang/invoke/MethodHandle" ∧ y_Model_cost.cls ≠ "java/lang/invoke/VarHandle" ∧ (parseMethodDescriptor y_Model_cost.desc).map (fun d => d.parameters.length) = some 0 := ⟨by decide +kernel, by decide +kernel, by decide +kernel⟩
abbrev rm_Model_cost : Room := { frames := 0, cells := 0, slots := 0, locals := 0 }
def f_Model_cost (N : Nat) (x0 : Nat) (h : zH) : Option (Int64 × zH) :=
  Option.bind (zgI h x0 0 24) fun (v1 : Int32) =>
  (if v1 = 0 then
    some ((-1 : Int64), h)
  else
    Option.bind (zgJ h x0 0 27) fun (v2 : Int64) =>
    some (v2, h))
theorem d_Model_cost_0 : decode prog_10_method_30_code 0 = .ok (.aload_n (0), 1) := by decide +kernel
theorem d_Model_cost_1 : decode prog_10_method_30_code 1 = .ok (.getfield (95), 3) := by decide +kernel
theorem d_Model_cost_4 : decode prog_10_method_30_code 4 = .ok (.ifCond .eq (10), 3) := by decide +kernel
theorem d_Model_cost_7 : decode prog_10_method_30_code 7 = .ok (.aload_n (0), 1) := by decide +kernel
theorem d_Model_cost_8 : decode prog_10_method_30_code 8 = .ok (.getfield (172), 3) := by decide +kernel
theorem d_Model_cost_11 : decode prog_10_method_30_code 11 = .ok (.goto (6), 3) := by decide +kernel
theorem d_Model_cost_14 : decode prog_10_method_30_code 14 = .ok (.ldc2_w (137), 3) := by decide +kernel
theorem d_Model_cost_17 : decode prog_10_method_30_code 17 = .ok (.lreturn, 1) := by decide +kernel
set_option maxHeartbeats 4000000 in
set_option maxRecDepth 100000 in
theorem k_Model_cost (N : Nat) {X : zX} (C : zB X prog_10_method_30_code 1 R_Model rm_Model_cost) {h0 : zH} {p : Int64 × zH} (E : zR X (some .long) rm_Model_cost h0 (some (.long p.1)) p.2) : ∀ (x0 : Nat) (h : zH), f_Model_cost N x0 h = some p → Zt X 1 0 0 0 [(0, .ref x0)] [] h := by
  intro x0 h hf
  unfold f_Model_cost at hf
  refine z_aload_n C 0 d_Model_cost_0 rfl rfl ?_
  refine z_getI C 0 24 rfl in_Model (by decide) w_765 rfl d_Model_cost_1 hf (fun v1 hf => ?_)
  refine z_if_eq (tgt := 14) C d_Model_cost_4 (by decide) hf (fun hf => ?_) (fun hf => ?_)
  · refine z_ldc2 C d_Model_cost_14 w_924 ?_
    exact z_lret C E (Nat.le_of_ble_eq_true rfl) (Nat.le_of_ble_eq_true rfl) d_Model_cost_17 hf
  · refine z_aload_n C 0 d_Model_cost_7 rfl rfl ?_
    refine z_getJ C 0 27 rfl in_Model (by decide) w_768 rfl d_Model_cost_8 hf (fun v2 hf => ?_)
    refine z_goto (tgt := 17) C d_Model_cost_11 (by decide) ?_
    exact z_lret C E (Nat.le_of_ble_eq_true rfl) (Nat.le_of_ble_eq_true rfl) d_Model_cost_17 hf

theorem c_Model_cost (N : Nat) {l : Launch} {D : va_G} {T : List (ClassId × FieldType)} (hT : T.map (fun q => q.2) = ztl) {x0 : Nat} {h : zH} {p : Int64 × zH} (hf : f_Model_cost N x0 h = some p) : zM l y_Model_cost prog_10_method_30_code 1 (some .long) rm_Model_cost D T [.ref x0] h (some (.long p.1)) p.2 :=
  z_enter (by decide) hT (Nat.le_of_ble_eq_true rfl) (fun X el eD eT hin C E => k_Model_cost N C E x0 h hf)
/-! ===== LevelTablesModel.insert([JIIJ)I ===== -/
abbrev y_Model_insert : MethodName := ⟨R_Model, "insert", "([JIIJ)I"⟩
theorem pd_Model_insert : y_Model_insert.cls ≠ "java/lang/invoke/MethodHandle" ∧ y_Model_insert.cls ≠ "java/lang/invoke/VarHandle" ∧ (parseMethodDescriptor y_Model_insert.desc).map (fun d => d.parameters.length) = some 4 := ⟨by decide +kernel, by decide +kernel, by decide +kernel⟩
abbrev rm_Model_insert : Room := { frames := 0, cells := 0, slots := 0, locals := 0 }
def b_Model_insert_69 (N : Nat) (rc69 : Nat → Int32 → Int32 → Int64 → Int32 → Int32 → zH → Option (Int32 × zH)) (x0 : Nat) (x1 : Int32) (x2 : Int32) (x3 : Int64) (x5 : Int32) (x7 : Int32) (h : zH) : Option (Int32 × zH) :=
  (if x7 ≤ x5 then
    Option.bind (zsJ h 1 x0 (x1 + x5) x3) fun (h1 : zH) =>
    (if (6 : Int32) ≤ x2 then
      some ((6 : Int32), h1)
    else
      some ((x2 + (1 : Int32)), h1))
  else
    Option.bind (zaJ h 1 x0 ((x1 + x7) - (1 : Int32))) fun (v2 : Int64) =>
    Option.bind (zsJ h 1 x0 (x1 + x7) v2) fun (h3 : zH) =>
    rc69 x0 x1 x2 x3 x5 (x7 + (-1 : Int32)) h3)
def f_Model_insert_69 (N : Nat) : Nat → Nat → Int32 → Int32 → Int64 → Int32 → Int32 → zH → Option (Int32 × zH)
  | 0 => fun _ _ _ _ _ _ _ => none
  | n + 1 => fun x0 x1 x2 x3 x5 x7 h => b_Model_insert_69 N (f_Model_insert_69 N n) x0 x1 x2 x3 x5 x7 h
def f_Model_insert_63 (N : Nat) (x0 : Nat) (x1 : Int32) (x2 : Int32) (x3 : Int64) (x5 : Int32) (s0 : Int32) (h : zH) : Option (Int32 × zH) :=
  f_Model_insert_69 N N x0 x1 x2 x3 x5 s0 h
def f_Model_insert_52 (N : Nat) (x0 : Nat) (x1 : Int32) (x2 : Int32) (x3 : Int64) (x5 : Int32) (h : zH) : Option (Int32 × zH) :=
  (if (6 : Int32) ≤ x2 then
    f_Model_insert_63 N x0 x1 x2 x3 x5 (5 : Int32) h
  else
    f_Model_insert_63 N x0 x1 x2 x3 x5 x2 h)
def f_Model_insert_26 (N : Nat) (x0 : Nat) (x1 : Int32) (x2 : Int32) (x3 : Int64) (x5 : Int32) (h : zH) : Option (Int32 × zH) :=
  (if x5 = (6 : Int32) then
    some (x2, h)
  else
    (if x2 ≤ x5 then
      f_Model_insert_52 N x0 x1 x2 x3 x5 h
    else
      Option.bind (zaJ h 1 x0 (x1 + x5)) fun (v4 : Int64) =>
      (if (lg_cmp v4 x3) = 0 then
        some (x2, h)
      else
        f_Model_insert_52 N x0 x1 x2 x3 x5 h)))
def b_Model_insert_3 (N : Nat) (rc3 : Nat → Int32 → Int32 → Int64 → Int32 → zH → Option (Int32 × zH)) (x0 : Nat) (x1 : Int32) (x2 : Int32) (x3 : Int64) (x5 : Int32) (h : zH) : Option (Int32 × zH) :=
  (if x2 ≤ x5 then
    f_Model_insert_26 N x0 x1 x2 x3 x5 h
  else
    Option.bind (zaJ h 1 x0 (x1 + x5)) fun (v5 : Int64) =>
    (if 0 ≤ (lg_cmp v5 x3) then
      f_Model_insert_26 N x0 x1 x2 x3 x5 h
    else
      rc3 x0 x1 x2 x3 (x5 + (1 : Int32)) h))
def f_Model_insert_3 (N : Nat) : Nat → Nat → Int32 → Int32 → Int64 → Int32 → zH → Option (Int32 × zH)
  | 0 => fun _ _ _ _ _ _ => none
  | n + 1 => fun x0 x1 x2 x3 x5 h => b_Model_insert_3 N (f_Model_insert_3 N n) x0 x1 x2 x3 x5 h
def f_Model_insert (N : Nat) (x0 : Nat) (x1 : Int32) (x2 : Int32) (x3 : Int64) (h : zH) : Option (Int32 × zH) :=
  f_Model_insert_3 N N x0 x1 x2 x3 (0 : Int32) h
theorem d_Model_insert_0 : decode prog_10_method_31_code 0 = .ok (.iconst (0), 1) := by decide +kernel
theorem d_Model_insert_1 : decode prog_10_method_31_code 1 = .ok (.istore (5), 2) := by decide +kernel
theorem d_Model_insert_3 : decode prog_10_method_31_code 3 = .ok (.iload (5), 2) := by decide +kernel
theorem d_Model_insert_5 : decode prog_10_method_31_code 5 = .ok (.iload_n (2), 1) := by decide +kernel
theorem d_Model_insert_6 : decode prog_10_method_31_code 6 = .ok (.if_icmp .ge (20), 3) := by decide +kernel
theorem d_Model_insert_9 : decode prog_10_method_31_code 9 = .ok (.aload_n (0), 1) := by decide +kernel
theorem d_Model_insert_10 : decode prog_10_method_31_code 10 = .ok (.iload_n (1), 1) := by decide +kernel
theorem d_Model_insert_11 : decode prog_10_method_31_code 11 = .ok (.iload (5), 2) := by decide +kernel
theorem d_Model_insert_13 : decode prog_10_method_31_code 13 = .ok (.iadd, 1) := by decide +kernel
theorem d_Model_insert_14 : decode prog_10_method_31_code 14 = .ok (.laload, 1) := by decide +kernel
theorem d_Model_insert_15 : decode prog_10_method_31_code 15 = .ok (.lload_n (3), 1) := by decide +kernel
theorem d_Model_insert_16 : decode prog_10_method_31_code 16 = .ok (.lcmp, 1) := by decide +kernel
theorem d_Model_insert_17 : decode prog_10_method_31_code 17 = .ok (.ifCond .ge (9), 3) := by decide +kernel
theorem d_Model_insert_20 : decode prog_10_method_31_code 20 = .ok (.iinc (5) (1), 3) := by decide +kernel
theorem d_Model_insert_23 : decode prog_10_method_31_code 23 = .ok (.goto (-20), 3) := by decide +kernel
theorem d_Model_insert_26 : decode prog_10_method_31_code 26 = .ok (.iload (5), 2) := by decide +kernel
theorem d_Model_insert_28 : decode prog_10_method_31_code 28 = .ok (.bipush (6), 2) := by decide +kernel
theorem d_Model_insert_30 : decode prog_10_method_31_code 30 = .ok (.if_icmp .eq (20), 3) := by decide +kernel
theorem d_Model_insert_33 : decode prog_10_method_31_code 33 = .ok (.iload (5), 2) := by decide +kernel
theorem d_Model_insert_35 : decode prog_10_method_31_code 35 = .ok (.iload_n (2), 1) := by decide +kernel
theorem d_Model_insert_36 : decode prog_10_method_31_code 36 = .ok (.if_icmp .ge (16), 3) := by decide +kernel
theorem d_Model_insert_39 : decode prog_10_method_31_code 39 = .ok (.aload_n (0), 1) := by decide +kernel
theorem d_Model_insert_40 : decode prog_10_method_31_code 40 = .ok (.iload_n (1), 1) := by decide +kernel
theorem d_Model_insert_41 : decode prog_10_method_31_code 41 = .ok (.iload (5), 2) := by decide +kernel
theorem d_Model_insert_43 : decode prog_10_method_31_code 43 = .ok (.iadd, 1) := by decide +kernel
theorem d_Model_insert_44 : decode prog_10_method_31_code 44 = .ok (.laload, 1) := by decide +kernel
theorem d_Model_insert_45 : decode prog_10_method_31_code 45 = .ok (.lload_n (3), 1) := by decide +kernel
theorem d_Model_insert_46 : decode prog_10_method_31_code 46 = .ok (.lcmp, 1) := by decide +kernel
theorem d_Model_insert_47 : decode prog_10_method_31_code 47 = .ok (.ifCond .ne (5), 3) := by decide +kernel
theorem d_Model_insert_50 : decode prog_10_method_31_code 50 = .ok (.iload_n (2), 1) := by decide +kernel
theorem d_Model_insert_51 : decode prog_10_method_31_code 51 = .ok (.ireturn, 1) := by decide +kernel
theorem d_Model_insert_52 : decode prog_10_method_31_code 52 = .ok (.iload_n (2), 1) := by decide +kernel
theorem d_Model_insert_53 : decode prog_10_method_31_code 53 = .ok (.bipush (6), 2) := by decide +kernel
theorem d_Model_insert_55 : decode prog_10_method_31_code 55 = .ok (.if_icmp .ge (7), 3) := by decide +kernel
theorem d_Model_insert_58 : decode prog_10_method_31_code 58 = .ok (.iload_n (2), 1) := by decide +kernel
theorem d_Model_insert_59 : decode prog_10_method_31_code 59 = .ok (.goto (4), 3) := by decide +kernel
theorem d_Model_insert_62 : decode prog_10_method_31_code 62 = .ok (.iconst (5), 1) := by decide +kernel
theorem d_Model_insert_63 : decode prog_10_method_31_code 63 = .ok (.istore (6), 2) := by decide +kernel
theorem d_Model_insert_65 : decode prog_10_method_31_code 65 = .ok (.iload (6), 2) := by decide +kernel
theorem d_Model_insert_67 : decode prog_10_method_31_code 67 = .ok (.istore (7), 2) := by decide +kernel
theorem d_Model_insert_69 : decode prog_10_method_31_code 69 = .ok (.iload (7), 2) := by decide +kernel
theorem d_Model_insert_71 : decode prog_10_method_31_code 71 = .ok (.iload (5), 2) := by decide +kernel
theorem d_Model_insert_73 : decode prog_10_method_31_code 73 = .ok (.if_icmp .le (23), 3) := by decide +kernel
theorem d_Model_insert_76 : decode prog_10_method_31_code 76 = .ok (.aload_n (0), 1) := by decide +kernel
theorem d_Model_insert_77 : decode prog_10_method_31_code 77 = .ok (.iload_n (1), 1) := by decide +kernel
theorem d_Model_insert_78 : decode prog_10_method_31_code 78 = .ok (.iload (7), 2) := by decide +kernel
theorem d_Model_insert_80 : decode prog_10_method_31_code 80 = .ok (.iadd, 1) := by decide +kernel
theorem d_Model_insert_81 : decode prog_10_method_31_code 81 = .ok (.aload_n (0), 1) := by decide +kernel
theorem d_Model_insert_82 : decode prog_10_method_31_code 82 = .ok (.iload_n (1), 1) := by decide +kernel
theorem d_Model_insert_83 : decode prog_10_method_31_code 83 = .ok (.iload (7), 2) := by decide +kernel
theorem d_Model_insert_85 : decode prog_10_method_31_code 85 = .ok (.iadd, 1) := by decide +kernel
theorem d_Model_insert_86 : decode prog_10_method_31_code 86 = .ok (.iconst (1), 1) := by decide +kernel
theorem d_Model_insert_87 : decode prog_10_method_31_code 87 = .ok (.isub, 1) := by decide +kernel
theorem d_Model_insert_88 : decode prog_10_method_31_code 88 = .ok (.laload, 1) := by decide +kernel
theorem d_Model_insert_89 : decode prog_10_method_31_code 89 = .ok (.lastore, 1) := by decide +kernel
theorem d_Model_insert_90 : decode prog_10_method_31_code 90 = .ok (.iinc (7) (-1), 3) := by decide +kernel
theorem d_Model_insert_93 : decode prog_10_method_31_code 93 = .ok (.goto (-24), 3) := by decide +kernel
theorem d_Model_insert_96 : decode prog_10_method_31_code 96 = .ok (.aload_n (0), 1) := by decide +kernel
theorem d_Model_insert_97 : decode prog_10_method_31_code 97 = .ok (.iload_n (1), 1) := by decide +kernel
theorem d_Model_insert_98 : decode prog_10_method_31_code 98 = .ok (.iload (5), 2) := by decide +kernel
theorem d_Model_insert_100 : decode prog_10_method_31_code 100 = .ok (.iadd, 1) := by decide +kernel
theorem d_Model_insert_101 : decode prog_10_method_31_code 101 = .ok (.lload_n (3), 1) := by decide +kernel
theorem d_Model_insert_102 : decode prog_10_method_31_code 102 = .ok (.lastore, 1) := by decide +kernel
theorem d_Model_insert_103 : decode prog_10_method_31_code 103 = .ok (.iload_n (2), 1) := by decide +kernel
theorem d_Model_insert_104 : decode prog_10_method_31_code 104 = .ok (.bipush (6), 2) := by decide +kernel
theorem d_Model_insert_106 : decode prog_10_method_31_code 106 = .ok (.if_icmp .ge (9), 3) := by decide +kernel
theorem d_Model_insert_109 : decode prog_10_method_31_code 109 = .ok (.iload_n (2), 1) := by decide +kernel
theorem d_Model_insert_110 : decode prog_10_method_31_code 110 = .ok (.iconst (1), 1) := by decide +kernel
theorem d_Model_insert_111 : decode prog_10_method_31_code 111 = .ok (.iadd, 1) := by decide +kernel
theorem d_Model_insert_112 : decode prog_10_method_31_code 112 = .ok (.goto (5), 3) := by decide +kernel
theorem d_Model_insert_115 : decode prog_10_method_31_code 115 = .ok (.bipush (6), 2) := by decide +kernel
theorem d_Model_insert_117 : decode prog_10_method_31_code 117 = .ok (.ireturn, 1) := by decide +kernel
set_option maxHeartbeats 4000000 in
set_option maxRecDepth 100000 in
theorem k_Model_insert_69 (N : Nat) {X : zX} (C : zB X prog_10_method_31_code 8 R_Model rm_Model_insert) {h0 : zH} {p : Int32 × zH} (E : zR X (some .int) rm_Model_insert h0 (some (.int p.1)) p.2) : ∀ n : Nat, ∀ (x0 : Nat) (x1 : Int32) (x2 : Int32) (x3 : Int64) (x5 : Int32) (x7 : Int32) (h : zH), f_Model_insert_69 N n x0 x1 x2 x3 x5 x7 h = some p → Zt X 8 0 0 69 [(0, .ref x0), (1, .int x1), (2, .int x2), (3, .long x3), (5, .int x5), (7, .int x7)] [] h := by
  intro n
  induction n with
  | zero => intro x0 x1 x2 x3 x5 x7 h hf; cases hf
  | succ n ih =>
  intro x0 x1 x2 x3 x5 x7 h hf
  have H69 := ih
  replace hf : b_Model_insert_69 N (f_Model_insert_69 N n) x0 x1 x2 x3 x5 x7 h = some p := hf
  unfold b_Model_insert_69 at hf
  refine z_iload C 5 d_Model_insert_69 rfl ?_
  refine z_iload C 4 d_Model_insert_71 rfl ?_
  refine z_ic_le (tgt := 96) C d_Model_insert_73 (by decide) hf (fun hf => ?_) (fun hf => ?_)
  · refine z_aload_n C 0 d_Model_insert_96 rfl rfl ?_
    refine z_iload_n C 1 d_Model_insert_97 rfl rfl ?_
    refine z_iload C 4 d_Model_insert_98 rfl ?_
    refine z_iadd C d_Model_insert_100 ?_
    refine z_lload_n C 3 d_Model_insert_101 rfl rfl ?_
    refine z_last C d_Model_insert_102 hf (fun h1 hf => ?_)
    refine z_iload_n C 2 d_Model_insert_103 rfl rfl ?_
    refine z_bipush C (v := (6 : Int32)) d_Model_insert_104 (by decide) ?_
    refine z_ic_ge (tgt := 115) C d_Model_insert_106 (by decide) hf (fun hf => ?_) (fun hf => ?_)
    · refine z_bipush C (v := (6 : Int32)) d_Model_insert_115 (by decide) ?_
      exact z_iret C E (Nat.le_of_ble_eq_true rfl) (Nat.le_of_ble_eq_true rfl) d_Model_insert_117 hf
    · refine z_iload_n C 2 d_Model_insert_109 rfl rfl ?_
      refine z_iconst C (v := (1 : Int32)) d_Model_insert_110 (by decide) ?_
      refine z_iadd C d_Model_insert_111 ?_
      refine z_goto (tgt := 117) C d_Model_insert_112 (by decide) ?_
      exact z_iret C E (Nat.le_of_ble_eq_true rfl) (Nat.le_of_ble_eq_true rfl) d_Model_insert_117 hf
  · refine z_aload_n C 0 d_Model_insert_76 rfl rfl ?_
    refine z_iload_n C 1 d_Model_insert_77 rfl rfl ?_
    refine z_iload C 5 d_Model_insert_78 rfl ?_
    refine z_iadd C d_Model_insert_80 ?_
    refine z_aload_n C 0 d_Model_insert_81 rfl rfl ?_
    refine z_iload_n C 1 d_Model_insert_82 rfl rfl ?_
    refine z_iload C 5 d_Model_insert_83 rfl ?_
    refine z_iadd C d_Model_insert_85 ?_
    refine z_iconst C (v := (1 : Int32)) d_Model_insert_86 (by decide) ?_
    refine z_isub C d_Model_insert_87 ?_
    refine z_lald C d_Model_insert_88 hf (fun v2 hf => ?_)
    refine z_last C d_Model_insert_89 hf (fun h3 hf => ?_)
    refine z_iinc C (v := (x7 + (-1 : Int32))) (lv' := [(7, .int (x7 + (-1 : Int32))), (0, .ref x0), (1, .int x1), (2, .int x2), (3, .long x3), (5, .int x5)]) 5 d_Model_insert_90 rfl (by rfl) (by decide) rfl ?_
    refine z_goto (tgt := 69) C d_Model_insert_93 (by decide) ?_
    refine z_sub [1, 2, 3, 4, 5, 0] rfl ?_
    exact H69 _ _ _ _ _ _ _ hf

set_option maxHeartbeats 4000000 in
set_option maxRecDepth 100000 in
theorem k_Model_insert_63 (N : Nat) {X : zX} (C : zB X prog_10_method_31_code 8 R_Model rm_Model_insert) {h0 : zH} {p : Int32 × zH} (E : zR X (some .int) rm_Model_insert h0 (some (.int p.1)) p.2) : ∀ (x0 : Nat) (x1 : Int32) (x2 : Int32) (x3 : Int64) (x5 : Int32) (s0 : Int32) (h : zH), f_Model_insert_63 N x0 x1 x2 x3 x5 s0 h = some p → Zt X 8 0 0 63 [(0, .ref x0), (1, .int x1), (2, .int x2), (3, .long x3), (5, .int x5)] [.int s0] h := by
  intro x0 x1 x2 x3 x5 s0 h hf
  unfold f_Model_insert_63 at hf
  refine z_istore C (lv' := [(6, .int s0), (0, .ref x0), (1, .int x1), (2, .int x2), (3, .long x3), (5, .int x5)]) d_Model_insert_63 (by decide) rfl ?_
  refine z_iload C 0 d_Model_insert_65 rfl ?_
  refine z_istore C (lv' := [(7, .int s0), (6, .int s0), (0, .ref x0), (1, .int x1), (2, .int x2), (3, .long x3), (5, .int x5)]) d_Model_insert_67 (by decide) rfl ?_
  refine z_sub [2, 3, 4, 5, 6, 0] rfl ?_
  exact k_Model_insert_69 N C E N _ _ _ _ _ _ _ hf

set_option maxHeartbeats 4000000 in
set_option maxRecDepth 100000 in
theorem k_Model_insert_52 (N : Nat) {X : zX} (C : zB X prog_10_method_31_code 8 R_Model rm_Model_insert) {h0 : zH} {p : Int32 × zH} (E : zR X (some .int) rm_Model_insert h0 (some (.int p.1)) p.2) : ∀ (x0 : Nat) (x1 : Int32) (x2 : Int32) (x3 : Int64) (x5 : Int32) (h : zH), f_Model_insert_52 N x0 x1 x2 x3 x5 h = some p → Zt X 8 0 0 52 [(0, .ref x0), (1, .int x1), (2, .int x2), (3, .long x3), (5, .int x5)] [] h := by
  intro x0 x1 x2 x3 x5 h hf
  unfold f_Model_insert_52 at hf
  refine z_iload_n C 2 d_Model_insert_52 rfl rfl ?_
  refine z_bipush C (v := (6 : Int32)) d_Model_insert_53 (by decide) ?_
  refine z_ic_ge (tgt := 62) C d_Model_insert_55 (by decide) hf (fun hf => ?_) (fun hf => ?_)
  · refine z_iconst C (v := (5 : Int32)) d_Model_insert_62 (by decide) ?_
    refine z_sub [0, 1, 2, 3, 4] rfl ?_
    exact k_Model_insert_63 N C E _ _ _ _ _ _ _ hf
  · refine z_iload_n C 2 d_Model_insert_58 rfl rfl ?_
    refine z_goto (tgt := 63) C d_Model_insert_59 (by decide) ?_
    refine z_sub [0, 1, 2, 3, 4] rfl ?_
    exact k_Model_insert_63 N C E _ _ _ _ _ _ _ hf

set_option maxHeartbeats 4000000 in
set_option maxRecDepth 100000 in
theorem k_Model_insert_26 (N : Nat) {X : zX} (C : zB X prog_10_method_31_code 8 R_Model rm_Model_insert) {h0 : zH} {p : Int32 × zH} (E : zR X (some .int) rm_Model_insert h0 (some (.int p.1)) p.2) : ∀ (x0 : Nat) (x1 : Int32) (x2 : Int32) (x3 : Int64) (x5 : Int32) (h : zH), f_Model_insert_26 N x0 x1 x2 x3 x5 h = some p → Zt X 8 0 0 26 [(0, .ref x0), (1, .int x1), (2, .int x2), (3, .long x3), (5, .int x5)] [] h := by
  intro x0 x1 x2 x3 x5 h hf
  unfold f_Model_insert_26 at hf
  refine z_iload C 4 d_Model_insert_26 rfl ?_
  refine z_bipush C (v := (6 : Int32)) d_Model_insert_28 (by decide) ?_
  refine z_ic_eq (tgt := 50) C d_Model_insert_30 (by decide) hf (fun hf => ?_) (fun hf => ?_)
  · refine z_iload_n C 2 d_Model_insert_50 rfl rfl ?_
    exact z_iret C E (Nat.le_of_ble_eq_true rfl) (Nat.le_of_ble_eq_true rfl) d_Model_insert_51 hf
  · refine z_iload C 4 d_Model_insert_33 rfl ?_
    refine z_iload_n C 2 d_Model_insert_35 rfl rfl ?_
    refine z_ic_ge (tgt := 52) C d_Model_insert_36 (by decide) hf (fun hf => ?_) (fun hf => ?_)
    · refine z_sub [0, 1, 2, 3, 4] rfl ?_
      exact k_Model_insert_52 N C E _ _ _ _ _ _ hf
    · refine z_aload_n C 0 d_Model_insert_39 rfl rfl ?_
      refine z_iload_n C 1 d_Model_insert_40 rfl rfl ?_
      refine z_iload C 4 d_Model_insert_41 rfl ?_
      refine z_iadd C d_Model_insert_43 ?_
      refine z_lald C d_Model_insert_44 hf (fun v4 hf => ?_)
      refine z_lload_n C 3 d_Model_insert_45 rfl rfl ?_
      refine z_lcmp C d_Model_insert_46 ?_
      refine z_if_ne (tgt := 52) C d_Model_insert_47 (by decide) hf (fun hf => ?_) (fun hf => ?_)
      · refine z_sub [0, 1, 2, 3, 4] rfl ?_
        exact k_Model_insert_52 N C E _ _ _ _ _ _ hf
      · refine z_iload_n C 2 d_Model_insert_50 rfl rfl ?_
        exact z_iret C E (Nat.le_of_ble_eq_true rfl) (Nat.le_of_ble_eq_true rfl) d_Model_insert_51 hf

set_option maxHeartbeats 4000000 in
set_option maxRecDepth 100000 in
theorem k_Model_insert_3 (N : Nat) {X : zX} (C : zB X prog_10_method_31_code 8 R_Model rm_Model_insert) {h0 : zH} {p : Int32 × zH} (E : zR X (some .int) rm_Model_insert h0 (some (.int p.1)) p.2) : ∀ n : Nat, ∀ (x0 : Nat) (x1 : Int32) (x2 : Int32) (x3 : Int64) (x5 : Int32) (h : zH), f_Model_insert_3 N n x0 x1 x2 x3 x5 h = some p → Zt X 8 0 0 3 [(0, .ref x0), (1, .int x1), (2, .int x2), (3, .long x3), (5, .int x5)] [] h := by
  intro n
  induction n with
  | zero => intro x0 x1 x2 x3 x5 h hf; cases hf
  | succ n ih =>
  intro x0 x1 x2 x3 x5 h hf
  have H3 := ih
  replace hf : b_Model_insert_3 N (f_Model_insert_3 N n) x0 x1 x2 x3 x5 h = some p := hf
  unfold b_Model_insert_3 at hf
  refine z_iload C 4 d_Model_insert_3 rfl ?_
  refine z_iload_n C 2 d_Model_insert_5 rfl rfl ?_
  refine z_ic_ge (tgt := 26) C d_Model_insert_6 (by decide) hf (fun hf => ?_) (fun hf => ?_)
  · refine z_sub [0, 1, 2, 3, 4] rfl ?_
    exact k_Model_insert_26 N C E _ _ _ _ _ _ hf
  · refine z_aload_n C 0 d_Model_insert_9 rfl rfl ?_
    refine z_iload_n C 1 d_Model_insert_10 rfl rfl ?_
    refine z_iload C 4 d_Model_insert_11 rfl ?_
    refine z_iadd C d_Model_insert_13 ?_
    refine z_lald C d_Model_insert_14 hf (fun v5 hf => ?_)
    refine z_lload_n C 3 d_Model_insert_15 rfl rfl ?_
    refine z_lcmp C d_Model_insert_16 ?_
    refine z_if_ge (tgt := 26) C d_Model_insert_17 (by decide) hf (fun hf => ?_) (fun hf => ?_)
    · refine z_sub [0, 1, 2, 3, 4] rfl ?_
      exact k_Model_insert_26 N C E _ _ _ _ _ _ hf
    · refine z_iinc C (v := (x5 + (1 : Int32))) (lv' := [(5, .int (x5 + (1 : Int32))), (0, .ref x0), (1, .int x1), (2, .int x2), (3, .long x3)]) 4 d_Model_insert_20 rfl (by rfl) (by decide) rfl ?_
      refine z_goto (tgt := 3) C d_Model_insert_23 (by decide) ?_
      refine z_sub [1, 2, 3, 4, 0] rfl ?_
      exact H3 _ _ _ _ _ _ hf

set_option maxHeartbeats 4000000 in
set_option maxRecDepth 100000 in
theorem k_Model_insert (N : Nat) {X : zX} (C : zB X prog_10_method_31_code 8 R_Model rm_Model_insert) {h0 : zH} {p : Int32 × zH} (E : zR X (some .int) rm_Model_insert h0 (some (.int p.1)) p.2) : ∀ (x0 : Nat) (x1 : Int32) (x2 : Int32) (x3 : Int64) (h : zH), f_Model_insert N x0 x1 x2 x3 h = some p → Zt X 8 0 0 0 [(0, .ref x0), (1, .int x1), (2, .int x2), (3, .long x3)] [] h := by
  intro x0 x1 x2 x3 h hf
  unfold f_Model_insert at hf
  refine z_iconst C (v := (0 : Int32)) d_Model_insert_0 (by decide) ?_
  refine z_istore C (lv' := [(5, .int (0 : Int32)), (0, .ref x0), (1, .int x1), (2, .int x2), (3, .long x3)]) d_Model_insert_1 (by decide) rfl ?_
  refine z_sub [1, 2, 3, 4, 0] rfl ?_
  exact k_Model_insert_3 N C E N _ _ _ _ _ _ hf

theorem c_Model_insert (N : Nat) {l : Launch} {D : va_G} {T : List (ClassId × FieldType)} (hT : T.map (fun q => q.2) = ztl) {x0 : Nat} {x1 : Int32} {x2 : Int32} {x3 : Int64} {h : zH} {p : Int32 × zH} (hf : f_Model_insert N x0 x1 x2 x3 h = some p) : zM l y_Model_insert prog_10_method_31_code 8 (some .int) rm_Model_insert D T [.ref x0, .int x1, .int x2, .long x3] h (some (.int p.1)) p.2 :=
  z_enter (by decide) hT (Nat.le_of_ble_eq_true rfl) (fun X el eD eT hin C E => k_Model_insert N C E x0 x1 x2 x3 h hf)
/-! ===== LevelTablesModel.speed(I)Z ===== -/
abbrev y_Model_speed : MethodName := ⟨R_Model, "speed", "(I)Z"⟩
theorem pd_Model_speed : y_Model_speed.cls ≠ "java/lang/invoke/MethodHandle" ∧ y_Model_speed.cls ≠ "java/lang/invoke/VarHandle" ∧ (parseMethodDescriptor y_Model_speed.desc).map (fun d => d.parameters.length) = some 1 := ⟨by decide +kernel, by decide +kernel, by decide +kernel⟩
abbrev rm_Model_speed : Room := { frames := 0, cells := 0, slots := 0, locals := 0 }
def f_Model_speed (N : Nat) (x0 : Nat) (x1 : Int32) (h : zH) : Option (Int32 × zH) :=
  (if x1 < 0 then
    zrb (0 : Int32) h
  else
    (if x1 ≤ (1000 : Int32) then
      Option.bind (zp h x0 0 29 (.int x1)) fun (h1 : zH) =>
      zrb (1 : Int32) h1
    else
      zrb (0 : Int32) h))
theorem d_Model_speed_0 : decode prog_10_method_36_code 0 = .ok (.iload_n (1), 1) := by decide +kernel
theorem d_Model_speed_1 : decode prog_10_method_36_code 1 = .ok (.ifCond .lt (10), 3) := by decide +kernel
theorem d_Model_speed_4 : decode prog_10_method_36_code 4 = .ok (.iload_n (1), 1) := by decide +kernel
theorem d_Model_speed_5 : decode prog_10_method_36_code 5 = .ok (.sipush (1000), 3) := by decide +kernel
theorem d_Model_speed_8 : decode prog_10_method_36_code 8 = .ok (.if_icmp .le (5), 3) := by decide +kernel
theorem d_Model_speed_11 : decode prog_10_method_36_code 11 = .ok (.iconst (0), 1) := by decide +kernel
theorem d_Model_speed_12 : decode prog_10_method_36_code 12 = .ok (.ireturn, 1) := by decide +kernel
theorem d_Model_speed_13 : decode prog_10_method_36_code 13 = .ok (.aload_n (0), 1) := by decide +kernel
theorem d_Model_speed_14 : decode prog_10_method_36_code 14 = .ok (.iload_n (1), 1) := by decide +kernel
theorem d_Model_speed_15 : decode prog_10_method_36_code 15 = .ok (.putfield (206), 3) := by decide +kernel
theorem d_Model_speed_18 : decode prog_10_method_36_code 18 = .ok (.iconst (1), 1) := by decide +kernel
theorem d_Model_speed_19 : decode prog_10_method_36_code 19 = .ok (.ireturn, 1) := by decide +kernel
set_option maxHeartbeats 4000000 in
set_option maxRecDepth 100000 in
theorem k_Model_speed (N : Nat) {X : zX} (C : zB X prog_10_method_36_code 2 R_Model rm_Model_speed) {h0 : zH} {p : Int32 × zH} (E : zR X (some .boolean) rm_Model_speed h0 (some (.int p.1)) p.2) : ∀ (x0 : Nat) (x1 : Int32) (h : zH), f_Model_speed N x0 x1 h = some p → Zt X 2 0 0 0 [(0, .ref x0), (1, .int x1)] [] h := by
  intro x0 x1 h hf
  unfold f_Model_speed at hf
  refine z_iload_n C 1 d_Model_speed_0 rfl rfl ?_
  refine z_if_lt (tgt := 11) C d_Model_speed_1 (by decide) hf (fun hf => ?_) (fun hf => ?_)
  · refine z_iconst C (v := (0 : Int32)) d_Model_speed_11 (by decide) ?_
    exact z_zret C E (Nat.le_of_ble_eq_true rfl) (Nat.le_of_ble_eq_true rfl) d_Model_speed_12 hf
  · refine z_iload_n C 1 d_Model_speed_4 rfl rfl ?_
    refine z_sipush C (v := (1000 : Int32)) d_Model_speed_5 (by decide) ?_
    refine z_ic_le (tgt := 13) C d_Model_speed_8 (by decide) hf (fun hf => ?_) (fun hf => ?_)
    · refine z_aload_n C 0 d_Model_speed_13 rfl rfl ?_
      refine z_iload_n C 1 d_Model_speed_14 rfl rfl ?_
      refine z_put C 0 29 ty_Model rfl in_Model tyok_Model nm_Model (by decide) w_770 rfl (Or.inl rfl) rfl rfl rfl d_Model_speed_15 hf (fun h1 hf => ?_)
      refine z_iconst C (v := (1 : Int32)) d_Model_speed_18 (by decide) ?_
      exact z_zret C E (Nat.le_of_ble_eq_true rfl) (Nat.le_of_ble_eq_true rfl) d_Model_speed_19 hf
    · refine z_iconst C (v := (0 : Int32)) d_Model_speed_11 (by decide) ?_
      exact z_zret C E (Nat.le_of_ble_eq_true rfl) (Nat.le_of_ble_eq_true rfl) d_Model_speed_12 hf

theorem c_Model_speed (N : Nat) {l : Launch} {D : va_G} {T : List (ClassId × FieldType)} (hT : T.map (fun q => q.2) = ztl) {x0 : Nat} {x1 : Int32} {h : zH} {p : Int32 × zH} (hf : f_Model_speed N x0 x1 h = some p) : zM l y_Model_speed prog_10_method_36_code 2 (some .boolean) rm_Model_speed D T [.ref x0, .int x1] h (some (.int p.1)) p.2 :=
  z_enter (by decide) hT (Nat.le_of_ble_eq_true rfl) (fun X el eD eT hin C E => k_Model_speed N C E x0 x1 h hf)
/-! ===== LevelTablesModel.isSpanned(I)Z ===== -/
abbrev y_Model_isSpanned : MethodName := ⟨R_Model, "isSpanned", "(I)Z"⟩
theorem pd_Model_isSpanned : y_Model_isSpanned.cls ≠ "java/lang/invoke/MethodHandle" ∧ y_Model_isSpanned.cls ≠ "java/lang/invoke/VarHandle" ∧ (parseMethodDescriptor y_Model_isSpanned.desc).map (fun d => d.parameters.length) = some 1 := ⟨by decide +kernel, by decide +kernel, by decide +kernel⟩
abbrev rm_Model_isSpanned : Room := { frames := 0, cells := 0, slots := 0, locals := 0 }
def f_Model_isSpanned_53 (N : Nat) (rc4 : Nat → Int32 → Int32 → Int32 → zH → Option (Int32 × zH)) (x0 : Nat) (x1 : Int32) (x3 : Int32) (s0 : Int32) (h : zH) : Option (Int32 × zH) :=
  rc4 x0 x1 s0 (x3 + (1 : Int32)) h
def f_Model_isSpanned_48 (N : Nat) (rc4 : Nat → Int32 → Int32 → Int32 → zH → Option (Int32 × zH)) (x0 : Nat) (x1 : Int32) (x3 : Int32) (h : zH) : Option (Int32 × zH) :=
  f_Model_isSpanned_53 N rc4 x0 x1 x3 (1 : Int32) h
def f_Model_isSpanned_52 (N : Nat) (rc4 : Nat → Int32 → Int32 → Int32 → zH → Option (Int32 × zH)) (x0 : Nat) (x1 : Int32) (x3 : Int32) (h : zH) : Option (Int32 × zH) :=
  f_Model_isSpanned_53 N rc4 x0 x1 x3 (0 : Int32) h
def b_Model_isSpanned_4 (N : Nat) (rc4 : Nat → Int32 → Int32 → Int32 → zH → Option (Int32 × zH)) (x0 : Nat) (x1 : Int32) (x2 : Int32) (x3 : Int32) (h : zH) : Option (Int32 × zH) :=
  Option.bind (zgI h x0 0 10) fun (v1 : Int32) =>
  (if v1 ≤ x3 then
    zrb x2 h
  else
    (if x2 = 0 then
      Option.bind (zgI h x0 0 26) fun (v2 : Int32) =>
      (if ((v2 >>> (x3 &&& 31)) &&& (1 : Int32)) = (1 : Int32) then
        Option.bind (zgR h x0 0 11) fun (v3 : Nat) =>
        Option.bind (zaI h 0 v3 x3) fun (v4 : Int32) =>
        (if x1 < v4 then
          f_Model_isSpanned_52 N rc4 x0 x1 x3 h
        else
          Option.bind (zgR h x0 0 12) fun (v5 : Nat) =>
          Option.bind (zaI h 0 v5 x3) fun (v6 : Int32) =>
          (if v6 ≤ x1 then
            f_Model_isSpanned_52 N rc4 x0 x1 x3 h
          else
            f_Model_isSpanned_48 N rc4 x0 x1 x3 h))
      else
        f_Model_isSpanned_52 N rc4 x0 x1 x3 h)
    else
      f_Model_isSpanned_48 N rc4 x0 x1 x3 h))
def f_Model_isSpanned_4 (N : Nat) : Nat → Nat → Int32 → Int32 → Int32 → zH → Option (Int32 × zH)
  | 0 => fun _ _ _ _ _ => none
  | n + 1 => fun x0 x1 x2 x3 h => b_Model_isSpanned_4 N (f_Model_isSpanned_4 N n) x0 x1 x2 x3 h
def f_Model_isSpanned (N : Nat) (x0 : Nat) (x1 : Int32) (h : zH) : Option (Int32 × zH) :=
  f_Model_isSpanned_4 N N x0 x1 (0 : Int32) (0 : Int32) h
theorem d_Model_isSpanned_0 : decode prog_10_method_38_code 0 = .ok (.iconst (0), 1) := by decide +kernel
theorem d_Model_isSpanned_1 : decode prog_10_method_38_code 1 = .ok (.istore_n (2), 1) := by decide +kernel
theorem d_Model_isSpanned_2 : decode prog_10_method_38_code 2 = .ok (.iconst (0), 1) := by decide +kernel
theorem d_Model_isSpanned_3 : decode prog_10_method_38_code 3 = .ok (.istore_n (3), 1) := by decide +kernel
theorem d_Model_isSpanned_4 : decode prog_10_method_38_code 4 = .ok (.iload_n (3), 1) := by decide +kernel
theorem d_Model_isSpanned_5 : decode prog_10_method_38_code 5 = .ok (.aload_n (0), 1) := by decide +kernel
theorem d_Model_isSpanned_6 : decode prog_10_method_38_code 6 = .ok (.getfield (119), 3) := by decide +kernel
theorem d_Model_isSpanned_9 : decode prog_10_method_38_code 9 = .ok (.if_icmp .ge (51), 3) := by decide +kernel
theorem d_Model_isSpanned_12 : decode prog_10_method_38_code 12 = .ok (.iload_n (2), 1) := by decide +kernel
theorem d_Model_isSpanned_13 : decode prog_10_method_38_code 13 = .ok (.ifCond .ne (35), 3) := by decide +kernel
theorem d_Model_isSpanned_16 : decode prog_10_method_38_code 16 = .ok (.aload_n (0), 1) := by decide +kernel
theorem d_Model_isSpanned_17 : decode prog_10_method_38_code 17 = .ok (.getfield (169), 3) := by decide +kernel
theorem d_Model_isSpanned_20 : decode prog_10_method_38_code 20 = .ok (.iload_n (3), 1) := by decide +kernel
theorem d_Model_isSpanned_21 : decode prog_10_method_38_code 21 = .ok (.ishr, 1) := by decide +kernel
theorem d_Model_isSpanned_22 : decode prog_10_method_38_code 22 = .ok (.iconst (1), 1) := by decide +kernel
theorem d_Model_isSpanned_23 : decode prog_10_method_38_code 23 = .ok (.iand, 1) := by decide +kernel
theorem d_Model_isSpanned_24 : decode prog_10_method_38_code 24 = .ok (.iconst (1), 1) := by decide +kernel
theorem d_Model_isSpanned_25 : decode prog_10_method_38_code 25 = .ok (.if_icmp .ne (27), 3) := by decide +kernel
theorem d_Model_isSpanned_28 : decode prog_10_method_38_code 28 = .ok (.iload_n (1), 1) := by decide +kernel
theorem d_Model_isSpanned_29 : decode prog_10_method_38_code 29 = .ok (.aload_n (0), 1) := by decide +kernel
theorem d_Model_isSpanned_30 : decode prog_10_method_38_code 30 = .ok (.getfield (32), 3) := by decide +kernel
theorem d_Model_isSpanned_33 : decode prog_10_method_38_code 33 = .ok (.iload_n (3), 1) := by decide +kernel
theorem d_Model_isSpanned_34 : decode prog_10_method_38_code 34 = .ok (.iaload, 1) := by decide +kernel
theorem d_Model_isSpanned_35 : decode prog_10_method_38_code 35 = .ok (.if_icmp .lt (17), 3) := by decide +kernel
theorem d_Model_isSpanned_38 : decode prog_10_method_38_code 38 = .ok (.iload_n (1), 1) := by decide +kernel
theorem d_Model_isSpanned_39 : decode prog_10_method_38_code 39 = .ok (.aload_n (0), 1) := by decide +kernel
theorem d_Model_isSpanned_40 : decode prog_10_method_38_code 40 = .ok (.getfield (35), 3) := by decide +kernel
theorem d_Model_isSpanned_43 : decode prog_10_method_38_code 43 = .ok (.iload_n (3), 1) := by decide +kernel
theorem d_Model_isSpanned_44 : decode prog_10_method_38_code 44 = .ok (.iaload, 1) := by decide +kernel
theorem d_Model_isSpanned_45 : decode prog_10_method_38_code 45 = .ok (.if_icmp .ge (7), 3) := by decide +kernel
theorem d_Model_isSpanned_48 : decode prog_10_method_38_code 48 = .ok (.iconst (1), 1) := by decide +kernel
theorem d_Model_isSpanned_49 : decode prog_10_method_38_code 49 = .ok (.goto (4), 3) := by decide +kernel
theorem d_Model_isSpanned_52 : decode prog_10_method_38_code 52 = .ok (.iconst (0), 1) := by decide +kernel
theorem d_Model_isSpanned_53 : decode prog_10_method_38_code 53 = .ok (.istore_n (2), 1) := by decide +kernel
theorem d_Model_isSpanned_54 : decode prog_10_method_38_code 54 = .ok (.iinc (3) (1), 3) := by decide +kernel
theorem d_Model_isSpanned_57 : decode prog_10_method_38_code 57 = .ok (.goto (-53), 3) := by decide +kernel
theorem d_Model_isSpanned_60 : decode prog_10_method_38_code 60 = .ok (.iload_n (2), 1) := by decide +kernel
theorem d_Model_isSpanned_61 : decode prog_10_method_38_code 61 = .ok (.ireturn, 1) := by decide +kernel
set_option maxHeartbeats 4000000 in
set_option maxRecDepth 100000 in
theorem k_Model_isSpanned_53 (N : Nat) {X : zX} (C : zB X prog_10_method_38_code 4 R_Model rm_Model_isSpanned) {h0 : zH} {p : Int32 × zH} (E : zR X (some .boolean) rm_Model_isSpanned h0 (some (.int p.1)) p.2) {rc4 : Nat → Int32 → Int32 → Int32 → zH → Option (Int32 × zH)} (H4 : ∀ (x0 : Nat) (x1 : Int32) (x2 : Int32) (x3 : Int32) (h : zH), rc4 x0 x1 x2 x3 h = some p → Zt X 4 0 0 4 [(0, .ref x0), (1, .int x1), (2, .int x2), (3, .int x3)] [] h) : ∀ (x0 : Nat) (x1 : Int32) (x3 : Int32) (s0 : Int32) (h : zH), f_Model_isSpanned_53 N rc4 x0 x1 x3 s0 h = some p → Zt X 4 0 0 53 [(0, .ref x0), (1, .int x1), (3, .int x3)] [.int s0] h := by
  intro x0 x1 x3 s0 h hf
  unfold f_Model_isSpanned_53 at hf
  refine z_istore_n C (lv' := [(2, .int s0), (0, .ref x0), (1, .int x1), (3, .int x3)]) d_Model_isSpanned_53 rfl (by decide) rfl ?_
  refine z_iinc C (v := (x3 + (1 : Int32))) (lv' := [(3, .int (x3 + (1 : Int32))), (2, .int s0), (0, .ref x0), (1, .int x1)]) 3 d_Model_isSpanned_54 rfl (by rfl) (by decide) rfl ?_
  refine z_goto (tgt := 4) C d_Model_isSpanned_57 (by decide) ?_
  refine z_sub [2, 3, 1, 0] rfl ?_
  exact H4 _ _ _ _ _ hf

set_option maxHeartbeats 4000000 in
set_option maxRecDepth 100000 in
theorem k_Model_isSpanned_48 (N : Nat) {X : zX} (C : zB X prog_10_method_38_code 4 R_Model rm_Model_isSpanned) {h0 : zH} {p : Int32 × zH} (E : zR X (some .boolean) rm_Model_isSpanned h0 (some (.int p.1)) p.2) {rc4 : Nat → Int32 → Int32 → Int32 → zH → Option (Int32 × zH)} (H4 : ∀ (x0 : Nat) (x1 : Int32) (x2 : Int32) (x3 : Int32) (h : zH), rc4 x0 x1 x2 x3 h = some p → Zt X 4 0 0 4 [(0, .ref x0), (1, .int x1), (2, .int x2), (3, .int x3)] [] h) : ∀ (x0 : Nat) (x1 : Int32) (x3 : Int32) (h : zH), f_Model_isSpanned_48 N rc4 x0 x1 x3 h = some p → Zt X 4 0 0 48 [(0, .ref x0), (1, .int x1), (3, .int x3)] [] h := by
  intro x0 x1 x3 h hf
  unfold f_Model_isSpanned_48 at hf
  refine z_iconst C (v := (1 : Int32)) d_Model_isSpanned_48 (by decide) ?_
  refine z_goto (tgt := 53) C d_Model_isSpanned_49 (by decide) ?_
  refine z_sub [0, 1, 2] rfl ?_
  exact k_Model_isSpanned_53 N C E H4 _ _ _ _ _ hf

set_option maxHeartbeats 4000000 in
set_option maxRecDepth 100000 in
theorem k_Model_isSpanned_52 (N : Nat) {X : zX} (C : zB X prog_10_method_38_code 4 R_Model rm_Model_isSpanned) {h0 : zH} {p : Int32 × zH} (E : zR X (some .boolean) rm_Model_isSpanned h0 (some (.int p.1)) p.2) {rc4 : Nat → Int32 → Int32 → Int32 → zH → Option (Int32 × zH)} (H4 : ∀ (x0 : Nat) (x1 : Int32) (x2 : Int32) (x3 : Int32) (h : zH), rc4 x0 x1 x2 x3 h = some p → Zt X 4 0 0 4 [(0, .ref x0), (1, .int x1), (2, .int x2), (3, .int x3)] [] h) : ∀ (x0 : Nat) (x1 : Int32) (x3 : Int32) (h : zH), f_Model_isSpanned_52 N rc4 x0 x1 x3 h = some p → Zt X 4 0 0 52 [(0, .ref x0), (1, .int x1), (3, .int x3)] [] h := by
  intro x0 x1 x3 h hf
  unfold f_Model_isSpanned_52 at hf
  refine z_iconst C (v := (0 : Int32)) d_Model_isSpanned_52 (by decide) ?_
  refine z_sub [0, 1, 2] rfl ?_
  exact k_Model_isSpanned_53 N C E H4 _ _ _ _ _ hf

set_option maxHeartbeats 4000000 in
set_option maxRecDepth 100000 in
theorem k_Model_isSpanned_4 (N : Nat) {X : zX} (C : zB X prog_10_method_38_code 4 R_Model rm_Model_isSpanned) {h0 : zH} {p : Int32 × zH} (E : zR X (some .boolean) rm_Model_isSpanned h0 (some (.int p.1)) p.2) : ∀ n : Nat, ∀ (x0 : Nat) (x1 : Int32) (x2 : Int32) (x3 : Int32) (h : zH), f_Model_isSpanned_4 N n x0 x1 x2 x3 h = some p → Zt X 4 0 0 4 [(0, .ref x0), (1, .int x1), (2, .int x2), (3, .int x3)] [] h := by
  intro n
  induction n with
  | zero => intro x0 x1 x2 x3 h hf; cases hf
  | succ n ih =>
  intro x0 x1 x2 x3 h hf
  have H4 := ih
  replace hf : b_Model_isSpanned_4 N (f_Model_isSpanned_4 N n) x0 x1 x2 x3 h = some p := hf
  unfold b_Model_isSpanned_4 at hf
  refine z_iload_n C 3 d_Model_isSpanned_4 rfl rfl ?_
  refine z_aload_n C 0 d_Model_isSpanned_5 rfl rfl ?_
  refine z_getI C 0 10 rfl in_Model (by decide) w_751 rfl d_Model_isSpanned_6 hf (fun v1 hf => ?_)
  refine z_ic_ge (tgt := 60) C d_Model_isSpanned_9 (by decide) hf (fun hf => ?_) (fun hf => ?_)
  · refine z_iload_n C 2 d_Model_isSpanned_60 rfl rfl ?_
    exact z_zret C E (Nat.le_of_ble_eq_true rfl) (Nat.le_of_ble_eq_true rfl) d_Model_isSpanned_61 hf
  · refine z_iload_n C 2 d_Model_isSpanned_12 rfl rfl ?_
    refine z_if_ne (tgt := 48) C d_Model_isSpanned_13 (by decide) hf (fun hf => ?_) (fun hf => ?_)
    · refine z_sub [0, 1, 3] rfl ?_
      exact k_Model_isSpanned_48 N C E H4 _ _ _ _ hf
    · refine z_aload_n C 0 d_Model_isSpanned_16 rfl rfl ?_
      refine z_getI C 0 26 rfl in_Model (by decide) w_767 rfl d_Model_isSpanned_17 hf (fun v2 hf => ?_)
      refine z_iload_n C 3 d_Model_isSpanned_20 rfl rfl ?_
      refine z_ishr C d_Model_isSpanned_21 ?_
      refine z_iconst C (v := (1 : Int32)) d_Model_isSpanned_22 (by decide) ?_
      refine z_iand C d_Model_isSpanned_23 ?_
      refine z_iconst C (v := (1 : Int32)) d_Model_isSpanned_24 (by decide) ?_
      refine z_ic_ne (tgt := 52) C d_Model_isSpanned_25 (by decide) hf (fun hf => ?_) (fun hf => ?_)
      · refine z_sub [0, 1, 3] rfl ?_
        exact k_Model_isSpanned_52 N C E H4 _ _ _ _ hf
      · refine z_iload_n C 1 d_Model_isSpanned_28 rfl rfl ?_
        refine z_aload_n C 0 d_Model_isSpanned_29 rfl rfl ?_
        refine z_getR C 0 11 rfl in_Model (by decide) w_752 rfl d_Model_isSpanned_30 hf (fun v3 hf => ?_)
        refine z_iload_n C 3 d_Model_isSpanned_33 rfl rfl ?_
        refine z_iald C d_Model_isSpanned_34 hf (fun v4 hf => ?_)
        refine z_ic_lt (tgt := 52) C d_Model_isSpanned_35 (by decide) hf (fun hf => ?_) (fun hf => ?_)
        · refine z_sub [0, 1, 3] rfl ?_
          exact k_Model_isSpanned_52 N C E H4 _ _ _ _ hf
        · refine z_iload_n C 1 d_Model_isSpanned_38 rfl rfl ?_
          refine z_aload_n C 0 d_Model_isSpanned_39 rfl rfl ?_
          refine z_getR C 0 12 rfl in_Model (by decide) w_753 rfl d_Model_isSpanned_40 hf (fun v5 hf => ?_)
          refine z_iload_n C 3 d_Model_isSpanned_43 rfl rfl ?_
          refine z_iald C d_Model_isSpanned_44 hf (fun v6 hf => ?_)
          refine z_ic_ge (tgt := 52) C d_Model_isSpanned_45 (by decide) hf (fun hf => ?_) (fun hf => ?_)
          · refine z_sub [0, 1, 3] rfl ?_
            exact k_Model_isSpanned_52 N C E H4 _ _ _ _ hf
          · refine z_sub [0, 1, 3] rfl ?_
            exact k_Model_isSpanned_48 N C E H4 _ _ _ _ hf

set_option maxHeartbeats 4000000 in
set_option maxRecDepth 100000 in
theorem k_Model_isSpanned (N : Nat) {X : zX} (C : zB X prog_10_method_38_code 4 R_Model rm_Model_isSpanned) {h0 : zH} {p : Int32 × zH} (E : zR X (some .boolean) rm_Model_isSpanned h0 (some (.int p.1)) p.2) : ∀ (x0 : Nat) (x1 : Int32) (h : zH), f_Model_isSpanned N x0 x1 h = some p → Zt X 4 0 0 0 [(0, .ref x0), (1, .int x1)] [] h := by
  intro x0 x1 h hf
  unfold f_Model_isSpanned at hf
  refine z_iconst C (v := (0 : Int32)) d_Model_isSpanned_0 (by decide) ?_
  refine z_istore_n C (lv' := [(2, .int (0 : Int32)), (0, .ref x0), (1, .int x1)]) d_Model_isSpanned_1 rfl (by decide) rfl ?_
  refine z_iconst C (v := (0 : Int32)) d_Model_isSpanned_2 (by decide) ?_
  refine z_istore_n C (lv' := [(3, .int (0 : Int32)), (2, .int (0 : Int32)), (0, .ref x0), (1, .int x1)]) d_Model_isSpanned_3 rfl (by decide) rfl ?_
  refine z_sub [2, 3, 1, 0] rfl ?_
  exact k_Model_isSpanned_4 N C E N _ _ _ _ _ hf

theorem c_Model_isSpanned (N : Nat) {l : Launch} {D : va_G} {T : List (ClassId × FieldType)} (hT : T.map (fun q => q.2) = ztl) {x0 : Nat} {x1 : Int32} {h : zH} {p : Int32 × zH} (hf : f_Model_isSpanned N x0 x1 h = some p) : zM l y_Model_isSpanned prog_10_method_38_code 4 (some .boolean) rm_Model_isSpanned D T [.ref x0, .int x1] h (some (.int p.1)) p.2 :=
  z_enter (by decide) hT (Nat.le_of_ble_eq_true rfl) (fun X el eD eT hin C E => k_Model_isSpanned N C E x0 x1 h hf)
/-! ===== LevelTablesModel.curves()I ===== -/
abbrev y_Model_curves : MethodName := ⟨R_Model, "curves", "()I"⟩
theorem pd_Model_curves : y_Model_curves.cls ≠ "java/lang/invoke/MethodHandle" ∧ y_Model_curves.cls ≠ "java/lang/invoke/VarHandle" ∧ (parseMethodDescriptor y_Model_curves.desc).map (fun d => d.parameters.length) = some 0 := ⟨by decide +kernel, by decide +kernel, by decide +kernel⟩
abbrev rm_Model_curves : Room := { frames := 0, cells := 0, slots := 0, locals := 0 }
def f_Model_curves_28 (N : Nat) (rc4 : Nat → Int32 → Int32 → zH → Option (Int32 × zH)) (x0 : Nat) (x2 : Int32) (s0 : Int32) (h : zH) : Option (Int32 × zH) :=
  rc4 x0 s0 (x2 + (1 : Int32)) h
def b_Model_curves_4 (N : Nat) (rc4 : Nat → Int32 → Int32 → zH → Option (Int32 × zH)) (x0 : Nat) (x1 : Int32) (x2 : Int32) (h : zH) : Option (Int32 × zH) :=
  Option.bind (zgI h x0 0 0) fun (v1 : Int32) =>
  (if v1 < x2 then
    some (x1, h)
  else
    Option.bind (zgR h x0 0 28) fun (v2 : Nat) =>
    Option.bind (zaI h 0 v2 x2) fun (v3 : Int32) =>
    (if v3 ≤ 0 then
      f_Model_curves_28 N rc4 x0 x2 x1 h
    else
      f_Model_curves_28 N rc4 x0 x2 (x1 + (1 : Int32)) h))
def f_Model_curves_4 (N : Nat) : Nat → Nat → Int32 → Int32 → zH → Option (Int32 × zH)
  | 0 => fun _ _ _ _ => none
  | n + 1 => fun x0 x1 x2 h => b_Model_curves_4 N (f_Model_curves_4 N n) x0 x1 x2 h
def f_Model_curves (N : Nat) (x0 : Nat) (h : zH) : Option (Int32 × zH) :=
  f_Model_curves_4 N N x0 (0 : Int32) (0 : Int32) h
theorem d_Model_curves_0 : decode prog_10_method_37_code 0 = .ok (.iconst (0), 1) := by decide +kernel
theorem d_Model_curves_1 : decode prog_10_method_37_code 1 = .ok (.istore_n (1), 1) := by decide +kernel
theorem d_Model_curves_2 : decode prog_10_method_37_code 2 = .ok (.iconst (0), 1) := by decide +kernel
theorem d_Model_curves_3 : decode prog_10_method_37_code 3 = .ok (.istore_n (2), 1) := by decide +kernel
theorem d_Model_curves_4 : decode prog_10_method_37_code 4 = .ok (.iload_n (2), 1) := by decide +kernel
theorem d_Model_curves_5 : decode prog_10_method_37_code 5 = .ok (.aload_n (0), 1) := by decide +kernel
theorem d_Model_curves_6 : decode prog_10_method_37_code 6 = .ok (.getfield (89), 3) := by decide +kernel
theorem d_Model_curves_9 : decode prog_10_method_37_code 9 = .ok (.if_icmp .gt (26), 3) := by decide +kernel
theorem d_Model_curves_12 : decode prog_10_method_37_code 12 = .ok (.aload_n (0), 1) := by decide +kernel
theorem d_Model_curves_13 : decode prog_10_method_37_code 13 = .ok (.getfield (71), 3) := by decide +kernel
theorem d_Model_curves_16 : decode prog_10_method_37_code 16 = .ok (.iload_n (2), 1) := by decide +kernel
theorem d_Model_curves_17 : decode prog_10_method_37_code 17 = .ok (.iaload, 1) := by decide +kernel
theorem d_Model_curves_18 : decode prog_10_method_37_code 18 = .ok (.ifCond .le (9), 3) := by decide +kernel
theorem d_Model_curves_21 : decode prog_10_method_37_code 21 = .ok (.iload_n (1), 1) := by decide +kernel
theorem d_Model_curves_22 : decode prog_10_method_37_code 22 = .ok (.iconst (1), 1) := by decide +kernel
theorem d_Model_curves_23 : decode prog_10_method_37_code 23 = .ok (.iadd, 1) := by decide +kernel
theorem d_Model_curves_24 : decode prog_10_method_37_code 24 = .ok (.goto (4), 3) := by decide +kernel
theorem d_Model_curves_27 : decode prog_10_method_37_code 27 = .ok (.iload_n (1), 1) := by decide +kernel
theorem d_Model_curves_28 : decode prog_10_method_37_code 28 = .ok (.istore_n (1), 1) := by decide +kernel
theorem d_Model_curves_29 : decode prog_10_method_37_code 29 = .ok (.iinc (2) (1), 3) := by decide +kernel
theorem d_Model_curves_32 : decode prog_10_method_37_code 32 = .ok (.goto (-28), 3) := by decide +kernel
theorem d_Model_curves_35 : decode prog_10_method_37_code 35 = .ok (.iload_n (1), 1) := by decide +kernel
theorem d_Model_curves_36 : decode prog_10_method_37_code 36 = .ok (.ireturn, 1) := by decide +kernel
set_option maxHeartbeats 4000000 in
set_option maxRecDepth 100000 in
theorem k_Model_curves_28 (N : Nat) {X : zX} (C : zB X prog_10_method_37_code 3 R_Model rm_Model_curves) {h0 : zH} {p : Int32 × zH} (E : zR X (some .int) rm_Model_curves h0 (some (.int p.1)) p.2) {rc4 : Nat → Int32 → Int32 → zH → Option (Int32 × zH)} (H4 : ∀ (x0 : Nat) (x1 : Int32) (x2 : Int32) (h : zH), rc4 x0 x1 x2 h = some p → Zt X 3 0 0 4 [(0, .ref x0), (1, .int x1), (2, .int x2)] [] h) : ∀ (x0 : Nat) (x2 : Int32) (s0 : Int32) (h : zH), f_Model_curves_28 N rc4 x0 x2 s0 h = some p → Zt X 3 0 0 28 [(0, .ref x0), (2, .int x2)] [.int s0] h := by
  intro x0 x2 s0 h hf
  unfold f_Model_curves_28 at hf
  refine z_istore_n C (lv' := [(1, .int s0), (0, .ref x0), (2, .int x2)]) d_Model_curves_28 rfl (by decide) rfl ?_
  refine z_iinc C (v := (x2 + (1 : Int32))) (lv' := [(2, .int (x2 + (1 : Int32))), (1, .int s0), (0, .ref x0)]) 2 d_Model_curves_29 rfl (by rfl) (by decide) rfl ?_
  refine z_goto (tgt := 4) C d_Model_curves_32 (by decide) ?_
  refine z_sub [2, 1, 0] rfl ?_
  exact H4 _ _ _ _ hf

set_option maxHeartbeats 4000000 in
set_option maxRecDepth 100000 in
theorem k_Model_curves_4 (N : Nat) {X : zX} (C : zB X prog_10_method_37_code 3 R_Model rm_Model_curves) {h0 : zH} {p : Int32 × zH} (E : zR X (some .int) rm_Model_curves h0 (some (.int p.1)) p.2) : ∀ n : Nat, ∀ (x0 : Nat) (x1 : Int32) (x2 : Int32) (h : zH), f_Model_curves_4 N n x0 x1 x2 h = some p → Zt X 3 0 0 4 [(0, .ref x0), (1, .int x1), (2, .int x2)] [] h := by
  intro n
  induction n with
  | zero => intro x0 x1 x2 h hf; cases hf
  | succ n ih =>
  intro x0 x1 x2 h hf
  have H4 := ih
  replace hf : b_Model_curves_4 N (f_Model_curves_4 N n) x0 x1 x2 h = some p := hf
  unfold b_Model_curves_4 at hf
  refine z_iload_n C 2 d_Model_curves_4 rfl rfl ?_
  refine z_aload_n C 0 d_Model_curves_5 rfl rfl ?_
  refine z_getI C 0 0 rfl in_Model (by decide) w_741 rfl d_Model_curves_6 hf (fun v1 hf => ?_)
  refine z_ic_gt (tgt := 35) C d_Model_curves_9 (by decide) hf (fun hf => ?_) (fun hf => ?_)
  · refine z_iload_n C 1 d_Model_curves_35 rfl rfl ?_
    exact z_iret C E (Nat.le_of_ble_eq_true rfl) (Nat.le_of_ble_eq_true rfl) d_Model_curves_36 hf
  · refine z_aload_n C 0 d_Model_curves_12 rfl rfl ?_
    refine z_getR C 0 28 rfl in_Model (by decide) w_769 rfl d_Model_curves_13 hf (fun v2 hf => ?_)
    refine z_iload_n C 2 d_Model_curves_16 rfl rfl ?_
    refine z_iald C d_Model_curves_17 hf (fun v3 hf => ?_)
    refine z_if_le (tgt := 27) C d_Model_curves_18 (by decide) hf (fun hf => ?_) (fun hf => ?_)
    · refine z_iload_n C 1 d_Model_curves_27 rfl rfl ?_
      refine z_sub [0, 2] rfl ?_
      exact k_Model_curves_28 N C E H4 _ _ _ _ hf
    · refine z_iload_n C 1 d_Model_curves_21 rfl rfl ?_
      refine z_iconst C (v := (1 : Int32)) d_Model_curves_22 (by decide) ?_
      refine z_iadd C d_Model_curves_23 ?_
      refine z_goto (tgt := 28) C d_Model_curves_24 (by decide) ?_
      refine z_sub [0, 2] rfl ?_
      exact k_Model_curves_28 N C E H4 _ _ _ _ hf

set_option maxHeartbeats 4000000 in
set_option maxRecDepth 100000 in
theorem k_Model_curves (N : Nat) {X : zX} (C : zB X prog_10_method_37_code 3 R_Model rm_Model_curves) {h0 : zH} {p : Int32 × zH} (E : zR X (some .int) rm_Model_curves h0 (some (.int p.1)) p.2) : ∀ (x0 : Nat) (h : zH), f_Model_curves N x0 h = some p → Zt X 3 0 0 0 [(0, .ref x0)] [] h := by
  intro x0 h hf
  unfold f_Model_curves at hf
  refine z_iconst C (v := (0 : Int32)) d_Model_curves_0 (by decide) ?_
  refine z_istore_n C (lv' := [(1, .int (0 : Int32)), (0, .ref x0)]) d_Model_curves_1 rfl (by decide) rfl ?_
  refine z_iconst C (v := (0 : Int32)) d_Model_curves_2 (by decide) ?_
  refine z_istore_n C (lv' := [(2, .int (0 : Int32)), (1, .int (0 : Int32)), (0, .ref x0)]) d_Model_curves_3 rfl (by decide) rfl ?_
  refine z_sub [2, 1, 0] rfl ?_
  exact k_Model_curves_4 N C E N _ _ _ _ hf

theorem c_Model_curves (N : Nat) {l : Launch} {D : va_G} {T : List (ClassId × FieldType)} (hT : T.map (fun q => q.2) = ztl) {x0 : Nat} {h : zH} {p : Int32 × zH} (hf : f_Model_curves N x0 h = some p) : zM l y_Model_curves prog_10_method_37_code 3 (some .int) rm_Model_curves D T [.ref x0] h (some (.int p.1)) p.2 :=
  z_enter (by decide) hT (Nat.le_of_ble_eq_true rfl) (fun X el eD eT hin C E => k_Model_curves N C E x0 h hf)
/-! ===== LevelTablesModel.curveAt(II)J ===== -/
abbrev y_Model_curveAt : MethodName := ⟨R_Model, "curveAt", "(II)J"⟩
theorem pd_Model_curveAt : y_Model_curveAt.cls ≠ "java/lang/invoke/MethodHandle" ∧ y_Model_curveAt.cls ≠ "java/lang/invoke/VarHandle" ∧ (parseMethodDescriptor y_Model_curveAt.desc).map (fun d => d.parameters.length) = some 2 := ⟨by decide +kernel, by decide +kernel, by decide +kernel⟩
abbrev rm_Model_curveAt : Room := { frames := 1, cells := 0, slots := 0, locals := 21 }
def f_Model_curveAt (N : Nat) (x0 : Nat) (x1 : Int32) (x2 : Int32) (h : zH) : Option (Int64 × zH) :=
  Option.bind (zgI h x0 0 24) fun (v1 : Int32) =>
  (if v1 = 0 then
    some ((-1 : Int64), h)
  else
    Option.bind (zck (zis h x0 0) (f_Model_isPlace N x0 x1 h)) fun (p2 : Int32 × zH) =>
    (if p2.1 = 0 then
      some ((-1 : Int64), p2.2)
    else
      Option.bind (zgR p2.2 x0 0 28) fun (v3 : Nat) =>
      Option.bind (zaI p2.2 0 v3 x1) fun (v4 : Int32) =>
      (if v4 = 0 then
        some ((-1 : Int64), p2.2)
      else
        (if x2 < 0 then
          some ((-1 : Int64), p2.2)
        else
          (if x2 ≤ (8 : Int32) then
            Option.bind (zgR p2.2 x0 0 25) fun (v5 : Nat) =>
            Option.bind (zaI p2.2 0 v5 x1) fun (v6 : Int32) =>
            Option.bind (zgR p2.2 x0 0 25) fun (v7 : Nat) =>
            Option.bind (zaI p2.2 0 v7 (x1 - (1 : Int32))) fun (v8 : Int32) =>
            Option.bind (zgR p2.2 x0 0 25) fun (v9 : Nat) =>
            Option.bind (zaI p2.2 0 v9 (x1 + (1 : Int32))) fun (v10 : Int32) =>
            Option.bind (zgR p2.2 x0 0 25) fun (v11 : Nat) =>
            Option.bind (zaI p2.2 0 v11 x1) fun (v12 : Int32) =>
            Option.bind (zgR p2.2 x0 0 25) fun (v13 : Nat) =>
            Option.bind (zaI p2.2 0 v13 x1) fun (v14 : Int32) =>
            Option.bind (zgR p2.2 x0 0 28) fun (v15 : Nat) =>
            Option.bind (zaI p2.2 0 v15 x1) fun (v16 : Int32) =>
            some ((((64000 : Int64) * (Int32.toInt64 v14)) + ((Int32.toInt64 v16) * (((((16 : Int64) * (Int32.toInt64 (v6 - v8))) * (Int32.toInt64 x2)) - ((64 : Int64) * (Int32.toInt64 (v6 - v8)))) + ((((Int32.toInt64 (v10 - v12)) - (Int32.toInt64 (v6 - v8))) * (Int32.toInt64 x2)) * (Int32.toInt64 x2))))), p2.2)
          else
            some ((-1 : Int64), p2.2))))))
theorem d_Model_curveAt_0 : decode prog_10_method_40_code 0 = .ok (.aload_n (0), 1) := by decide +kernel
theorem d_Model_curveAt_1 : decode prog_10_method_40_code 1 = .ok (.getfield (95), 3) := by decide +kernel
theorem d_Model_curveAt_4 : decode prog_10_method_40_code 4 = .ok (.ifCond .eq (30), 3) := by decide +kernel
theorem d_Model_curveAt_7 : decode prog_10_method_40_code 7 = .ok (.aload_n (0), 1) := by decide +kernel
theorem d_Model_curveAt_8 : decode prog_10_method_40_code 8 = .ok (.iload_n (1), 1) := by decide +kernel
theorem d_Model_curveAt_9 : decode prog_10_method_40_code 9 = .ok (.invokevirtual (105), 3) := by decide +kernel
theorem d_Model_curveAt_12 : decode prog_10_method_40_code 12 = .ok (.ifCond .eq (22), 3) := by decide +kernel
theorem d_Model_curveAt_15 : decode prog_10_method_40_code 15 = .ok (.aload_n (0), 1) := by decide +kernel
theorem d_Model_curveAt_16 : decode prog_10_method_40_code 16 = .ok (.getfield (71), 3) := by decide +kernel
theorem d_Model_curveAt_19 : decode prog_10_method_40_code 19 = .ok (.iload_n (1), 1) := by decide +kernel
theorem d_Model_curveAt_20 : decode prog_10_method_40_code 20 = .ok (.iaload, 1) := by decide +kernel
theorem d_Model_curveAt_21 : decode prog_10_method_40_code 21 = .ok (.ifCond .eq (13), 3) := by decide +kernel
theorem d_Model_curveAt_24 : decode prog_10_method_40_code 24 = .ok (.iload_n (2), 1) := by decide +kernel
theorem d_Model_curveAt_25 : decode prog_10_method_40_code 25 = .ok (.ifCond .lt (9), 3) := by decide +kernel
theorem d_Model_curveAt_28 : decode prog_10_method_40_code 28 = .ok (.iload_n (2), 1) := by decide +kernel
theorem d_Model_curveAt_29 : decode prog_10_method_40_code 29 = .ok (.bipush (8), 2) := by decide +kernel
theorem d_Model_curveAt_31 : decode prog_10_method_40_code 31 = .ok (.if_icmp .le (7), 3) := by decide +kernel
theorem d_Model_curveAt_34 : decode prog_10_method_40_code 34 = .ok (.ldc2_w (137), 3) := by decide +kernel
theorem d_Model_curveAt_37 : decode prog_10_method_40_code 37 = .ok (.lreturn, 1) := by decide +kernel
theorem d_Model_curveAt_38 : decode prog_10_method_40_code 38 = .ok (.aload_n (0), 1) := by decide +kernel
theorem d_Model_curveAt_39 : decode prog_10_method_40_code 39 = .ok (.getfield (68), 3) := by decide +kernel
theorem d_Model_curveAt_42 : decode prog_10_method_40_code 42 = .ok (.iload_n (1), 1) := by decide +kernel
theorem d_Model_curveAt_43 : decode prog_10_method_40_code 43 = .ok (.iaload, 1) := by decide +kernel
theorem d_Model_curveAt_44 : decode prog_10_method_40_code 44 = .ok (.aload_n (0), 1) := by decide +kernel
theorem d_Model_curveAt_45 : decode prog_10_method_40_code 45 = .ok (.getfield (68), 3) := by decide +kernel
theorem d_Model_curveAt_48 : decode prog_10_method_40_code 48 = .ok (.iload_n (1), 1) := by decide +kernel
theorem d_Model_curveAt_49 : decode prog_10_method_40_code 49 = .ok (.iconst (1), 1) := by decide +kernel
theorem d_Model_curveAt_50 : decode prog_10_method_40_code 50 = .ok (.isub, 1) := by decide +kernel
theorem d_Model_curveAt_51 : decode prog_10_method_40_code 51 = .ok (.iaload, 1) := by decide +kernel
theorem d_Model_curveAt_52 : decode prog_10_method_40_code 52 = .ok (.isub, 1) := by decide +kernel
theorem d_Model_curveAt_53 : decode prog_10_method_40_code 53 = .ok (.i2l, 1) := by decide +kernel
theorem d_Model_curveAt_54 : decode prog_10_method_40_code 54 = .ok (.lstore_n (3), 1) := by decide +kernel
theorem d_Model_curveAt_55 : decode prog_10_method_40_code 55 = .ok (.aload_n (0), 1) := by decide +kernel
theorem d_Model_curveAt_56 : decode prog_10_method_40_code 56 = .ok (.getfield (68), 3) := by decide +kernel
theorem d_Model_curveAt_59 : decode prog_10_method_40_code 59 = .ok (.iload_n (1), 1) := by decide +kernel
theorem d_Model_curveAt_60 : decode prog_10_method_40_code 60 = .ok (.iconst (1), 1) := by decide +kernel
theorem d_Model_curveAt_61 : decode prog_10_method_40_code 61 = .ok (.iadd, 1) := by decide +kernel
theorem d_Model_curveAt_62 : decode prog_10_method_40_code 62 = .ok (.iaload, 1) := by decide +kernel
theorem d_Model_curveAt_63 : decode prog_10_method_40_code 63 = .ok (.aload_n (0), 1) := by decide +kernel
theorem d_Model_curveAt_64 : decode prog_10_method_40_code 64 = .ok (.getfield (68), 3) := by decide +kernel
theorem d_Model_curveAt_67 : decode prog_10_method_40_code 67 = .ok (.iload_n (1), 1) := by decide +kernel
theorem d_Model_curveAt_68 : decode prog_10_method_40_code 68 = .ok (.iaload, 1) := by decide +kernel
theorem d_Model_curveAt_69 : decode prog_10_method_40_code 69 = .ok (.isub, 1) := by decide +kernel
theorem d_Model_curveAt_70 : decode prog_10_method_40_code 70 = .ok (.i2l, 1) := by decide +kernel
theorem d_Model_curveAt_71 : decode prog_10_method_40_code 71 = .ok (.lstore (5), 2) := by decide +kernel
theorem d_Model_curveAt_73 : decode prog_10_method_40_code 73 = .ok (.ldc2_w (215), 3) := by decide +kernel
theorem d_Model_curveAt_76 : decode prog_10_method_40_code 76 = .ok (.aload_n (0), 1) := by decide +kernel
theorem d_Model_curveAt_77 : decode prog_10_method_40_code 77 = .ok (.getfield (68), 3) := by decide +kernel
theorem d_Model_curveAt_80 : decode prog_10_method_40_code 80 = .ok (.iload_n (1), 1) := by decide +kernel
theorem d_Model_curveAt_81 : decode prog_10_method_40_code 81 = .ok (.iaload, 1) := by decide +kernel
theorem d_Model_curveAt_82 : decode prog_10_method_40_code 82 = .ok (.i2l, 1) := by decide +kernel
theorem d_Model_curveAt_83 : decode prog_10_method_40_code 83 = .ok (.lmul, 1) := by decide +kernel
theorem d_Model_curveAt_84 : decode prog_10_method_40_code 84 = .ok (.aload_n (0), 1) := by decide +kernel
theorem d_Model_curveAt_85 : decode prog_10_method_40_code 85 = .ok (.getfield (71), 3) := by decide +kernel
theorem d_Model_curveAt_88 : decode prog_10_method_40_code 88 = .ok (.iload_n (1), 1) := by decide +kernel
theorem d_Model_curveAt_89 : decode prog_10_method_40_code 89 = .ok (.iaload, 1) := by decide +kernel
theorem d_Model_curveAt_90 : decode prog_10_method_40_code 90 = .ok (.i2l, 1) := by decide +kernel
theorem d_Model_curveAt_91 : decode prog_10_method_40_code 91 = .ok (.ldc2_w (217), 3) := by decide +kernel
theorem d_Model_curveAt_94 : decode prog_10_method_40_code 94 = .ok (.lload_n (3), 1) := by decide +kernel
theorem d_Model_curveAt_95 : decode prog_10_method_40_code 95 = .ok (.lmul, 1) := by decide +kernel
theorem d_Model_curveAt_96 : decode prog_10_method_40_code 96 = .ok (.iload_n (2), 1) := by decide +kernel
theorem d_Model_curveAt_97 : decode prog_10_method_40_code 97 = .ok (.i2l, 1) := by decide +kernel
theorem d_Model_curveAt_98 : decode prog_10_method_40_code 98 = .ok (.lmul, 1) := by decide +kernel
theorem d_Model_curveAt_99 : decode prog_10_method_40_code 99 = .ok (.ldc2_w (219), 3) := by decide +kernel
theorem d_Model_curveAt_102 : decode prog_10_method_40_code 102 = .ok (.lload_n (3), 1) := by decide +kernel
theorem d_Model_curveAt_103 : decode prog_10_method_40_code 103 = .ok (.lmul, 1) := by decide +kernel
theorem d_Model_curveAt_104 : decode prog_10_method_40_code 104 = .ok (.lsub, 1) := by decide +kernel
theorem d_Model_curveAt_105 : decode prog_10_method_40_code 105 = .ok (.lload (5), 2) := by decide +kernel
theorem d_Model_curveAt_107 : decode prog_10_method_40_code 107 = .ok (.lload_n (3), 1) := by decide +kernel
theorem d_Model_curveAt_108 : decode prog_10_method_40_code 108 = .ok (.lsub, 1) := by decide +kernel
theorem d_Model_curveAt_109 : decode prog_10_method_40_code 109 = .ok (.iload_n (2), 1) := by decide +kernel
theorem d_Model_curveAt_110 : decode prog_10_method_40_code 110 = .ok (.i2l, 1) := by decide +kernel
theorem d_Model_curveAt_111 : decode prog_10_method_40_code 111 = .ok (.lmul, 1) := by decide +kernel
theorem d_Model_curveAt_112 : decode prog_10_method_40_code 112 = .ok (.iload_n (2), 1) := by decide +kernel
theorem d_Model_curveAt_113 : decode prog_10_method_40_code 113 = .ok (.i2l, 1) := by decide +kernel
theorem d_Model_curveAt_114 : decode prog_10_method_40_code 114 = .ok (.lmul, 1) := by decide +kernel
theorem d_Model_curveAt_115 : decode prog_10_method_40_code 115 = .ok (.ladd, 1) := by decide +kernel
theorem d_Model_curveAt_116 : decode prog_10_method_40_code 116 = .ok (.lmul, 1) := by decide +kernel
theorem d_Model_curveAt_117 : decode prog_10_method_40_code 117 = .ok (.ladd, 1) := by decide +kernel
theorem d_Model_curveAt_118 : decode prog_10_method_40_code 118 = .ok (.lreturn, 1) := by decide +kernel
set_option maxHeartbeats 4000000 in
set_option maxRecDepth 100000 in
theorem k_Model_curveAt (N : Nat) {X : zX} (C : zB X prog_10_method_40_code 7 R_Model rm_Model_curveAt) {h0 : zH} {p : Int64 × zH} (E : zR X (some .long) rm_Model_curveAt h0 (some (.long p.1)) p.2) : ∀ (x0 : Nat) (x1 : Int32) (x2 : Int32) (h : zH), f_Model_curveAt N x0 x1 x2 h = some p → Zt X 7 0 0 0 [(0, .ref x0), (1, .int x1), (2, .int x2)] [] h := by
  intro x0 x1 x2 h hf
  unfold f_Model_curveAt at hf
  refine z_aload_n C 0 d_Model_curveAt_0 rfl rfl ?_
  refine z_getI C 0 24 rfl in_Model (by decide) w_765 rfl d_Model_curveAt_1 hf (fun v1 hf => ?_)
  refine z_if_eq (tgt := 34) C d_Model_curveAt_4 (by decide) hf (fun hf => ?_) (fun hf => ?_)
  · refine z_ldc2 C d_Model_curveAt_34 w_924 ?_
    exact z_lret C E (Nat.le_of_ble_eq_true rfl) (Nat.le_of_ble_eq_true rfl) d_Model_curveAt_37 hf
  · refine z_aload_n C 0 d_Model_curveAt_7 rfl rfl ?_
    refine z_iload_n C 1 d_Model_curveAt_8 rfl rfl ?_
    obtain ⟨p2, hc, hf⟩ := Option.bind_eq_some_iff.mp hf
    obtain ⟨hz, hc⟩ := zck_some hc
    refine z_callV C (ci := 0) (c_Model_isPlace N C.2.2.1 hc) rfl hz w_855 w_66 w_852 w_854 w_32 pd_Model_isPlace rfl ⟨(Nat.le_of_ble_eq_true rfl), (Nat.le_of_ble_eq_true rfl)⟩ ⟨(Nat.le_of_ble_eq_true rfl), (Nat.le_of_ble_eq_true rfl)⟩ rfl (Nat.le_of_ble_eq_true rfl) d_Model_curveAt_9 (k' := 0) (n' := 0) (stk' := [.int p2.1]) rfl rfl rfl ?_
    refine z_if_eq (tgt := 34) C d_Model_curveAt_12 (by decide) hf (fun hf => ?_) (fun hf => ?_)
    · refine z_ldc2 C d_Model_curveAt_34 w_924 ?_
      exact z_lret C E (Nat.le_of_ble_eq_true rfl) (Nat.le_of_ble_eq_true rfl) d_Model_curveAt_37 hf
    · refine z_aload_n C 0 d_Model_curveAt_15 rfl rfl ?_
      refine z_getR C 0 28 rfl in_Model (by decide) w_769 rfl d_Model_curveAt_16 hf (fun v3 hf => ?_)
      refine z_iload_n C 1 d_Model_curveAt_19 rfl rfl ?_
      refine z_iald C d_Model_curveAt_20 hf (fun v4 hf => ?_)
      refine z_if_eq (tgt := 34) C d_Model_curveAt_21 (by decide) hf (fun hf => ?_) (fun hf => ?_)
      · refine z_ldc2 C d_Model_curveAt_34 w_924 ?_
        exact z_lret C E (Nat.le_of_ble_eq_true rfl) (Nat.le_of_ble_eq_true rfl) d_Model_curveAt_37 hf
      · refine z_iload_n C 2 d_Model_curveAt_24 rfl rfl ?_
        refine z_if_lt (tgt := 34) C d_Model_curveAt_25 (by decide) hf (fun hf => ?_) (fun hf => ?_)
        · refine z_ldc2 C d_Model_curveAt_34 w_924 ?_
          exact z_lret C E (Nat.le_of_ble_eq_true rfl) (Nat.le_of_ble_eq_true rfl) d_Model_curveAt_37 hf
        · refine z_iload_n C 2 d_Model_curveAt_28 rfl rfl ?_
          refine z_bipush C (v := (8 : Int32)) d_Model_curveAt_29 (by decide) ?_
          refine z_ic_le (tgt := 38) C d_Model_curveAt_31 (by decide) hf (fun hf => ?_) (fun hf => ?_)
          · refine z_aload_n C 0 d_Model_curveAt_38 rfl rfl ?_
            refine z_getR C 0 25 rfl in_Model (by decide) w_766 rfl d_Model_curveAt_39 hf (fun v5 hf => ?_)
            refine z_iload_n C 1 d_Model_curveAt_42 rfl rfl ?_
            refine z_iald C d_Model_curveAt_43 hf (fun v6 hf => ?_)
            refine z_aload_n C 0 d_Model_curveAt_44 rfl rfl ?_
            refine z_getR C 0 25 rfl in_Model (by decide) w_766 rfl d_Model_curveAt_45 hf (fun v7 hf => ?_)
            refine z_iload_n C 1 d_Model_curveAt_48 rfl rfl ?_
            refine z_iconst C (v := (1 : Int32)) d_Model_curveAt_49 (by decide) ?_
            refine z_isub C d_Model_curveAt_50 ?_
            refine z_iald C d_Model_curveAt_51 hf (fun v8 hf => ?_)
            refine z_isub C d_Model_curveAt_52 ?_
            refine z_i2l C d_Model_curveAt_53 ?_
            refine z_lstore_n C (lv' := [(3, .long (Int32.toInt64 (v6 - v8))), (0, .ref x0), (1, .int x1), (2, .int x2)]) d_Model_curveAt_54 rfl (by decide) rfl ?_
            refine z_aload_n C 1 d_Model_curveAt_55 rfl rfl ?_
            refine z_getR C 0 25 rfl in_Model (by decide) w_766 rfl d_Model_curveAt_56 hf (fun v9 hf => ?_)
            refine z_iload_n C 2 d_Model_curveAt_59 rfl rfl ?_
            refine z_iconst C (v := (1 : Int32)) d_Model_curveAt_60 (by decide) ?_
            refine z_iadd C d_Model_curveAt_61 ?_
            refine z_iald C d_Model_curveAt_62 hf (fun v10 hf => ?_)
            refine z_aload_n C 1 d_Model_curveAt_63 rfl rfl ?_
            refine z_getR C 0 25 rfl in_Model (by decide) w_766 rfl d_Model_curveAt_64 hf (fun v11 hf => ?_)
            refine z_iload_n C 2 d_Model_curveAt_67 rfl rfl ?_
            refine z_iald C d_Model_curveAt_68 hf (fun v12 hf => ?_)
            refine z_isub C d_Model_curveAt_69 ?_
            refine z_i2l C d_Model_curveAt_70 ?_
            refine z_lstore C (lv' := [(5, .long (Int32.toInt64 (v10 - v12))), (3, .long (Int32.toInt64 (v6 - v8))), (0, .ref x0), (1, .int x1), (2, .int x2)]) d_Model_curveAt_71 (by decide) rfl ?_
            refine z_ldc2 C d_Model_curveAt_73 w_1004 ?_
            refine z_aload_n C 2 d_Model_curveAt_76 rfl rfl ?_
            refine z_getR C 0 25 rfl in_Model (by decide) w_766 rfl d_Model_curveAt_77 hf (fun v13 hf => ?_)
            refine z_iload_n C 3 d_Model_curveAt_80 rfl rfl ?_
            refine z_iald C d_Model_curveAt_81 hf (fun v14 hf => ?_)
            refine z_i2l C d_Model_curveAt_82 ?_
            refine z_lmul C d_Model_curveAt_83 ?_
            refine z_aload_n C 2 d_Model_curveAt_84 rfl rfl ?_
            refine z_getR C 0 28 rfl in_Model (by decide) w_769 rfl d_Model_curveAt_85 hf (fun v15 hf => ?_)
            refine z_iload_n C 3 d_Model_curveAt_88 rfl rfl ?_
            refine z_iald C d_Model_curveAt_89 hf (fun v16 hf => ?_)
            refine z_i2l C d_Model_curveAt_90 ?_
            refine z_ldc2 C d_Model_curveAt_91 w_1005 ?_
            refine z_lload_n C 1 d_Model_curveAt_94 rfl rfl ?_
            refine z_lmul C d_Model_curveAt_95 ?_
            refine z_iload_n C 4 d_Model_curveAt_96 rfl rfl ?_
            refine z_i2l C d_Model_curveAt_97 ?_
            refine z_lmul C d_Model_curveAt_98 ?_
            refine z_ldc2 C d_Model_curveAt_99 w_1006 ?_
            refine z_lload_n C 1 d_Model_curveAt_102 rfl rfl ?_
            refine z_lmul C d_Model_curveAt_103 ?_
            refine z_lsub C d_Model_curveAt_104 ?_
            refine z_lload C 0 d_Model_curveAt_105 rfl ?_
            refine z_lload_n C 1 d_Model_curveAt_107 rfl rfl ?_
            refine z_lsub C d_Model_curveAt_108 ?_
            refine z_iload_n C 4 d_Model_curveAt_109 rfl rfl ?_
            refine z_i2l C d_Model_curveAt_110 ?_
            refine z_lmul C d_Model_curveAt_111 ?_
            refine z_iload_n C 4 d_Model_curveAt_112 rfl rfl ?_
            refine z_i2l C d_Model_curveAt_113 ?_
            refine z_lmul C d_Model_curveAt_114 ?_
            refine z_ladd C d_Model_curveAt_115 ?_
            refine z_lmul C d_Model_curveAt_116 ?_
            refine z_ladd C d_Model_curveAt_117 ?_
            exact z_lret C E (Nat.le_of_ble_eq_true rfl) (Nat.le_of_ble_eq_true rfl) d_Model_curveAt_118 hf
          · refine z_ldc2 C d_Model_curveAt_34 w_924 ?_
            exact z_lret C E (Nat.le_of_ble_eq_true rfl) (Nat.le_of_ble_eq_true rfl) d_Model_curveAt_37 hf

theorem c_Model_curveAt (N : Nat) {l : Launch} {D : va_G} {T : List (ClassId × FieldType)} (hT : T.map (fun q => q.2) = ztl) {x0 : Nat} {x1 : Int32} {x2 : Int32} {h : zH} {p : Int64 × zH} (hf : f_Model_curveAt N x0 x1 x2 h = some p) : zM l y_Model_curveAt prog_10_method_40_code 7 (some .long) rm_Model_curveAt D T [.ref x0, .int x1, .int x2] h (some (.long p.1)) p.2 :=
  z_enter (by decide) hT (Nat.le_of_ble_eq_true rfl) (fun X el eD eT hin C E => k_Model_curveAt N C E x0 x1 x2 h hf)
/-! ===== LevelTablesModel.lorry(IIII)Z ===== -/
abbrev y_Model_lorry : MethodName := ⟨R_Model, "lorry", "(IIII)Z"⟩
theorem pd_Model_lorry : y_Model_lorry.cls ≠ "java/lang/invoke/MethodHandle" ∧ y_Model_lorry.cls ≠ "java/lang/invoke/VarHandle" ∧ (parseMethodDescriptor y_Model_lorry.desc).map (fun d => d.parameters.length) = some 4 := ⟨by decide +kernel, by decide +kernel, by decide +kernel⟩
abbrev rm_Model_lorry : Room := { frames := 0, cells := 0, slots := 0, locals := 0 }
def f_Model_lorry (N : Nat) (x0 : Nat) (x1 : Int32) (x2 : Int32) (x3 : Int32) (x4 : Int32) (h : zH) : Option (Int32 × zH) :=
  (if x1 < 0 then
    zrb (0 : Int32) h
  else
    (if (1000 : Int32) < x1 then
      zrb (0 : Int32) h
    else
      (if x2 < 0 then
        zrb (0 : Int32) h
      else
        (if (1000 : Int32) < x2 then
          zrb (0 : Int32) h
        else
          (if x3 < 0 then
            zrb (0 : Int32) h
          else
            (if (1000 : Int32) < x3 then
              zrb (0 : Int32) h
            else
              (if x4 < 0 then
                zrb (0 : Int32) h
              else
                (if x4 ≤ (1000 : Int32) then
                  Option.bind (zp h x0 0 30 (.int x1)) fun (h1 : zH) =>
                  Option.bind (zp h1 x0 0 31 (.int x2)) fun (h2 : zH) =>
                  Option.bind (zp h2 x0 0 32 (.int x3)) fun (h3 : zH) =>
                  Option.bind (zp h3 x0 0 33 (.int x4)) fun (h4 : zH) =>
                  zrb (1 : Int32) h4
                else
                  zrb (0 : Int32) h))))))))
theorem d_Model_lorry_0 : decode prog_10_method_41_code 0 = .ok (.iload_n (1), 1) := by decide +kernel
theorem d_Model_lorry_1 : decode prog_10_method_41_code 1 = .ok (.ifCond .lt (45), 3) := by decide +kernel
theorem d_Model_lorry_4 : decode prog_10_method_41_code 4 = .ok (.iload_n (1), 1) := by decide +kernel
theorem d_Model_lorry_5 : decode prog_10_method_41_code 5 = .ok (.sipush (1000), 3) := by decide +kernel
theorem d_Model_lorry_8 : decode prog_10_method_41_code 8 = .ok (.if_icmp .gt (38), 3) := by decide +kernel
theorem d_Model_lorry_11 : decode prog_10_method_41_code 11 = .ok (.iload_n (2), 1) := by decide +kernel
theorem d_Model_lorry_12 : decode prog_10_method_41_code 12 = .ok (.ifCond .lt (34), 3) := by decide +kernel
theorem d_Model_lorry_15 : decode prog_10_method_41_code 15 = .ok (.iload_n (2), 1) := by decide +kernel
theorem d_Model_lorry_16 : decode prog_10_method_41_code 16 = .ok (.sipush (1000), 3) := by decide +kernel
theorem d_Model_lorry_19 : decode prog_10_method_41_code 19 = .ok (.if_icmp .gt (27), 3) := by decide +kernel
theorem d_Model_lorry_22 : decode prog_10_method_41_code 22 = .ok (.iload_n (3), 1) := by decide +kernel
theorem d_Model_lorry_23 : decode prog_10_method_41_code 23 = .ok (.ifCond .lt (23), 3) := by decide +kernel
theorem d_Model_lorry_26 : decode prog_10_method_41_code 26 = .ok (.iload_n (3), 1) := by decide +kernel
theorem d_Model_lorry_27 : decode prog_10_method_41_code 27 = .ok (.sipush (1000), 3) := by decide +kernel
theorem d_Model_lorry_30 : decode prog_10_method_41_code 30 = .ok (.if_icmp .gt (16), 3) := by decide +kernel
theorem d_Model_lorry_33 : decode prog_10_method_41_code 33 = .ok (.iload (4), 2) := by decide +kernel
theorem d_Model_lorry_35 : decode prog_10_method_41_code 35 = .ok (.ifCond .lt (11), 3) := by decide +kernel
theorem d_Model_lorry_38 : decode prog_10_method_41_code 38 = .ok (.iload (4), 2) := by decide +kernel
theorem d_Model_lorry_40 : decode prog_10_method_41_code 40 = .ok (.sipush (1000), 3) := by decide +kernel
theorem d_Model_lorry_43 : decode prog_10_method_41_code 43 = .ok (.if_icmp .le (5), 3) := by decide +kernel
theorem d_Model_lorry_46 : decode prog_10_method_41_code 46 = .ok (.iconst (0), 1) := by decide +kernel
theorem d_Model_lorry_47 : decode prog_10_method_41_code 47 = .ok (.ireturn, 1) := by decide +kernel
theorem d_Model_lorry_48 : decode prog_10_method_41_code 48 = .ok (.aload_n (0), 1) := by decide +kernel
theorem d_Model_lorry_49 : decode prog_10_method_41_code 49 = .ok (.iload_n (1), 1) := by decide +kernel
theorem d_Model_lorry_50 : decode prog_10_method_41_code 50 = .ok (.putfield (74), 3) := by decide +kernel
theorem d_Model_lorry_53 : decode prog_10_method_41_code 53 = .ok (.aload_n (0), 1) := by decide +kernel
theorem d_Model_lorry_54 : decode prog_10_method_41_code 54 = .ok (.iload_n (2), 1) := by decide +kernel
theorem d_Model_lorry_55 : decode prog_10_method_41_code 55 = .ok (.putfield (77), 3) := by decide +kernel
theorem d_Model_lorry_58 : decode prog_10_method_41_code 58 = .ok (.aload_n (0), 1) := by decide +kernel
theorem d_Model_lorry_59 : decode prog_10_method_41_code 59 = .ok (.iload_n (3), 1) := by decide +kernel
theorem d_Model_lorry_60 : decode prog_10_method_41_code 60 = .ok (.putfield (80), 3) := by decide +kernel
theorem d_Model_lorry_63 : decode prog_10_method_41_code 63 = .ok (.aload_n (0), 1) := by decide +kernel
theorem d_Model_lorry_64 : decode prog_10_method_41_code 64 = .ok (.iload (4), 2) := by decide +kernel
theorem d_Model_lorry_66 : decode prog_10_method_41_code 66 = .ok (.putfield (83), 3) := by decide +kernel
theorem d_Model_lorry_69 : decode prog_10_method_41_code 69 = .ok (.iconst (1), 1) := by decide +kernel
theorem d_Model_lorry_70 : decode prog_10_method_41_code 70 = .ok (.ireturn, 1) := by decide +kernel
set_option maxHeartbeats 4000000 in
set_option maxRecDepth 100000 in
theorem k_Model_lorry (N : Nat) {X : zX} (C : zB X prog_10_method_41_code 5 R_Model rm_Model_lorry) {h0 : zH} {p : Int32 × zH} (E : zR X (some .boolean) rm_Model_lorry h0 (some (.int p.1)) p.2) : ∀ (x0 : Nat) (x1 : Int32) (x2 : Int32) (x3 : Int32) (x4 : Int32) (h : zH), f_Model_lorry N x0 x1 x2 x3 x4 h = some p → Zt X 5 0 0 0 [(0, .ref x0), (1, .int x1), (2, .int x2), (3, .int x3), (4, .int x4)] [] h := by
  intro x0 x1 x2 x3 x4 h hf
  unfold f_Model_lorry at hf
  refine z_iload_n C 1 d_Model_lorry_0 rfl rfl ?_
  refine z_if_lt (tgt := 46) C d_Model_lorry_1 (by decide) hf (fun hf => ?_) (fun hf => ?_)
  · refine z_iconst C (v := (0 : Int32)) d_Model_lorry_46 (by decide) ?_
    exact z_zret C E (Nat.le_of_ble_eq_true rfl) (Nat.le_of_ble_eq_true rfl) d_Model_lorry_47 hf
  · refine z_iload_n C 1 d_Model_lorry_4 rfl rfl ?_
    refine z_sipush C (v := (1000 : Int32)) d_Model_lorry_5 (by decide) ?_
    refine z_ic_gt (tgt := 46) C d_Model_lorry_8 (by decide) hf (fun hf => ?_) (fun hf => ?_)
    · refine z_iconst C (v := (0 : Int32)) d_Model_lorry_46 (by decide) ?_
      exact z_zret C E (Nat.le_of_ble_eq_true rfl) (Nat.le_of_ble_eq_true rfl) d_Model_lorry_47 hf
    · refine z_iload_n C 2 d_Model_lorry_11 rfl rfl ?_
      refine z_if_lt (tgt := 46) C d_Model_lorry_12 (by decide) hf (fun hf => ?_) (fun hf => ?_)
      · refine z_iconst C (v := (0 : Int32)) d_Model_lorry_46 (by decide) ?_
        exact z_zret C E (Nat.le_of_ble_eq_true rfl) (Nat.le_of_ble_eq_true rfl) d_Model_lorry_47 hf
      · refine z_iload_n C 2 d_Model_lorry_15 rfl rfl ?_
        refine z_sipush C (v := (1000 : Int32)) d_Model_lorry_16 (by decide) ?_
        refine z_ic_gt (tgt := 46) C d_Model_lorry_19 (by decide) hf (fun hf => ?_) (fun hf => ?_)
        · refine z_iconst C (v := (0 : Int32)) d_Model_lorry_46 (by decide) ?_
          exact z_zret C E (Nat.le_of_ble_eq_true rfl) (Nat.le_of_ble_eq_true rfl) d_Model_lorry_47 hf
        · refine z_iload_n C 3 d_Model_lorry_22 rfl rfl ?_
          refine z_if_lt (tgt := 46) C d_Model_lorry_23 (by decide) hf (fun hf => ?_) (fun hf => ?_)
          · refine z_iconst C (v := (0 : Int32)) d_Model_lorry_46 (by decide) ?_
            exact z_zret C E (Nat.le_of_ble_eq_true rfl) (Nat.le_of_ble_eq_true rfl) d_Model_lorry_47 hf
          · refine z_iload_n C 3 d_Model_lorry_26 rfl rfl ?_
            refine z_sipush C (v := (1000 : Int32)) d_Model_lorry_27 (by decide) ?_
            refine z_ic_gt (tgt := 46) C d_Model_lorry_30 (by decide) hf (fun hf => ?_) (fun hf => ?_)
            · refine z_iconst C (v := (0 : Int32)) d_Model_lorry_46 (by decide) ?_
              exact z_zret C E (Nat.le_of_ble_eq_true rfl) (Nat.le_of_ble_eq_true rfl) d_Model_lorry_47 hf
            · refine z_iload C 4 d_Model_lorry_33 rfl ?_
              refine z_if_lt (tgt := 46) C d_Model_lorry_35 (by decide) hf (fun hf => ?_) (fun hf => ?_)
              · refine z_iconst C (v := (0 : Int32)) d_Model_lorry_46 (by decide) ?_
                exact z_zret C E (Nat.le_of_ble_eq_true rfl) (Nat.le_of_ble_eq_true rfl) d_Model_lorry_47 hf
              · refine z_iload C 4 d_Model_lorry_38 rfl ?_
                refine z_sipush C (v := (1000 : Int32)) d_Model_lorry_40 (by decide) ?_
                refine z_ic_le (tgt := 48) C d_Model_lorry_43 (by decide) hf (fun hf => ?_) (fun hf => ?_)
                · refine z_aload_n C 0 d_Model_lorry_48 rfl rfl ?_
                  refine z_iload_n C 1 d_Model_lorry_49 rfl rfl ?_
                  refine z_put C 0 30 ty_Model rfl in_Model tyok_Model nm_Model (by decide) w_771 rfl (Or.inl rfl) rfl rfl rfl d_Model_lorry_50 hf (fun h1 hf => ?_)
                  refine z_aload_n C 0 d_Model_lorry_53 rfl rfl ?_
                  refine z_iload_n C 2 d_Model_lorry_54 rfl rfl ?_
                  refine z_put C 0 31 ty_Model rfl in_Model tyok_Model nm_Model (by decide) w_772 rfl (Or.inl rfl) rfl rfl rfl d_Model_lorry_55 hf (fun h2 hf => ?_)
                  refine z_aload_n C 0 d_Model_lorry_58 rfl rfl ?_
                  refine z_iload_n C 3 d_Model_lorry_59 rfl rfl ?_
                  refine z_put C 0 32 ty_Model rfl in_Model tyok_Model nm_Model (by decide) w_773 rfl (Or.inl rfl) rfl rfl rfl d_Model_lorry_60 hf (fun h3 hf => ?_)
                  refine z_aload_n C 0 d_Model_lorry_63 rfl rfl ?_
                  refine z_iload C 4 d_Model_lorry_64 rfl ?_
                  refine z_put C 0 33 ty_Model rfl in_Model tyok_Model nm_Model (by decide) w_774 rfl (Or.inl rfl) rfl rfl rfl d_Model_lorry_66 hf (fun h4 hf => ?_)
                  refine z_iconst C (v := (1 : Int32)) d_Model_lorry_69 (by decide) ?_
                  exact z_zret C E (Nat.le_of_ble_eq_true rfl) (Nat.le_of_ble_eq_true rfl) d_Model_lorry_70 hf
                · refine z_iconst C (v := (0 : Int32)) d_Model_lorry_46 (by decide) ?_
                  exact z_zret C E (Nat.le_of_ble_eq_true rfl) (Nat.le_of_ble_eq_true rfl) d_Model_lorry_47 hf

theorem c_Model_lorry (N : Nat) {l : Launch} {D : va_G} {T : List (ClassId × FieldType)} (hT : T.map (fun q => q.2) = ztl) {x0 : Nat} {x1 : Int32} {x2 : Int32} {x3 : Int32} {x4 : Int32} {h : zH} {p : Int32 × zH} (hf : f_Model_lorry N x0 x1 x2 x3 x4 h = some p) : zM l y_Model_lorry prog_10_method_41_code 5 (some .boolean) rm_Model_lorry D T [.ref x0, .int x1, .int x2, .int x3, .int x4] h (some (.int p.1)) p.2 :=
  z_enter (by decide) hT (Nat.le_of_ble_eq_true rfl) (fun X el eD eT hin C E => k_Model_lorry N C E x0 x1 x2 x3 x4 h hf)
/-! ===== LevelTablesModel.lane(II)I ===== -/
abbrev y_Model_lane : MethodName := ⟨R_Model, "lane", "(II)I"⟩
theorem pd_Model_lane : y_Model_lane.cls ≠ "java/lang/invoke/MethodHandle" ∧ y_Model_lane.cls ≠ "java/lang/invoke/VarHandle" ∧ (parseMethodDescriptor y_Model_lane.desc).map (fun d => d.parameters.length) = some 2 := ⟨by decide +kernel, by decide +kernel, by decide +kernel⟩
abbrev rm_Model_lane : Room := { frames := 0, cells := 0, slots := 0, locals := 0 }
def f_Model_lane_286 (N : Nat) (rc147 : Nat → Int32 → Int32 → Int32 → zH → Option (Int32 × zH)) (x0 : Nat) (x2 : Int32) (x3 : Int32) (s0 : Int32) (h : zH) : Option (Int32 × zH) :=
  rc147 x0 x2 x3 s0 h
def f_Model_lane_269 (N : Nat) (rc147 : Nat → Int32 → Int32 → Int32 → zH → Option (Int32 × zH)) (x0 : Nat) (x2 : Int32) (x4 : Int32) (x5 : Int32) (s0 : Int32) (h : zH) : Option (Int32 × zH) :=
  (if x5 ≤ x4 then
    f_Model_lane_286 N rc147 x0 x2 s0 (x4 + (1 : Int32)) h
  else
    f_Model_lane_286 N rc147 x0 x2 s0 x5 h)
def f_Model_lane_255 (N : Nat) (rc147 : Nat → Int32 → Int32 → Int32 → zH → Option (Int32 × zH)) (x0 : Nat) (x2 : Int32) (x3 : Int32) (x4 : Int32) (x5 : Int32) (h : zH) : Option (Int32 × zH) :=
  (if x5 ≤ x4 then
    f_Model_lane_269 N rc147 x0 x2 x4 x5 x3 h
  else
    f_Model_lane_269 N rc147 x0 x2 x4 x5 (x3 - (1 : Int32)) h)
def f_Model_lane_220 (N : Nat) (rc147 : Nat → Int32 → Int32 → Int32 → zH → Option (Int32 × zH)) (x0 : Nat) (x2 : Int32) (x3 : Int32) (x4 : Int32) (x5 : Int32) (x6 : Int32) (h : zH) : Option (Int32 × zH) :=
  (if x5 ≤ x4 then
    f_Model_lane_255 N rc147 x0 x2 x3 x4 x5 h
  else
    (if x3 = 0 then
      (if x2 = 0 then
        some (x4, h)
      else
        (if x2 = (1 : Int32) then
          some ((x5 - (1 : Int32)), h)
        else
          some (x6, h)))
    else
      f_Model_lane_255 N rc147 x0 x2 x3 x4 x5 h))
def f_Model_lane_212 (N : Nat) (rc147 : Nat → Int32 → Int32 → Int32 → zH → Option (Int32 × zH)) (rc165 : Nat → Int32 → Int32 → Int32 → Int32 → Int32 → zH → Option (Int32 × zH)) (x0 : Nat) (x2 : Int32) (x3 : Int32) (x4 : Int32) (x5 : Int32) (s0 : Int32) (h : zH) : Option (Int32 × zH) :=
  rc165 x0 x2 x3 x4 (x5 + (1 : Int32)) s0 h
def b_Model_lane_165 (N : Nat) (rc147 : Nat → Int32 → Int32 → Int32 → zH → Option (Int32 × zH)) (rc165 : Nat → Int32 → Int32 → Int32 → Int32 → Int32 → zH → Option (Int32 × zH)) (x0 : Nat) (x2 : Int32) (x3 : Int32) (x4 : Int32) (x5 : Int32) (x6 : Int32) (h : zH) : Option (Int32 × zH) :=
  Option.bind (zgI h x0 0 0) fun (v1 : Int32) =>
  (if v1 < x5 then
    f_Model_lane_220 N rc147 x0 x2 x3 x4 x5 x6 h
  else
    Option.bind (zgR h x0 0 34) fun (v2 : Nat) =>
    Option.bind (zaI h 0 v2 x5) fun (v3 : Int32) =>
    Option.bind (zgI h x0 0 31) fun (v4 : Int32) =>
    (if v4 ≤ v3 then
      f_Model_lane_220 N rc147 x0 x2 x3 x4 x5 x6 h
    else
      Option.bind (zgR h x0 0 34) fun (v5 : Nat) =>
      Option.bind (zaI h 0 v5 x5) fun (v6 : Int32) =>
      (if x6 ≤ v6 then
        f_Model_lane_212 N rc147 rc165 x0 x2 x3 x4 x5 x6 h
      else
        Option.bind (zgR h x0 0 34) fun (v7 : Nat) =>
        Option.bind (zaI h 0 v7 x5) fun (v8 : Int32) =>
        f_Model_lane_212 N rc147 rc165 x0 x2 x3 x4 x5 v8 h)))
def f_Model_lane_165 (N : Nat) (rc147 : Nat → Int32 → Int32 → Int32 → zH → Option (Int32 × zH)) : Nat → Nat → Int32 → Int32 → Int32 → Int32 → Int32 → zH → Option (Int32 × zH)
  | 0 => fun _ _ _ _ _ _ _ => none
  | n + 1 => fun x0 x2 x3 x4 x5 x6 h => b_Model_lane_165 N rc147 (f_Model_lane_165 N rc147 n) x0 x2 x3 x4 x5 x6 h
def b_Model_lane_147 (N : Nat) (rc147 : Nat → Int32 → Int32 → Int32 → zH → Option (Int32 × zH)) (x0 : Nat) (x2 : Int32) (x3 : Int32) (x4 : Int32) (h : zH) : Option (Int32 × zH) :=
  Option.bind (zgI h x0 0 0) fun (v9 : Int32) =>
  (if v9 < x4 then
    some ((-1 : Int32), h)
  else
    f_Model_lane_165 N rc147 N x0 x2 x3 x4 x4 (1001 : Int32) h)
def f_Model_lane_147 (N : Nat) : Nat → Nat → Int32 → Int32 → Int32 → zH → Option (Int32 × zH)
  | 0 => fun _ _ _ _ _ => none
  | n + 1 => fun x0 x2 x3 x4 h => b_Model_lane_147 N (f_Model_lane_147 N n) x0 x2 x3 x4 h
def f_Model_lane_135 (N : Nat) (rc34 : Nat → Int32 → Int32 → Int32 → zH → Option (Int32 × zH)) (x0 : Nat) (x1 : Int32) (x2 : Int32) (x3 : Int32) (s0 : Nat) (s1 : Int32) (s2 : Int32) (h : zH) : Option (Int32 × zH) :=
  Option.bind (zsI h 0 s0 s1 s2) fun (h10 : zH) =>
  rc34 x0 x1 x2 (x3 + (1 : Int32)) h10
def f_Model_lane_101 (N : Nat) (rc34 : Nat → Int32 → Int32 → Int32 → zH → Option (Int32 × zH)) (x0 : Nat) (x1 : Int32) (x2 : Int32) (x3 : Int32) (s0 : Int32) (h : zH) : Option (Int32 × zH) :=
  Option.bind (zgR h x0 0 34) fun (v11 : Nat) =>
  (if 0 ≤ s0 then
    Option.bind (zgI h x0 0 30) fun (v12 : Int32) =>
    (if s0 ≤ v12 then
      f_Model_lane_135 N rc34 x0 x1 x2 x3 v11 x3 s0 h
    else
      Option.bind (zgI h x0 0 30) fun (v13 : Int32) =>
      f_Model_lane_135 N rc34 x0 x1 x2 x3 v11 x3 v13 h)
  else
    f_Model_lane_135 N rc34 x0 x1 x2 x3 v11 x3 (0 : Int32) h)
def b_Model_lane_34 (N : Nat) (rc34 : Nat → Int32 → Int32 → Int32 → zH → Option (Int32 × zH)) (x0 : Nat) (x1 : Int32) (x2 : Int32) (x3 : Int32) (h : zH) : Option (Int32 × zH) :=
  Option.bind (zgI h x0 0 0) fun (v14 : Int32) =>
  (if v14 < x3 then
    f_Model_lane_147 N N x0 x2 x1 (0 : Int32) h
  else
    Option.bind (zgR h x0 0 25) fun (v15 : Nat) =>
    Option.bind (zaI h 0 v15 x3) fun (v16 : Int32) =>
    Option.bind (zgR h x0 0 25) fun (v17 : Nat) =>
    Option.bind (zaI h 0 v17 (x3 - (1 : Int32))) fun (v18 : Int32) =>
    (if (v16 - v18) ≤ 0 then
      Option.bind (zgR h x0 0 34) fun (v19 : Nat) =>
      Option.bind (zaI h 0 v19 (x3 - (1 : Int32))) fun (v20 : Int32) =>
      Option.bind (zgI h x0 0 33) fun (v21 : Int32) =>
      f_Model_lane_101 N rc34 x0 x1 x2 x3 (v20 + (((1 : Int32) - (v16 - v18)) * v21)) h
    else
      Option.bind (zgR h x0 0 34) fun (v22 : Nat) =>
      Option.bind (zaI h 0 v22 (x3 - (1 : Int32))) fun (v23 : Int32) =>
      Option.bind (zgI h x0 0 32) fun (v24 : Int32) =>
      f_Model_lane_101 N rc34 x0 x1 x2 x3 (v23 - ((v16 - v18) * v24)) h))
def f_Model_lane_34 (N : Nat) : Nat → Nat → Int32 → Int32 → Int32 → zH → Option (Int32 × zH)
  | 0 => fun _ _ _ _ _ => none
  | n + 1 => fun x0 x1 x2 x3 h => b_Model_lane_34 N (f_Model_lane_34 N n) x0 x1 x2 x3 h
def f_Model_lane (N : Nat) (x0 : Nat) (x1 : Int32) (x2 : Int32) (h : zH) : Option (Int32 × zH) :=
  Option.bind (zgI h x0 0 24) fun (v25 : Int32) =>
  (if v25 = 0 then
    some ((-1 : Int32), h)
  else
    (if x1 < 0 then
      some ((-1 : Int32), h)
    else
      (if x2 < 0 then
        some ((-1 : Int32), h)
      else
        (if x2 ≤ (2 : Int32) then
          Option.bind (zgR h x0 0 34) fun (v26 : Nat) =>
          Option.bind (zgI h x0 0 30) fun (v27 : Int32) =>
          Option.bind (zsI h 0 v26 (0 : Int32) v27) fun (h28 : zH) =>
          f_Model_lane_34 N N x0 x1 x2 (1 : Int32) h28
        else
          some ((-1 : Int32), h)))))
theorem d_Model_lane_0 : decode prog_10_method_42_code 0 = .ok (.aload_n (0), 1) := by decide +kernel
theorem d_Model_lane_1 : decode prog_10_method_42_code 1 = .ok (.getfield (95), 3) := by decide +kernel
theorem d_Model_lane_4 : decode prog_10_method_42_code 4 = .ok (.ifCond .eq (16), 3) := by decide +kernel
theorem d_Model_lane_7 : decode prog_10_method_42_code 7 = .ok (.iload_n (1), 1) := by decide +kernel
theorem d_Model_lane_8 : decode prog_10_method_42_code 8 = .ok (.ifCond .lt (12), 3) := by decide +kernel
theorem d_Model_lane_11 : decode prog_10_method_42_code 11 = .ok (.iload_n (2), 1) := by decide +kernel
theorem d_Model_lane_12 : decode prog_10_method_42_code 12 = .ok (.ifCond .lt (8), 3) := by decide +kernel
theorem d_Model_lane_15 : decode prog_10_method_42_code 15 = .ok (.iload_n (2), 1) := by decide +kernel
theorem d_Model_lane_16 : decode prog_10_method_42_code 16 = .ok (.iconst (2), 1) := by decide +kernel
theorem d_Model_lane_17 : decode prog_10_method_42_code 17 = .ok (.if_icmp .le (5), 3) := by decide +kernel
theorem d_Model_lane_20 : decode prog_10_method_42_code 20 = .ok (.iconst (-1), 1) := by decide +kernel
theorem d_Model_lane_21 : decode prog_10_method_42_code 21 = .ok (.ireturn, 1) := by decide +kernel
theorem d_Model_lane_22 : decode prog_10_method_42_code 22 = .ok (.aload_n (0), 1) := by decide +kernel
theorem d_Model_lane_23 : decode prog_10_method_42_code 23 = .ok (.getfield (86), 3) := by decide +kernel
theorem d_Model_lane_26 : decode prog_10_method_42_code 26 = .ok (.iconst (0), 1) := by decide +kernel
theorem d_Model_lane_27 : decode prog_10_method_42_code 27 = .ok (.aload_n (0), 1) := by decide +kernel
theorem d_Model_lane_28 : decode prog_10_method_42_code 28 = .ok (.getfield (74), 3) := by decide +kernel
theorem d_Model_lane_31 : decode prog_10_method_42_code 31 = .ok (.iastore, 1) := by decide +kernel
theorem d_Model_lane_32 : decode prog_10_method_42_code 32 = .ok (.iconst (1), 1) := by decide +kernel
theorem d_Model_lane_33 : decode prog_10_method_42_code 33 = .ok (.istore_n (3), 1) := by decide +kernel
theorem d_Model_lane_34 : decode prog_10_method_42_code 34 = .ok (.iload_n (3), 1) := by decide +kernel
theorem d_Model_lane_35 : decode prog_10_method_42_code 35 = .ok (.aload_n (0), 1) := by decide +kernel
theorem d_Model_lane_36 : decode prog_10_method_42_code 36 = .ok (.getfield (89), 3) := by decide +kernel
theorem d_Model_lane_39 : decode prog_10_method_42_code 39 = .ok (.if_icmp .gt (103), 3) := by decide +kernel
theorem d_Model_lane_42 : decode prog_10_method_42_code 42 = .ok (.aload_n (0), 1) := by decide +kernel
theorem d_Model_lane_43 : decode prog_10_method_42_code 43 = .ok (.getfield (68), 3) := by decide +kernel
theorem d_Model_lane_46 : decode prog_10_method_42_code 46 = .ok (.iload_n (3), 1) := by decide +kernel
theorem d_Model_lane_47 : decode prog_10_method_42_code 47 = .ok (.iaload, 1) := by decide +kernel
theorem d_Model_lane_48 : decode prog_10_method_42_code 48 = .ok (.aload_n (0), 1) := by decide +kernel
theorem d_Model_lane_49 : decode prog_10_method_42_code 49 = .ok (.getfield (68), 3) := by decide +kernel
theorem d_Model_lane_52 : decode prog_10_method_42_code 52 = .ok (.iload_n (3), 1) := by decide +kernel
theorem d_Model_lane_53 : decode prog_10_method_42_code 53 = .ok (.iconst (1), 1) := by decide +kernel
theorem d_Model_lane_54 : decode prog_10_method_42_code 54 = .ok (.isub, 1) := by decide +kernel
theorem d_Model_lane_55 : decode prog_10_method_42_code 55 = .ok (.iaload, 1) := by decide +kernel
theorem d_Model_lane_56 : decode prog_10_method_42_code 56 = .ok (.isub, 1) := by decide +kernel
theorem d_Model_lane_57 : decode prog_10_method_42_code 57 = .ok (.istore (4), 2) := by decide +kernel
theorem d_Model_lane_59 : decode prog_10_method_42_code 59 = .ok (.iload (4), 2) := by decide +kernel
theorem d_Model_lane_61 : decode prog_10_method_42_code 61 = .ok (.ifCond .le (22), 3) := by decide +kernel
theorem d_Model_lane_64 : decode prog_10_method_42_code 64 = .ok (.aload_n (0), 1) := by decide +kernel
theorem d_Model_lane_65 : decode prog_10_method_42_code 65 = .ok (.getfield (86), 3) := by decide +kernel
theorem d_Model_lane_68 : decode prog_10_method_42_code 68 = .ok (.iload_n (3), 1) := by decide +kernel
theorem d_Model_lane_69 : decode prog_10_method_42_code 69 = .ok (.iconst (1), 1) := by decide +kernel
theorem d_Model_lane_70 : decode prog_10_method_42_code 70 = .ok (.isub, 1) := by decide +kernel
theorem d_Model_lane_71 : decode prog_10_method_42_code 71 = .ok (.iaload, 1) := by decide +kernel
theorem d_Model_lane_72 : decode prog_10_method_42_code 72 = .ok (.iload (4), 2) := by decide +kernel
theorem d_Model_lane_74 : decode prog_10_method_42_code 74 = .ok (.aload_n (0), 1) := by decide +kernel
theorem d_Model_lane_75 : decode prog_10_method_42_code 75 = .ok (.getfield (80), 3) := by decide +kernel
theorem d_Model_lane_78 : decode prog_10_method_42_code 78 = .ok (.imul, 1) := by decide +kernel
theorem d_Model_lane_79 : decode prog_10_method_42_code 79 = .ok (.isub, 1) := by decide +kernel
theorem d_Model_lane_80 : decode prog_10_method_42_code 80 = .ok (.goto (21), 3) := by decide +kernel
theorem d_Model_lane_83 : decode prog_10_method_42_code 83 = .ok (.aload_n (0), 1) := by decide +kernel
theorem d_Model_lane_84 : decode prog_10_method_42_code 84 = .ok (.getfield (86), 3) := by decide +kernel
theorem d_Model_lane_87 : decode prog_10_method_42_code 87 = .ok (.iload_n (3), 1) := by decide +kernel
theorem d_Model_lane_88 : decode prog_10_method_42_code 88 = .ok (.iconst (1), 1) := by decide +kernel
theorem d_Model_lane_89 : decode prog_10_method_42_code 89 = .ok (.isub, 1) := by decide +kernel
theorem d_Model_lane_90 : decode prog_10_method_42_code 90 = .ok (.iaload, 1) := by decide +kernel
theorem d_Model_lane_91 : decode prog_10_method_42_code 91 = .ok (.iconst (1), 1) := by decide +kernel
theorem d_Model_lane_92 : decode prog_10_method_42_code 92 = .ok (.iload (4), 2) := by decide +kernel
theorem d_Model_lane_94 : decode prog_10_method_42_code 94 = .ok (.isub, 1) := by decide +kernel
theorem d_Model_lane_95 : decode prog_10_method_42_code 95 = .ok (.aload_n (0), 1) := by decide +kernel
theorem d_Model_lane_96 : decode prog_10_method_42_code 96 = .ok (.getfield (83), 3) := by decide +kernel
theorem d_Model_lane_99 : decode prog_10_method_42_code 99 = .ok (.imul, 1) := by decide +kernel
theorem d_Model_lane_100 : decode prog_10_method_42_code 100 = .ok (.iadd, 1) := by decide +kernel
theorem d_Model_lane_101 : decode prog_10_method_42_code 101 = .ok (.istore (5), 2) := by decide +kernel
theorem d_Model_lane_103 : decode prog_10_method_42_code 103 = .ok (.aload_n (0), 1) := by decide +kernel
theorem d_Model_lane_104 : decode prog_10_method_42_code 104 = .ok (.getfield (86), 3) := by decide +kernel
theorem d_Model_lane_107 : decode prog_10_method_42_code 107 = .ok (.iload_n (3), 1) := by decide +kernel
theorem d_Model_lane_108 : decode prog_10_method_42_code 108 = .ok (.iload (5), 2) := by decide +kernel
theorem d_Model_lane_110 : decode prog_10_method_42_code 110 = .ok (.ifCond .ge (7), 3) := by decide +kernel
theorem d_Model_lane_113 : decode prog_10_method_42_code 113 = .ok (.iconst (0), 1) := by decide +kernel
theorem d_Model_lane_114 : decode prog_10_method_42_code 114 = .ok (.goto (21), 3) := by decide +kernel
theorem d_Model_lane_117 : decode prog_10_method_42_code 117 = .ok (.iload (5), 2) := by decide +kernel
theorem d_Model_lane_119 : decode prog_10_method_42_code 119 = .ok (.aload_n (0), 1) := by decide +kernel
theorem d_Model_lane_120 : decode prog_10_method_42_code 120 = .ok (.getfield (74), 3) := by decide +kernel
theorem d_Model_lane_123 : decode prog_10_method_42_code 123 = .ok (.if_icmp .le (10), 3) := by decide +kernel
theorem d_Model_lane_126 : decode prog_10_method_42_code 126 = .ok (.aload_n (0), 1) := by decide +kernel
theorem d_Model_lane_127 : decode prog_10_method_42_code 127 = .ok (.getfield (74), 3) := by decide +kernel
theorem d_Model_lane_130 : decode prog_10_method_42_code 130 = .ok (.goto (5), 3) := by decide +kernel
theorem d_Model_lane_133 : decode prog_10_method_42_code 133 = .ok (.iload (5), 2) := by decide +kernel
theorem d_Model_lane_135 : decode prog_10_method_42_code 135 = .ok (.iastore, 1) := by decide +kernel
theorem d_Model_lane_136 : decode prog_10_method_42_code 136 = .ok (.iinc (3) (1), 3) := by decide +kernel
theorem d_Model_lane_139 : decode prog_10_method_42_code 139 = .ok (.goto (-105), 3) := by decide +kernel
theorem d_Model_lane_142 : decode prog_10_method_42_code 142 = .ok (.iload_n (1), 1) := by decide +kernel
theorem d_Model_lane_143 : decode prog_10_method_42_code 143 = .ok (.istore_n (3), 1) := by decide +kernel
theorem d_Model_lane_144 : decode prog_10_method_42_code 144 = .ok (.iconst (0), 1) := by decide +kernel
theorem d_Model_lane_145 : decode prog_10_method_42_code 145 = .ok (.istore (4), 2) := by decide +kernel
theorem d_Model_lane_147 : decode prog_10_method_42_code 147 = .ok (.iload (4), 2) := by decide +kernel
theorem d_Model_lane_149 : decode prog_10_method_42_code 149 = .ok (.aload_n (0), 1) := by decide +kernel
theorem d_Model_lane_150 : decode prog_10_method_42_code 150 = .ok (.getfield (89), 3) := by decide +kernel
theorem d_Model_lane_153 : decode prog_10_method_42_code 153 = .ok (.if_icmp .gt (138), 3) := by decide +kernel
theorem d_Model_lane_156 : decode prog_10_method_42_code 156 = .ok (.iload (4), 2) := by decide +kernel
theorem d_Model_lane_158 : decode prog_10_method_42_code 158 = .ok (.istore (5), 2) := by decide +kernel
theorem d_Model_lane_160 : decode prog_10_method_42_code 160 = .ok (.sipush (1001), 3) := by decide +kernel
theorem d_Model_lane_163 : decode prog_10_method_42_code 163 = .ok (.istore (6), 2) := by decide +kernel
theorem d_Model_lane_165 : decode prog_10_method_42_code 165 = .ok (.iload (5), 2) := by decide +kernel
theorem d_Model_lane_167 : decode prog_10_method_42_code 167 = .ok (.aload_n (0), 1) := by decide +kernel
theorem d_Model_lane_168 : decode prog_10_method_42_code 168 = .ok (.getfield (89), 3) := by decide +kernel
theorem d_Model_lane_171 : decode prog_10_method_42_code 171 = .ok (.if_icmp .gt (49), 3) := by decide +kernel
theorem d_Model_lane_174 : decode prog_10_method_42_code 174 = .ok (.aload_n (0), 1) := by decide +kernel
theorem d_Model_lane_175 : decode prog_10_method_42_code 175 = .ok (.getfield (86), 3) := by decide +kernel
theorem d_Model_lane_178 : decode prog_10_method_42_code 178 = .ok (.iload (5), 2) := by decide +kernel
theorem d_Model_lane_180 : decode prog_10_method_42_code 180 = .ok (.iaload, 1) := by decide +kernel
theorem d_Model_lane_181 : decode prog_10_method_42_code 181 = .ok (.aload_n (0), 1) := by decide +kernel
theorem d_Model_lane_182 : decode prog_10_method_42_code 182 = .ok (.getfield (77), 3) := by decide +kernel
theorem d_Model_lane_185 : decode prog_10_method_42_code 185 = .ok (.if_icmp .ge (35), 3) := by decide +kernel
theorem d_Model_lane_188 : decode prog_10_method_42_code 188 = .ok (.aload_n (0), 1) := by decide +kernel
theorem d_Model_lane_189 : decode prog_10_method_42_code 189 = .ok (.getfield (86), 3) := by decide +kernel
theorem d_Model_lane_192 : decode prog_10_method_42_code 192 = .ok (.iload (5), 2) := by decide +kernel
theorem d_Model_lane_194 : decode prog_10_method_42_code 194 = .ok (.iaload, 1) := by decide +kernel
theorem d_Model_lane_195 : decode prog_10_method_42_code 195 = .ok (.iload (6), 2) := by decide +kernel
theorem d_Model_lane_197 : decode prog_10_method_42_code 197 = .ok (.if_icmp .ge (13), 3) := by decide +kernel
theorem d_Model_lane_200 : decode prog_10_method_42_code 200 = .ok (.aload_n (0), 1) := by decide +kernel
theorem d_Model_lane_201 : decode prog_10_method_42_code 201 = .ok (.getfield (86), 3) := by decide +kernel
theorem d_Model_lane_204 : decode prog_10_method_42_code 204 = .ok (.iload (5), 2) := by decide +kernel
theorem d_Model_lane_206 : decode prog_10_method_42_code 206 = .ok (.iaload, 1) := by decide +kernel
theorem d_Model_lane_207 : decode prog_10_method_42_code 207 = .ok (.goto (5), 3) := by decide +kernel
theorem d_Model_lane_210 : decode prog_10_method_42_code 210 = .ok (.iload (6), 2) := by decide +kernel
theorem d_Model_lane_212 : decode prog_10_method_42_code 212 = .ok (.istore (6), 2) := by decide +kernel
theorem d_Model_lane_214 : decode prog_10_method_42_code 214 = .ok (.iinc (5) (1), 3) := by decide +kernel
theorem d_Model_lane_217 : decode prog_10_method_42_code 217 = .ok (.goto (-52), 3) := by decide +kernel
theorem d_Model_lane_220 : decode prog_10_method_42_code 220 = .ok (.iload (5), 2) := by decide +kernel
theorem d_Model_lane_222 : decode prog_10_method_42_code 222 = .ok (.iload (4), 2) := by decide +kernel
theorem d_Model_lane_224 : decode prog_10_method_42_code 224 = .ok (.if_icmp .le (31), 3) := by decide +kernel
theorem d_Model_lane_227 : decode prog_10_method_42_code 227 = .ok (.iload_n (3), 1) := by decide +kernel
theorem d_Model_lane_228 : decode prog_10_method_42_code 228 = .ok (.ifCond .ne (27), 3) := by decide +kernel
theorem d_Model_lane_231 : decode prog_10_method_42_code 231 = .ok (.iload_n (2), 1) := by decide +kernel
theorem d_Model_lane_232 : decode prog_10_method_42_code 232 = .ok (.ifCond .ne (8), 3) := by decide +kernel
theorem d_Model_lane_235 : decode prog_10_method_42_code 235 = .ok (.iload (4), 2) := by decide +kernel
theorem d_Model_lane_237 : decode prog_10_method_42_code 237 = .ok (.goto (17), 3) := by decide +kernel
theorem d_Model_lane_240 : decode prog_10_method_42_code 240 = .ok (.iload_n (2), 1) := by decide +kernel
theorem d_Model_lane_241 : decode prog_10_method_42_code 241 = .ok (.iconst (1), 1) := by decide +kernel
theorem d_Model_lane_242 : decode prog_10_method_42_code 242 = .ok (.if_icmp .ne (10), 3) := by decide +kernel
theorem d_Model_lane_245 : decode prog_10_method_42_code 245 = .ok (.iload (5), 2) := by decide +kernel
theorem d_Model_lane_247 : decode prog_10_method_42_code 247 = .ok (.iconst (1), 1) := by decide +kernel
theorem d_Model_lane_248 : decode prog_10_method_42_code 248 = .ok (.isub, 1) := by decide +kernel
theorem d_Model_lane_249 : decode prog_10_method_42_code 249 = .ok (.goto (5), 3) := by decide +kernel
theorem d_Model_lane_252 : decode prog_10_method_42_code 252 = .ok (.iload (6), 2) := by decide +kernel
theorem d_Model_lane_254 : decode prog_10_method_42_code 254 = .ok (.ireturn, 1) := by decide +kernel
theorem d_Model_lane_255 : decode prog_10_method_42_code 255 = .ok (.iload (5), 2) := by decide +kernel
theorem d_Model_lane_257 : decode prog_10_method_42_code 257 = .ok (.iload (4), 2) := by decide +kernel
theorem d_Model_lane_259 : decode prog_10_method_42_code 259 = .ok (.if_icmp .le (9), 3) := by decide +kernel
theorem d_Model_lane_262 : decode prog_10_method_42_code 262 = .ok (.iload_n (3), 1) := by decide +kernel
theorem d_Model_lane_263 : decode prog_10_method_42_code 263 = .ok (.iconst (1), 1) := by decide +kernel
theorem d_Model_lane_264 : decode prog_10_method_42_code 264 = .ok (.isub, 1) := by decide +kernel
theorem d_Model_lane_265 : decode prog_10_method_42_code 265 = .ok (.goto (4), 3) := by decide +kernel
theorem d_Model_lane_268 : decode prog_10_method_42_code 268 = .ok (.iload_n (3), 1) := by decide +kernel
theorem d_Model_lane_269 : decode prog_10_method_42_code 269 = .ok (.istore_n (3), 1) := by decide +kernel
theorem d_Model_lane_270 : decode prog_10_method_42_code 270 = .ok (.iload (5), 2) := by decide +kernel
theorem d_Model_lane_272 : decode prog_10_method_42_code 272 = .ok (.iload (4), 2) := by decide +kernel
theorem d_Model_lane_274 : decode prog_10_method_42_code 274 = .ok (.if_icmp .le (8), 3) := by decide +kernel
theorem d_Model_lane_277 : decode prog_10_method_42_code 277 = .ok (.iload (5), 2) := by decide +kernel
theorem d_Model_lane_279 : decode prog_10_method_42_code 279 = .ok (.goto (7), 3) := by decide +kernel
theorem d_Model_lane_282 : decode prog_10_method_42_code 282 = .ok (.iload (4), 2) := by decide +kernel
theorem d_Model_lane_284 : decode prog_10_method_42_code 284 = .ok (.iconst (1), 1) := by decide +kernel
theorem d_Model_lane_285 : decode prog_10_method_42_code 285 = .ok (.iadd, 1) := by decide +kernel
theorem d_Model_lane_286 : decode prog_10_method_42_code 286 = .ok (.istore (4), 2) := by decide +kernel
theorem d_Model_lane_288 : decode prog_10_method_42_code 288 = .ok (.goto (-141), 3) := by decide +kernel
theorem d_Model_lane_291 : decode prog_10_method_42_code 291 = .ok (.iconst (-1), 1) := by decide +kernel
theorem d_Model_lane_292 : decode prog_10_method_42_code 292 = .ok (.ireturn, 1) := by decide +kernel
set_option maxHeartbeats 4000000 in
set_option maxRecDepth 100000 in
theorem k_Model_lane_286 (N : Nat) {X : zX} (C : zB X prog_10_method_42_code 7 R_Model rm_Model_lane) {h0 : zH} {p : Int32 × zH} (E : zR X (some .int) rm_Model_lane h0 (some (.int p.1)) p.2) {rc147 : Nat → Int32 → Int32 → Int32 → zH → Option (Int32 × zH)} (H147 : ∀ (x0 : Nat) (x2 : Int32) (x3 : Int32) (x4 : Int32) (h : zH), rc147 x0 x2 x3 x4 h = some p → Zt X 7 0 0 147 [(0, .ref x0), (2, .int x2), (3, .int x3), (4, .int x4)] [] h) : ∀ (x0 : Nat) (x2 : Int32) (x3 : Int32) (s0 : Int32) (h : zH), f_Model_lane_286 N rc147 x0 x2 x3 s0 h = some p → Zt X 7 0 0 286 [(0, .ref x0), (2, .int x2), (3, .int x3)] [.int s0] h := by
  intro x0 x2 x3 s0 h hf
  unfold f_Model_lane_286 at hf
  refine z_istore C (lv' := [(4, .int s0), (0, .ref x0), (2, .int x2), (3, .int x3)]) d_Model_lane_286 (by decide) rfl ?_
  refine z_goto (tgt := 147) C d_Model_lane_288 (by decide) ?_
  refine z_sub [1, 2, 3, 0] rfl ?_
  exact H147 _ _ _ _ _ hf

set_option maxHeartbeats 4000000 in
set_option maxRecDepth 100000 in
theorem k_Model_lane_269 (N : Nat) {X : zX} (C : zB X prog_10_method_42_code 7 R_Model rm_Model_lane) {h0 : zH} {p : Int32 × zH} (E : zR X (some .int) rm_Model_lane h0 (some (.int p.1)) p.2) {rc147 : Nat → Int32 → Int32 → Int32 → zH → Option (Int32 × zH)} (H147 : ∀ (x0 : Nat) (x2 : Int32) (x3 : Int32) (x4 : Int32) (h : zH), rc147 x0 x2 x3 x4 h = some p → Zt X 7 0 0 147 [(0, .ref x0), (2, .int x2), (3, .int x3), (4, .int x4)] [] h) : ∀ (x0 : Nat) (x2 : Int32) (x4 : Int32) (x5 : Int32) (s0 : Int32) (h : zH), f_Model_lane_269 N rc147 x0 x2 x4 x5 s0 h = some p → Zt X 7 0 0 269 [(0, .ref x0), (2, .int x2), (4, .int x4), (5, .int x5)] [.int s0] h := by
  intro x0 x2 x4 x5 s0 h hf
  unfold f_Model_lane_269 at hf
  refine z_istore_n C (lv' := [(3, .int s0), (0, .ref x0), (2, .int x2), (4, .int x4), (5, .int x5)]) d_Model_lane_269 rfl (by decide) rfl ?_
  refine z_iload C 4 d_Model_lane_270 rfl ?_
  refine z_iload C 3 d_Model_lane_272 rfl ?_
  refine z_ic_le (tgt := 282) C d_Model_lane_274 (by decide) hf (fun hf => ?_) (fun hf => ?_)
  · refine z_iload C 3 d_Model_lane_282 rfl ?_
    refine z_iconst C (v := (1 : Int32)) d_Model_lane_284 (by decide) ?_
    refine z_iadd C d_Model_lane_285 ?_
    refine z_sub [1, 2, 0] rfl ?_
    exact k_Model_lane_286 N C E H147 _ _ _ _ _ hf
  · refine z_iload C 4 d_Model_lane_277 rfl ?_
    refine z_goto (tgt := 286) C d_Model_lane_279 (by decide) ?_
    refine z_sub [1, 2, 0] rfl ?_
    exact k_Model_lane_286 N C E H147 _ _ _ _ _ hf

set_option maxHeartbeats 4000000 in
set_option maxRecDepth 100000 in
theorem k_Model_lane_255 (N : Nat) {X : zX} (C : zB X prog_10_method_42_code 7 R_Model rm_Model_lane) {h0 : zH} {p : Int32 × zH} (E : zR X (some .int) rm_Model_lane h0 (some (.int p.1)) p.2) {rc147 : Nat → Int32 → Int32 → Int32 → zH → Option (Int32 × zH)} (H147 : ∀ (x0 : Nat) (x2 : Int32) (x3 : Int32) (x4 : Int32) (h : zH), rc147 x0 x2 x3 x4 h = some p → Zt X 7 0 0 147 [(0, .ref x0), (2, .int x2), (3, .int x3), (4, .int x4)] [] h) : ∀ (x0 : Nat) (x2 : Int32) (x3 : Int32) (x4 : Int32) (x5 : Int32) (h : zH), f_Model_lane_255 N rc147 x0 x2 x3 x4 x5 h = some p → Zt X 7 0 0 255 [(0, .ref x0), (2, .int x2), (3, .int x3), (4, .int x4), (5, .int x5)] [] h := by
  intro x0 x2 x3 x4 x5 h hf
  unfold f_Model_lane_255 at hf
  refine z_iload C 4 d_Model_lane_255 rfl ?_
  refine z_iload C 3 d_Model_lane_257 rfl ?_
  refine z_ic_le (tgt := 268) C d_Model_lane_259 (by decide) hf (fun hf => ?_) (fun hf => ?_)
  · refine z_iload_n C 2 d_Model_lane_268 rfl rfl ?_
    refine z_sub [0, 1, 3, 4] rfl ?_
    exact k_Model_lane_269 N C E H147 _ _ _ _ _ _ hf
  · refine z_iload_n C 2 d_Model_lane_262 rfl rfl ?_
    refine z_iconst C (v := (1 : Int32)) d_Model_lane_263 (by decide) ?_
    refine z_isub C d_Model_lane_264 ?_
    refine z_goto (tgt := 269) C d_Model_lane_265 (by decide) ?_
    refine z_sub [0, 1, 3, 4] rfl ?_
    exact k_Model_lane_269 N C E H147 _ _ _ _ _ _ hf

set_option maxHeartbeats 4000000 in
set_option maxRecDepth 100000 in
theorem k_Model_lane_220 (N : Nat) {X : zX} (C : zB X prog_10_method_42_code 7 R_Model rm_Model_lane) {h0 : zH} {p : Int32 × zH} (E : zR X (some .int) rm_Model_lane h0 (some (.int p.1)) p.2) {rc147 : Nat → Int32 → Int32 → Int32 → zH → Option (Int32 × zH)} (H147 : ∀ (x0 : Nat) (x2 : Int32) (x3 : Int32) (x4 : Int32) (h : zH), rc147 x0 x2 x3 x4 h = some p → Zt X 7 0 0 147 [(0, .ref x0), (2, .int x2), (3, .int x3), (4, .int x4)] [] h) : ∀ (x0 : Nat) (x2 : Int32) (x3 : Int32) (x4 : Int32) (x5 : Int32) (x6 : Int32) (h : zH), f_Model_lane_220 N rc147 x0 x2 x3 x4 x5 x6 h = some p → Zt X 7 0 0 220 [(0, .ref x0), (2, .int x2), (3, .int x3), (4, .int x4), (5, .int x5), (6, .int x6)] [] h := by
  intro x0 x2 x3 x4 x5 x6 h hf
  unfold f_Model_lane_220 at hf
  refine z_iload C 4 d_Model_lane_220 rfl ?_
  refine z_iload C 3 d_Model_lane_222 rfl ?_
  refine z_ic_le (tgt := 255) C d_Model_lane_224 (by decide) hf (fun hf => ?_) (fun hf => ?_)
  · refine z_sub [0, 1, 2, 3, 4] rfl ?_
    exact k_Model_lane_255 N C E H147 _ _ _ _ _ _ hf
  · refine z_iload_n C 2 d_Model_lane_227 rfl rfl ?_
    refine z_if_ne (tgt := 255) C d_Model_lane_228 (by decide) hf (fun hf => ?_) (fun hf => ?_)
    · refine z_sub [0, 1, 2, 3, 4] rfl ?_
      exact k_Model_lane_255 N C E H147 _ _ _ _ _ _ hf
    · refine z_iload_n C 1 d_Model_lane_231 rfl rfl ?_
      refine z_if_ne (tgt := 240) C d_Model_lane_232 (by decide) hf (fun hf => ?_) (fun hf => ?_)
      · refine z_iload_n C 1 d_Model_lane_240 rfl rfl ?_
        refine z_iconst C (v := (1 : Int32)) d_Model_lane_241 (by decide) ?_
        refine z_ic_ne (tgt := 252) C d_Model_lane_242 (by decide) hf (fun hf => ?_) (fun hf => ?_)
        · refine z_iload C 5 d_Model_lane_252 rfl ?_
          exact z_iret C E (Nat.le_of_ble_eq_true rfl) (Nat.le_of_ble_eq_true rfl) d_Model_lane_254 hf
        · refine z_iload C 4 d_Model_lane_245 rfl ?_
          refine z_iconst C (v := (1 : Int32)) d_Model_lane_247 (by decide) ?_
          refine z_isub C d_Model_lane_248 ?_
          refine z_goto (tgt := 254) C d_Model_lane_249 (by decide) ?_
          exact z_iret C E (Nat.le_of_ble_eq_true rfl) (Nat.le_of_ble_eq_true rfl) d_Model_lane_254 hf
      · refine z_iload C 3 d_Model_lane_235 rfl ?_
        refine z_goto (tgt := 254) C d_Model_lane_237 (by decide) ?_
        exact z_iret C E (Nat.le_of_ble_eq_true rfl) (Nat.le_of_ble_eq_true rfl) d_Model_lane_254 hf

set_option maxHeartbeats 4000000 in
set_option maxRecDepth 100000 in
theorem k_Model_lane_212 (N : Nat) {X : zX} (C : zB X prog_10_method_42_code 7 R_Model rm_Model_lane) {h0 : zH} {p : Int32 × zH} (E : zR X (some .int) rm_Model_lane h0 (some (.int p.1)) p.2) {rc147 : Nat → Int32 → Int32 → Int32 → zH → Option (Int32 × zH)} (H147 : ∀ (x0 : Nat) (x2 : Int32) (x3 : Int32) (x4 : Int32) (h : zH), rc147 x0 x2 x3 x4 h = some p → Zt X 7 0 0 147 [(0, .ref x0), (2, .int x2), (3, .int x3), (4, .int x4)] [] h) {rc165 : Nat → Int32 → Int32 → Int32 → Int32 → Int32 → zH → Option (Int32 × zH)} (H165 : ∀ (x0 : Nat) (x2 : Int32) (x3 : Int32) (x4 : Int32) (x5 : Int32) (x6 : Int32) (h : zH), rc165 x0 x2 x3 x4 x5 x6 h = some p → Zt X 7 0 0 165 [(0, .ref x0), (2, .int x2), (3, .int x3), (4, .int x4), (5, .int x5), (6, .int x6)] [] h) : ∀ (x0 : Nat) (x2 : Int32) (x3 : Int32) (x4 : Int32) (x5 : Int32) (s0 : Int32) (h : zH), f_Model_lane_212 N rc147 rc165 x0 x2 x3 x4 x5 s0 h = some p → Zt X 7 0 0 212 [(0, .ref x0), (2, .int x2), (3, .int x3), (4, .int x4), (5, .int x5)] [.int s0] h := by
  intro x0 x2 x3 x4 x5 s0 h hf
  unfold f_Model_lane_212 at hf
  refine z_istore C (lv' := [(6, .int s0), (0, .ref x0), (2, .int x2), (3, .int x3), (4, .int x4), (5, .int x5)]) d_Model_lane_212 (by decide) rfl ?_
  refine z_iinc C (v := (x5 + (1 : Int32))) (lv' := [(5, .int (x5 + (1 : Int32))), (6, .int s0), (0, .ref x0), (2, .int x2), (3, .int x3), (4, .int x4)]) 5 d_Model_lane_214 rfl (by rfl) (by decide) rfl ?_
  refine z_goto (tgt := 165) C d_Model_lane_217 (by decide) ?_
  refine z_sub [2, 3, 4, 5, 0, 1] rfl ?_
  exact H165 _ _ _ _ _ _ _ hf

set_option maxHeartbeats 4000000 in
set_option maxRecDepth 100000 in
theorem k_Model_lane_165 (N : Nat) {X : zX} (C : zB X prog_10_method_42_code 7 R_Model rm_Model_lane) {h0 : zH} {p : Int32 × zH} (E : zR X (some .int) rm_Model_lane h0 (some (.int p.1)) p.2) {rc147 : Nat → Int32 → Int32 → Int32 → zH → Option (Int32 × zH)} (H147 : ∀ (x0 : Nat) (x2 : Int32) (x3 : Int32) (x4 : Int32) (h : zH), rc147 x0 x2 x3 x4 h = some p → Zt X 7 0 0 147 [(0, .ref x0), (2, .int x2), (3, .int x3), (4, .int x4)] [] h) : ∀ n : Nat, ∀ (x0 : Nat) (x2 : Int32) (x3 : Int32) (x4 : Int32) (x5 : Int32) (x6 : Int32) (h : zH), f_Model_lane_165 N rc147 n x0 x2 x3 x4 x5 x6 h = some p → Zt X 7 0 0 165 [(0, .ref x0), (2, .int x2), (3, .int x3), (4, .int x4), (5, .int x5), (6, .int x6)] [] h := by
  intro n
  induction n with
  | zero => intro x0 x2 x3 x4 x5 x6 h hf; cases hf
  | succ n ih =>
  intro x0 x2 x3 x4 x5 x6 h hf
  have H165 := ih
  replace hf : b_Model_lane_165 N rc147 (f_Model_lane_165 N rc147 n) x0 x2 x3 x4 x5 x6 h = some p := hf
  unfold b_Model_lane_165 at hf
  refine z_iload C 4 d_Model_lane_165 rfl ?_
  refine z_aload_n C 0 d_Model_lane_167 rfl rfl ?_
  refine z_getI C 0 0 rfl in_Model (by decide) w_741 rfl d_Model_lane_168 hf (fun v1 hf => ?_)
  refine z_ic_gt (tgt := 220) C d_Model_lane_171 (by decide) hf (fun hf => ?_) (fun hf => ?_)
  · refine z_sub [0, 1, 2, 3, 4, 5] rfl ?_
    exact k_Model_lane_220 N C E H147 _ _ _ _ _ _ _ hf
  · refine z_aload_n C 0 d_Model_lane_174 rfl rfl ?_
    refine z_getR C 0 34 rfl in_Model (by decide) w_775 rfl d_Model_lane_175 hf (fun v2 hf => ?_)
    refine z_iload C 4 d_Model_lane_178 rfl ?_
    refine z_iald C d_Model_lane_180 hf (fun v3 hf => ?_)
    refine z_aload_n C 0 d_Model_lane_181 rfl rfl ?_
    refine z_getI C 0 31 rfl in_Model (by decide) w_772 rfl d_Model_lane_182 hf (fun v4 hf => ?_)
    refine z_ic_ge (tgt := 220) C d_Model_lane_185 (by decide) hf (fun hf => ?_) (fun hf => ?_)
    · refine z_sub [0, 1, 2, 3, 4, 5] rfl ?_
      exact k_Model_lane_220 N C E H147 _ _ _ _ _ _ _ hf
    · refine z_aload_n C 0 d_Model_lane_188 rfl rfl ?_
      refine z_getR C 0 34 rfl in_Model (by decide) w_775 rfl d_Model_lane_189 hf (fun v5 hf => ?_)
      refine z_iload C 4 d_Model_lane_192 rfl ?_
      refine z_iald C d_Model_lane_194 hf (fun v6 hf => ?_)
      refine z_iload C 5 d_Model_lane_195 rfl ?_
      refine z_ic_ge (tgt := 210) C d_Model_lane_197 (by decide) hf (fun hf => ?_) (fun hf => ?_)
      · refine z_iload C 5 d_Model_lane_210 rfl ?_
        refine z_sub [0, 1, 2, 3, 4] rfl ?_
        exact k_Model_lane_212 N C E H147 H165 _ _ _ _ _ _ _ hf
      · refine z_aload_n C 0 d_Model_lane_200 rfl rfl ?_
        refine z_getR C 0 34 rfl in_Model (by decide) w_775 rfl d_Model_lane_201 hf (fun v7 hf => ?_)
        refine z_iload C 4 d_Model_lane_204 rfl ?_
        refine z_iald C d_Model_lane_206 hf (fun v8 hf => ?_)
        refine z_goto (tgt := 212) C d_Model_lane_207 (by decide) ?_
        refine z_sub [0, 1, 2, 3, 4] rfl ?_
        exact k_Model_lane_212 N C E H147 H165 _ _ _ _ _ _ _ hf

set_option maxHeartbeats 4000000 in
set_option maxRecDepth 100000 in
theorem k_Model_lane_147 (N : Nat) {X : zX} (C : zB X prog_10_method_42_code 7 R_Model rm_Model_lane) {h0 : zH} {p : Int32 × zH} (E : zR X (some .int) rm_Model_lane h0 (some (.int p.1)) p.2) : ∀ n : Nat, ∀ (x0 : Nat) (x2 : Int32) (x3 : Int32) (x4 : Int32) (h : zH), f_Model_lane_147 N n x0 x2 x3 x4 h = some p → Zt X 7 0 0 147 [(0, .ref x0), (2, .int x2), (3, .int x3), (4, .int x4)] [] h := by
  intro n
  induction n with
  | zero => intro x0 x2 x3 x4 h hf; cases hf
  | succ n ih =>
  intro x0 x2 x3 x4 h hf
  have H147 := ih
  replace hf : b_Model_lane_147 N (f_Model_lane_147 N n) x0 x2 x3 x4 h = some p := hf
  unfold b_Model_lane_147 at hf
  refine z_iload C 3 d_Model_lane_147 rfl ?_
  refine z_aload_n C 0 d_Model_lane_149 rfl rfl ?_
  refine z_getI C 0 0 rfl in_Model (by decide) w_741 rfl d_Model_lane_150 hf (fun v9 hf => ?_)
  refine z_ic_gt (tgt := 291) C d_Model_lane_153 (by decide) hf (fun hf => ?_) (fun hf => ?_)
  · refine z_iconst C (v := (-1 : Int32)) d_Model_lane_291 (by decide) ?_
    exact z_iret C E (Nat.le_of_ble_eq_true rfl) (Nat.le_of_ble_eq_true rfl) d_Model_lane_292 hf
  · refine z_iload C 3 d_Model_lane_156 rfl ?_
    refine z_istore C (lv' := [(5, .int x4), (0, .ref x0), (2, .int x2), (3, .int x3), (4, .int x4)]) d_Model_lane_158 (by decide) rfl ?_
    refine z_sipush C (v := (1001 : Int32)) d_Model_lane_160 (by decide) ?_
    refine z_istore C (lv' := [(6, .int (1001 : Int32)), (5, .int x4), (0, .ref x0), (2, .int x2), (3, .int x3), (4, .int x4)]) d_Model_lane_163 (by decide) rfl ?_
    refine z_sub [2, 3, 4, 5, 1, 0] rfl ?_
    exact k_Model_lane_165 N C E H147 N _ _ _ _ _ _ _ hf

set_option maxHeartbeats 4000000 in
set_option maxRecDepth 100000 in
theorem k_Model_lane_135 (N : Nat) {X : zX} (C : zB X prog_10_method_42_code 7 R_Model rm_Model_lane) {h0 : zH} {p : Int32 × zH} (E : zR X (some .int) rm_Model_lane h0 (some (.int p.1)) p.2) {rc34 : Nat → Int32 → Int32 → Int32 → zH → Option (Int32 × zH)} (H34 : ∀ (x0 : Nat) (x1 : Int32) (x2 : Int32) (x3 : Int32) (h : zH), rc34 x0 x1 x2 x3 h = some p → Zt X 7 0 0 34 [(0, .ref x0), (1, .int x1), (2, .int x2), (3, .int x3)] [] h) : ∀ (x0 : Nat) (x1 : Int32) (x2 : Int32) (x3 : Int32) (s0 : Nat) (s1 : Int32) (s2 : Int32) (h : zH), f_Model_lane_135 N rc34 x0 x1 x2 x3 s0 s1 s2 h = some p → Zt X 7 0 0 135 [(0, .ref x0), (1, .int x1), (2, .int x2), (3, .int x3)] [.int s2, .int s1, .ref s0] h := by
  intro x0 x1 x2 x3 s0 s1 s2 h hf
  unfold f_Model_lane_135 at hf
  refine z_iast C d_Model_lane_135 hf (fun h10 hf => ?_)
  refine z_iinc C (v := (x3 + (1 : Int32))) (lv' := [(3, .int (x3 + (1 : Int32))), (0, .ref x0), (1, .int x1), (2, .int x2)]) 3 d_Model_lane_136 rfl (by rfl) (by decide) rfl ?_
  refine z_goto (tgt := 34) C d_Model_lane_139 (by decide) ?_
  refine z_sub [1, 2, 3, 0] rfl ?_
  exact H34 _ _ _ _ _ hf

set_option maxHeartbeats 4000000 in
set_option maxRecDepth 100000 in
theorem k_Model_lane_101 (N : Nat) {X : zX} (C : zB X prog_10_method_42_code 7 R_Model rm_Model_lane) {h0 : zH} {p : Int32 × zH} (E : zR X (some .int) rm_Model_lane h0 (some (.int p.1)) p.2) {rc34 : Nat → Int32 → Int32 → Int32 → zH → Option (Int32 × zH)} (H34 : ∀ (x0 : Nat) (x1 : Int32) (x2 : Int32) (x3 : Int32) (h : zH), rc34 x0 x1 x2 x3 h = some p → Zt X 7 0 0 34 [(0, .ref x0), (1, .int x1), (2, .int x2), (3, .int x3)] [] h) : ∀ (x0 : Nat) (x1 : Int32) (x2 : Int32) (x3 : Int32) (s0 : Int32) (h : zH), f_Model_lane_101 N rc34 x0 x1 x2 x3 s0 h = some p → Zt X 7 0 0 101 [(0, .ref x0), (1, .int x1), (2, .int x2), (3, .int x3)] [.int s0] h := by
  intro x0 x1 x2 x3 s0 h hf
  unfold f_Model_lane_101 at hf
  refine z_istore C (lv' := [(5, .int s0), (0, .ref x0), (1, .int x1), (2, .int x2), (3, .int x3)]) d_Model_lane_101 (by decide) rfl ?_
  refine z_aload_n C 1 d_Model_lane_103 rfl rfl ?_
  refine z_getR C 0 34 rfl in_Model (by decide) w_775 rfl d_Model_lane_104 hf (fun v11 hf => ?_)
  refine z_iload_n C 4 d_Model_lane_107 rfl rfl ?_
  refine z_iload C 0 d_Model_lane_108 rfl ?_
  refine z_if_ge (tgt := 117) C d_Model_lane_110 (by decide) hf (fun hf => ?_) (fun hf => ?_)
  · refine z_iload C 0 d_Model_lane_117 rfl ?_
    refine z_aload_n C 1 d_Model_lane_119 rfl rfl ?_
    refine z_getI C 0 30 rfl in_Model (by decide) w_771 rfl d_Model_lane_120 hf (fun v12 hf => ?_)
    refine z_ic_le (tgt := 133) C d_Model_lane_123 (by decide) hf (fun hf => ?_) (fun hf => ?_)
    · refine z_iload C 0 d_Model_lane_133 rfl ?_
      refine z_sub [1, 2, 3, 4] rfl ?_
      exact k_Model_lane_135 N C E H34 _ _ _ _ _ _ _ _ hf
    · refine z_aload_n C 1 d_Model_lane_126 rfl rfl ?_
      refine z_getI C 0 30 rfl in_Model (by decide) w_771 rfl d_Model_lane_127 hf (fun v13 hf => ?_)
      refine z_goto (tgt := 135) C d_Model_lane_130 (by decide) ?_
      refine z_sub [1, 2, 3, 4] rfl ?_
      exact k_Model_lane_135 N C E H34 _ _ _ _ _ _ _ _ hf
  · refine z_iconst C (v := (0 : Int32)) d_Model_lane_113 (by decide) ?_
    refine z_goto (tgt := 135) C d_Model_lane_114 (by decide) ?_
    refine z_sub [1, 2, 3, 4] rfl ?_
    exact k_Model_lane_135 N C E H34 _ _ _ _ _ _ _ _ hf

set_option maxHeartbeats 4000000 in
set_option maxRecDepth 100000 in
theorem k_Model_lane_34 (N : Nat) {X : zX} (C : zB X prog_10_method_42_code 7 R_Model rm_Model_lane) {h0 : zH} {p : Int32 × zH} (E : zR X (some .int) rm_Model_lane h0 (some (.int p.1)) p.2) : ∀ n : Nat, ∀ (x0 : Nat) (x1 : Int32) (x2 : Int32) (x3 : Int32) (h : zH), f_Model_lane_34 N n x0 x1 x2 x3 h = some p → Zt X 7 0 0 34 [(0, .ref x0), (1, .int x1), (2, .int x2), (3, .int x3)] [] h := by
  intro n
  induction n with
  | zero => intro x0 x1 x2 x3 h hf; cases hf
  | succ n ih =>
  intro x0 x1 x2 x3 h hf
  have H34 := ih
  replace hf : b_Model_lane_34 N (f_Model_lane_34 N n) x0 x1 x2 x3 h = some p := hf
  unfold b_Model_lane_34 at hf
  refine z_iload_n C 3 d_Model_lane_34 rfl rfl ?_
  refine z_aload_n C 0 d_Model_lane_35 rfl rfl ?_
  refine z_getI C 0 0 rfl in_Model (by decide) w_741 rfl d_Model_lane_36 hf (fun v14 hf => ?_)
  refine z_ic_gt (tgt := 142) C d_Model_lane_39 (by decide) hf (fun hf => ?_) (fun hf => ?_)
  · refine z_iload_n C 1 d_Model_lane_142 rfl rfl ?_
    refine z_istore_n C (lv' := [(3, .int x1), (0, .ref x0), (1, .int x1), (2, .int x2)]) d_Model_lane_143 rfl (by decide) rfl ?_
    refine z_iconst C (v := (0 : Int32)) d_Model_lane_144 (by decide) ?_
    refine z_istore C (lv' := [(4, .int (0 : Int32)), (3, .int x1), (0, .ref x0), (1, .int x1), (2, .int x2)]) d_Model_lane_145 (by decide) rfl ?_
    refine z_sub [2, 4, 1, 0] rfl ?_
    exact k_Model_lane_147 N C E N _ _ _ _ _ hf
  · refine z_aload_n C 0 d_Model_lane_42 rfl rfl ?_
    refine z_getR C 0 25 rfl in_Model (by decide) w_766 rfl d_Model_lane_43 hf (fun v15 hf => ?_)
    refine z_iload_n C 3 d_Model_lane_46 rfl rfl ?_
    refine z_iald C d_Model_lane_47 hf (fun v16 hf => ?_)
    refine z_aload_n C 0 d_Model_lane_48 rfl rfl ?_
    refine z_getR C 0 25 rfl in_Model (by decide) w_766 rfl d_Model_lane_49 hf (fun v17 hf => ?_)
    refine z_iload_n C 3 d_Model_lane_52 rfl rfl ?_
    refine z_iconst C (v := (1 : Int32)) d_Model_lane_53 (by decide) ?_
    refine z_isub C d_Model_lane_54 ?_
    refine z_iald C d_Model_lane_55 hf (fun v18 hf => ?_)
    refine z_isub C d_Model_lane_56 ?_
    refine z_istore C (lv' := [(4, .int (v16 - v18)), (0, .ref x0), (1, .int x1), (2, .int x2), (3, .int x3)]) d_Model_lane_57 (by decide) rfl ?_
    refine z_iload C 0 d_Model_lane_59 rfl ?_
    refine z_if_le (tgt := 83) C d_Model_lane_61 (by decide) hf (fun hf => ?_) (fun hf => ?_)
    · refine z_aload_n C 1 d_Model_lane_83 rfl rfl ?_
      refine z_getR C 0 34 rfl in_Model (by decide) w_775 rfl d_Model_lane_84 hf (fun v19 hf => ?_)
      refine z_iload_n C 4 d_Model_lane_87 rfl rfl ?_
      refine z_iconst C (v := (1 : Int32)) d_Model_lane_88 (by decide) ?_
      refine z_isub C d_Model_lane_89 ?_
      refine z_iald C d_Model_lane_90 hf (fun v20 hf => ?_)
      refine z_iconst C (v := (1 : Int32)) d_Model_lane_91 (by decide) ?_
      refine z_iload C 0 d_Model_lane_92 rfl ?_
      refine z_isub C d_Model_lane_94 ?_
      refine z_aload_n C 1 d_Model_lane_95 rfl rfl ?_
      refine z_getI C 0 33 rfl in_Model (by decide) w_774 rfl d_Model_lane_96 hf (fun v21 hf => ?_)
      refine z_imul C d_Model_lane_99 ?_
      refine z_iadd C d_Model_lane_100 ?_
      refine z_sub [1, 2, 3, 4] rfl ?_
      exact k_Model_lane_101 N C E H34 _ _ _ _ _ _ hf
    · refine z_aload_n C 1 d_Model_lane_64 rfl rfl ?_
      refine z_getR C 0 34 rfl in_Model (by decide) w_775 rfl d_Model_lane_65 hf (fun v22 hf => ?_)
      refine z_iload_n C 4 d_Model_lane_68 rfl rfl ?_
      refine z_iconst C (v := (1 : Int32)) d_Model_lane_69 (by decide) ?_
      refine z_isub C d_Model_lane_70 ?_
      refine z_iald C d_Model_lane_71 hf (fun v23 hf => ?_)
      refine z_iload C 0 d_Model_lane_72 rfl ?_
      refine z_aload_n C 1 d_Model_lane_74 rfl rfl ?_
      refine z_getI C 0 32 rfl in_Model (by decide) w_773 rfl d_Model_lane_75 hf (fun v24 hf => ?_)
      refine z_imul C d_Model_lane_78 ?_
      refine z_isub C d_Model_lane_79 ?_
      refine z_goto (tgt := 101) C d_Model_lane_80 (by decide) ?_
      refine z_sub [1, 2, 3, 4] rfl ?_
      exact k_Model_lane_101 N C E H34 _ _ _ _ _ _ hf

set_option maxHeartbeats 4000000 in
set_option maxRecDepth 100000 in
theorem k_Model_lane (N : Nat) {X : zX} (C : zB X prog_10_method_42_code 7 R_Model rm_Model_lane) {h0 : zH} {p : Int32 × zH} (E : zR X (some .int) rm_Model_lane h0 (some (.int p.1)) p.2) : ∀ (x0 : Nat) (x1 : Int32) (x2 : Int32) (h : zH), f_Model_lane N x0 x1 x2 h = some p → Zt X 7 0 0 0 [(0, .ref x0), (1, .int x1), (2, .int x2)] [] h := by
  intro x0 x1 x2 h hf
  unfold f_Model_lane at hf
  refine z_aload_n C 0 d_Model_lane_0 rfl rfl ?_
  refine z_getI C 0 24 rfl in_Model (by decide) w_765 rfl d_Model_lane_1 hf (fun v25 hf => ?_)
  refine z_if_eq (tgt := 20) C d_Model_lane_4 (by decide) hf (fun hf => ?_) (fun hf => ?_)
  · refine z_iconst C (v := (-1 : Int32)) d_Model_lane_20 (by decide) ?_
    exact z_iret C E (Nat.le_of_ble_eq_true rfl) (Nat.le_of_ble_eq_true rfl) d_Model_lane_21 hf
  · refine z_iload_n C 1 d_Model_lane_7 rfl rfl ?_
    refine z_if_lt (tgt := 20) C d_Model_lane_8 (by decide) hf (fun hf => ?_) (fun hf => ?_)
    · refine z_iconst C (v := (-1 : Int32)) d_Model_lane_20 (by decide) ?_
      exact z_iret C E (Nat.le_of_ble_eq_true rfl) (Nat.le_of_ble_eq_true rfl) d_Model_lane_21 hf
    · refine z_iload_n C 2 d_Model_lane_11 rfl rfl ?_
      refine z_if_lt (tgt := 20) C d_Model_lane_12 (by decide) hf (fun hf => ?_) (fun hf => ?_)
      · refine z_iconst C (v := (-1 : Int32)) d_Model_lane_20 (by decide) ?_
        exact z_iret C E (Nat.le_of_ble_eq_true rfl) (Nat.le_of_ble_eq_true rfl) d_Model_lane_21 hf
      · refine z_iload_n C 2 d_Model_lane_15 rfl rfl ?_
        refine z_iconst C (v := (2 : Int32)) d_Model_lane_16 (by decide) ?_
        refine z_ic_le (tgt := 22) C d_Model_lane_17 (by decide) hf (fun hf => ?_) (fun hf => ?_)
        · refine z_aload_n C 0 d_Model_lane_22 rfl rfl ?_
          refine z_getR C 0 34 rfl in_Model (by decide) w_775 rfl d_Model_lane_23 hf (fun v26 hf => ?_)
          refine z_iconst C (v := (0 : Int32)) d_Model_lane_26 (by decide) ?_
          refine z_aload_n C 0 d_Model_lane_27 rfl rfl ?_
          refine z_getI C 0 30 rfl in_Model (by decide) w_771 rfl d_Model_lane_28 hf (fun v27 hf => ?_)
          refine z_iast C d_Model_lane_31 hf (fun h28 hf => ?_)
          refine z_iconst C (v := (1 : Int32)) d_Model_lane_32 (by decide) ?_
          refine z_istore_n C (lv' := [(3, .int (1 : Int32)), (0, .ref x0), (1, .int x1), (2, .int x2)]) d_Model_lane_33 rfl (by decide) rfl ?_
          refine z_sub [1, 2, 3, 0] rfl ?_
          exact k_Model_lane_34 N C E N _ _ _ _ _ hf
        · refine z_iconst C (v := (-1 : Int32)) d_Model_lane_20 (by decide) ?_
          exact z_iret C E (Nat.le_of_ble_eq_true rfl) (Nat.le_of_ble_eq_true rfl) d_Model_lane_21 hf

theorem c_Model_lane (N : Nat) {l : Launch} {D : va_G} {T : List (ClassId × FieldType)} (hT : T.map (fun q => q.2) = ztl) {x0 : Nat} {x1 : Int32} {x2 : Int32} {h : zH} {p : Int32 × zH} (hf : f_Model_lane N x0 x1 x2 h = some p) : zM l y_Model_lane prog_10_method_42_code 7 (some .int) rm_Model_lane D T [.ref x0, .int x1, .int x2] h (some (.int p.1)) p.2 :=
  z_enter (by decide) hT (Nat.le_of_ble_eq_true rfl) (fun X el eD eT hin C E => k_Model_lane N C E x0 x1 x2 h hf)
