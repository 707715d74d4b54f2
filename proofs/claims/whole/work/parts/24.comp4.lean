/-! ===== LevelTables$Table.filledAt(I)I ===== -/
abbrev y_Table_filledAt : MethodName := ⟨R_Table, "filledAt", "(I)I"⟩
theorem pd_Table_filledAt : y_Table_filledAt.cls ≠ "java/lang/invoke/MethodHandle" ∧ y_Table_filledAt.cls ≠ "java/lang/invoke/VarHandle" ∧ (parseMethodDescriptor y_Table_filledAt.desc).map (fun d => d.parameters.length) = some 1 := ⟨by decide +kernel, by decide +kernel, by decide +kernel⟩
abbrev rm_Table_filledAt : Room := { frames := 1, cells := 0, slots := 0, locals := 21 }
def f_Table_filledAt (N : Nat) (x0 : Nat) (x1 : Int32) (h : zH) : Option (Int32 × zH) :=
  Option.bind (zck (zis h x0 5) (f_Table_isBetween N x0 x1 h)) fun (p1 : Int32 × zH) =>
  (if p1.1 = 0 then
    Option.bind (zgR p1.2 x0 5 2) fun (v2 : Nat) =>
    Option.bind (zaI p1.2 0 v2 x1) fun (v3 : Int32) =>
    Option.bind (zgR p1.2 x0 5 0) fun (v4 : Nat) =>
    Option.bind (zgR p1.2 v4 2 2) fun (v5 : Nat) =>
    Option.bind (zaI p1.2 0 v5 x1) fun (v6 : Int32) =>
    some ((v3 - v6), p1.2)
  else
    some ((0 : Int32), p1.2))
theorem d_Table_filledAt_0 : decode prog_8_method_4_code 0 = .ok (.aload_n (0), 1) := by decide +kernel
theorem d_Table_filledAt_1 : decode prog_8_method_4_code 1 = .ok (.iload_n (1), 1) := by decide +kernel
theorem d_Table_filledAt_2 : decode prog_8_method_4_code 2 = .ok (.invokevirtual (43), 3) := by decide +kernel
theorem d_Table_filledAt_5 : decode prog_8_method_4_code 5 = .ok (.ifCond .eq (7), 3) := by decide +kernel
theorem d_Table_filledAt_8 : decode prog_8_method_4_code 8 = .ok (.iconst (0), 1) := by decide +kernel
theorem d_Table_filledAt_9 : decode prog_8_method_4_code 9 = .ok (.goto (19), 3) := by decide +kernel
theorem d_Table_filledAt_12 : decode prog_8_method_4_code 12 = .ok (.aload_n (0), 1) := by decide +kernel
theorem d_Table_filledAt_13 : decode prog_8_method_4_code 13 = .ok (.getfield (36), 3) := by decide +kernel
theorem d_Table_filledAt_16 : decode prog_8_method_4_code 16 = .ok (.iload_n (1), 1) := by decide +kernel
theorem d_Table_filledAt_17 : decode prog_8_method_4_code 17 = .ok (.iaload, 1) := by decide +kernel
theorem d_Table_filledAt_18 : decode prog_8_method_4_code 18 = .ok (.aload_n (0), 1) := by decide +kernel
theorem d_Table_filledAt_19 : decode prog_8_method_4_code 19 = .ok (.getfield (23), 3) := by decide +kernel
theorem d_Table_filledAt_22 : decode prog_8_method_4_code 22 = .ok (.getfield (47), 3) := by decide +kernel
theorem d_Table_filledAt_25 : decode prog_8_method_4_code 25 = .ok (.iload_n (1), 1) := by decide +kernel
theorem d_Table_filledAt_26 : decode prog_8_method_4_code 26 = .ok (.iaload, 1) := by decide +kernel
theorem d_Table_filledAt_27 : decode prog_8_method_4_code 27 = .ok (.isub, 1) := by decide +kernel
theorem d_Table_filledAt_28 : decode prog_8_method_4_code 28 = .ok (.ireturn, 1) := by decide +kernel
set_option maxHeartbeats 4000000 in
set_option maxRecDepth 100000 in
theorem k_Table_filledAt (N : Nat) {X : zX} (C : zB X prog_8_method_4_code 2 R_Table rm_Table_filledAt) {h0 : zH} {p : Int32 × zH} (E : zR X (some .int) rm_Table_filledAt h0 (some (.int p.1)) p.2) : ∀ (x0 : Nat) (x1 : Int32) (h : zH), f_Table_filledAt N x0 x1 h = some p → Zt X 2 0 0 0 [(0, .ref x0), (1, .int x1)] [] h := by
  intro x0 x1 h hf
  unfold f_Table_filledAt at hf
  refine z_aload_n C 0 d_Table_filledAt_0 rfl rfl ?_
  refine z_iload_n C 1 d_Table_filledAt_1 rfl rfl ?_
  obtain ⟨p1, hc, hf⟩ := Option.bind_eq_some_iff.mp hf
  obtain ⟨hz, hc⟩ := zck_some hc
  refine z_callV C (ci := 5) (c_Table_isBetween N C.2.2.1 hc) rfl hz w_674 w_63 w_671 w_672 w_673 pd_Table_isBetween rfl ⟨(Nat.le_of_ble_eq_true rfl), (Nat.le_of_ble_eq_true rfl)⟩ ⟨(Nat.le_of_ble_eq_true rfl), (Nat.le_of_ble_eq_true rfl)⟩ rfl (Nat.le_of_ble_eq_true rfl) d_Table_filledAt_2 (k' := 0) (n' := 0) (stk' := [.int p1.1]) rfl rfl rfl ?_
  refine z_if_eq (tgt := 12) C d_Table_filledAt_5 (by decide) hf (fun hf => ?_) (fun hf => ?_)
  · refine z_aload_n C 0 d_Table_filledAt_12 rfl rfl ?_
    refine z_getR C 5 2 rfl in_Table (by decide) w_197 rfl d_Table_filledAt_13 hf (fun v2 hf => ?_)
    refine z_iload_n C 1 d_Table_filledAt_16 rfl rfl ?_
    refine z_iald C d_Table_filledAt_17 hf (fun v3 hf => ?_)
    refine z_aload_n C 0 d_Table_filledAt_18 rfl rfl ?_
    refine z_getR C 5 0 rfl in_Table (by decide) w_195 rfl d_Table_filledAt_19 hf (fun v4 hf => ?_)
    refine z_getR C 2 2 rfl in_Site (by decide) w_103 rfl d_Table_filledAt_22 hf (fun v5 hf => ?_)
    refine z_iload_n C 1 d_Table_filledAt_25 rfl rfl ?_
    refine z_iald C d_Table_filledAt_26 hf (fun v6 hf => ?_)
    refine z_isub C d_Table_filledAt_27 ?_
    exact z_iret C E (Nat.le_of_ble_eq_true rfl) (Nat.le_of_ble_eq_true rfl) d_Table_filledAt_28 hf
  · refine z_iconst C (v := (0 : Int32)) d_Table_filledAt_8 (by decide) ?_
    refine z_goto (tgt := 28) C d_Table_filledAt_9 (by decide) ?_
    exact z_iret C E (Nat.le_of_ble_eq_true rfl) (Nat.le_of_ble_eq_true rfl) d_Table_filledAt_28 hf

theorem c_Table_filledAt (N : Nat) {l : Launch} {D : va_G} {T : List (ClassId × FieldType)} (hT : T.map (fun q => q.2) = ztl) {x0 : Nat} {x1 : Int32} {h : zH} {p : Int32 × zH} (hf : f_Table_filledAt N x0 x1 h = some p) : zM l y_Table_filledAt prog_8_method_4_code 2 (some .int) rm_Table_filledAt D T [.ref x0, .int x1] h (some (.int p.1)) p.2 :=
  z_enter (by decide) hT (Nat.le_of_ble_eq_true rfl) (fun X el eD eT hin C E => k_Table_filledAt N C E x0 x1 h hf)
/-! ===== LevelTables$Table.levelsCut()I ===== -/
abbrev y_Table_levelsCut : MethodName := ⟨R_Table, "levelsCut", "()I"⟩
theorem pd_Table_levelsCut : y_Table_levelsCut.cls ≠ "java/lang/invoke/MethodHandle" ∧ y_Table_levelsCut.cls ≠ "java/lang/invoke/VarHandle" ∧ (parseMethodDescriptor y_Table_levelsCut.desc).map (fun d => d.parameters.length) = some 0 := ⟨by decide +kernel, by decide +kernel, by decide +kernel⟩
abbrev rm_Table_levelsCut : Room := { frames := 2, cells := 0, slots := 0, locals := 42 }
def b_Table_levelsCut_4 (N : Nat) (rc4 : Nat → Int32 → Int32 → zH → Option (Int32 × zH)) (x0 : Nat) (x1 : Int32) (x2 : Int32) (h : zH) : Option (Int32 × zH) :=
  Option.bind (zgR h x0 5 0) fun (v1 : Nat) =>
  Option.bind (zgI h v1 2 0) fun (v2 : Int32) =>
  (if v2 < x2 then
    some (x1, h)
  else
    Option.bind (zck (zis h x0 5) (f_Table_filledAt N x0 x2 h)) fun (p3 : Int32 × zH) =>
    rc4 x0 (x1 + (zmax (0 : Int32) (-p3.1))) (x2 + (1 : Int32)) p3.2)
def f_Table_levelsCut_4 (N : Nat) : Nat → Nat → Int32 → Int32 → zH → Option (Int32 × zH)
  | 0 => fun _ _ _ _ => none
  | n + 1 => fun x0 x1 x2 h => b_Table_levelsCut_4 N (f_Table_levelsCut_4 N n) x0 x1 x2 h
def f_Table_levelsCut (N : Nat) (x0 : Nat) (h : zH) : Option (Int32 × zH) :=
  f_Table_levelsCut_4 N N x0 (0 : Int32) (0 : Int32) h
theorem d_Table_levelsCut_0 : decode prog_8_method_6_code 0 = .ok (.iconst (0), 1) := by decide +kernel
theorem d_Table_levelsCut_1 : decode prog_8_method_6_code 1 = .ok (.istore_n (1), 1) := by decide +kernel
theorem d_Table_levelsCut_2 : decode prog_8_method_6_code 2 = .ok (.iconst (0), 1) := by decide +kernel
theorem d_Table_levelsCut_3 : decode prog_8_method_6_code 3 = .ok (.istore_n (2), 1) := by decide +kernel
theorem d_Table_levelsCut_4 : decode prog_8_method_6_code 4 = .ok (.iload_n (2), 1) := by decide +kernel
theorem d_Table_levelsCut_5 : decode prog_8_method_6_code 5 = .ok (.aload_n (0), 1) := by decide +kernel
theorem d_Table_levelsCut_6 : decode prog_8_method_6_code 6 = .ok (.getfield (23), 3) := by decide +kernel
theorem d_Table_levelsCut_9 : decode prog_8_method_6_code 9 = .ok (.getfield (31), 3) := by decide +kernel
theorem d_Table_levelsCut_12 : decode prog_8_method_6_code 12 = .ok (.if_icmp .gt (22), 3) := by decide +kernel
theorem d_Table_levelsCut_15 : decode prog_8_method_6_code 15 = .ok (.iload_n (1), 1) := by decide +kernel
theorem d_Table_levelsCut_16 : decode prog_8_method_6_code 16 = .ok (.iconst (0), 1) := by decide +kernel
theorem d_Table_levelsCut_17 : decode prog_8_method_6_code 17 = .ok (.aload_n (0), 1) := by decide +kernel
theorem d_Table_levelsCut_18 : decode prog_8_method_6_code 18 = .ok (.iload_n (2), 1) := by decide +kernel
theorem d_Table_levelsCut_19 : decode prog_8_method_6_code 19 = .ok (.invokevirtual (50), 3) := by decide +kernel
theorem d_Table_levelsCut_22 : decode prog_8_method_6_code 22 = .ok (.ineg, 1) := by decide +kernel
theorem d_Table_levelsCut_23 : decode prog_8_method_6_code 23 = .ok (.invokestatic (54), 3) := by decide +kernel
theorem d_Table_levelsCut_26 : decode prog_8_method_6_code 26 = .ok (.iadd, 1) := by decide +kernel
theorem d_Table_levelsCut_27 : decode prog_8_method_6_code 27 = .ok (.istore_n (1), 1) := by decide +kernel
theorem d_Table_levelsCut_28 : decode prog_8_method_6_code 28 = .ok (.iinc (2) (1), 3) := by decide +kernel
theorem d_Table_levelsCut_31 : decode prog_8_method_6_code 31 = .ok (.goto (-27), 3) := by decide +kernel
theorem d_Table_levelsCut_34 : decode prog_8_method_6_code 34 = .ok (.iload_n (1), 1) := by decide +kernel
theorem d_Table_levelsCut_35 : decode prog_8_method_6_code 35 = .ok (.ireturn, 1) := by decide +kernel
set_option maxHeartbeats 4000000 in
set_option maxRecDepth 100000 in
theorem k_Table_levelsCut_4 (N : Nat) {X : zX} (C : zB X prog_8_method_6_code 3 R_Table rm_Table_levelsCut) {h0 : zH} {p : Int32 × zH} (E : zR X (some .int) rm_Table_levelsCut h0 (some (.int p.1)) p.2) : ∀ n : Nat, ∀ (x0 : Nat) (x1 : Int32) (x2 : Int32) (h : zH), f_Table_levelsCut_4 N n x0 x1 x2 h = some p → Zt X 3 0 0 4 [(0, .ref x0), (1, .int x1), (2, .int x2)] [] h := by
  intro n
  induction n with
  | zero => intro x0 x1 x2 h hf; cases hf
  | succ n ih =>
  intro x0 x1 x2 h hf
  have H4 := ih
  replace hf : b_Table_levelsCut_4 N (f_Table_levelsCut_4 N n) x0 x1 x2 h = some p := hf
  unfold b_Table_levelsCut_4 at hf
  refine z_iload_n C 2 d_Table_levelsCut_4 rfl rfl ?_
  refine z_aload_n C 0 d_Table_levelsCut_5 rfl rfl ?_
  refine z_getR C 5 0 rfl in_Table (by decide) w_195 rfl d_Table_levelsCut_6 hf (fun v1 hf => ?_)
  refine z_getI C 2 0 rfl in_Site (by decide) w_94 rfl d_Table_levelsCut_9 hf (fun v2 hf => ?_)
  refine z_ic_gt (tgt := 34) C d_Table_levelsCut_12 (by decide) hf (fun hf => ?_) (fun hf => ?_)
  · refine z_iload_n C 1 d_Table_levelsCut_34 rfl rfl ?_
    exact z_iret C E (Nat.le_of_ble_eq_true rfl) (Nat.le_of_ble_eq_true rfl) d_Table_levelsCut_35 hf
  · refine z_iload_n C 1 d_Table_levelsCut_15 rfl rfl ?_
    refine z_iconst C (v := (0 : Int32)) d_Table_levelsCut_16 (by decide) ?_
    refine z_aload_n C 0 d_Table_levelsCut_17 rfl rfl ?_
    refine z_iload_n C 2 d_Table_levelsCut_18 rfl rfl ?_
    obtain ⟨p3, hc, hf⟩ := Option.bind_eq_some_iff.mp hf
    obtain ⟨hz, hc⟩ := zck_some hc
    refine z_callV C (ci := 5) (c_Table_filledAt N C.2.2.1 hc) rfl hz w_670 w_63 w_667 w_668 w_669 pd_Table_filledAt rfl ⟨(Nat.le_of_ble_eq_true rfl), (Nat.le_of_ble_eq_true rfl)⟩ ⟨(Nat.le_of_ble_eq_true rfl), (Nat.le_of_ble_eq_true rfl)⟩ rfl (Nat.le_of_ble_eq_true rfl) d_Table_levelsCut_19 (k' := 0) (n' := 0) (stk' := [.int p3.1, .int (0 : Int32), .int x1]) rfl rfl rfl ?_
    refine z_ineg C d_Table_levelsCut_22 ?_
    refine z_mmax C w_697 w_82 w_58 w_83 (Nat.le_of_ble_eq_true rfl) (Nat.le_of_ble_eq_true rfl) (Nat.le_of_ble_eq_true rfl) (Nat.le_of_ble_eq_true rfl) d_Table_levelsCut_23 ?_
    refine z_iadd C d_Table_levelsCut_26 ?_
    refine z_istore_n C (lv' := [(1, .int (x1 + (zmax (0 : Int32) (-p3.1)))), (0, .ref x0), (2, .int x2)]) d_Table_levelsCut_27 rfl (by decide) rfl ?_
    refine z_iinc C (v := (x2 + (1 : Int32))) (lv' := [(2, .int (x2 + (1 : Int32))), (1, .int (x1 + (zmax (0 : Int32) (-p3.1)))), (0, .ref x0)]) 2 d_Table_levelsCut_28 rfl (by rfl) (by decide) rfl ?_
    refine z_goto (tgt := 4) C d_Table_levelsCut_31 (by decide) ?_
    refine z_sub [2, 1, 0] rfl ?_
    exact H4 _ _ _ _ hf

set_option maxHeartbeats 4000000 in
set_option maxRecDepth 100000 in
theorem k_Table_levelsCut (N : Nat) {X : zX} (C : zB X prog_8_method_6_code 3 R_Table rm_Table_levelsCut) {h0 : zH} {p : Int32 × zH} (E : zR X (some .int) rm_Table_levelsCut h0 (some (.int p.1)) p.2) : ∀ (x0 : Nat) (h : zH), f_Table_levelsCut N x0 h = some p → Zt X 3 0 0 0 [(0, .ref x0)] [] h := by
  intro x0 h hf
  unfold f_Table_levelsCut at hf
  refine z_iconst C (v := (0 : Int32)) d_Table_levelsCut_0 (by decide) ?_
  refine z_istore_n C (lv' := [(1, .int (0 : Int32)), (0, .ref x0)]) d_Table_levelsCut_1 rfl (by decide) rfl ?_
  refine z_iconst C (v := (0 : Int32)) d_Table_levelsCut_2 (by decide) ?_
  refine z_istore_n C (lv' := [(2, .int (0 : Int32)), (1, .int (0 : Int32)), (0, .ref x0)]) d_Table_levelsCut_3 rfl (by decide) rfl ?_
  refine z_sub [2, 1, 0] rfl ?_
  exact k_Table_levelsCut_4 N C E N _ _ _ _ hf

theorem c_Table_levelsCut (N : Nat) {l : Launch} {D : va_G} {T : List (ClassId × FieldType)} (hT : T.map (fun q => q.2) = ztl) {x0 : Nat} {h : zH} {p : Int32 × zH} (hf : f_Table_levelsCut N x0 h = some p) : zM l y_Table_levelsCut prog_8_method_6_code 3 (some .int) rm_Table_levelsCut D T [.ref x0] h (some (.int p.1)) p.2 :=
  z_enter (by decide) hT (Nat.le_of_ble_eq_true rfl) (fun X el eD eT hin C E => k_Table_levelsCut N C E x0 h hf)
/-! ===== LevelTables$Table.levelsFilled()I ===== -/
abbrev y_Table_levelsFilled : MethodName := ⟨R_Table, "levelsFilled", "()I"⟩
theorem pd_Table_levelsFilled : y_Table_levelsFilled.cls ≠ "java/lang/invoke/MethodHandle" ∧ y_Table_levelsFilled.cls ≠ "java/lang/invoke/VarHandle" ∧ (parseMethodDescriptor y_Table_levelsFilled.desc).map (fun d => d.parameters.length) = some 0 := ⟨by decide +kernel, by decide +kernel, by decide +kernel⟩
abbrev rm_Table_levelsFilled : Room := { frames := 2, cells := 0, slots := 0, locals := 42 }
def b_Table_levelsFilled_4 (N : Nat) (rc4 : Nat → Int32 → Int32 → zH → Option (Int32 × zH)) (x0 : Nat) (x1 : Int32) (x2 : Int32) (h : zH) : Option (Int32 × zH) :=
  Option.bind (zgR h x0 5 0) fun (v1 : Nat) =>
  Option.bind (zgI h v1 2 0) fun (v2 : Int32) =>
  (if v2 < x2 then
    some (x1, h)
  else
    Option.bind (zck (zis h x0 5) (f_Table_filledAt N x0 x2 h)) fun (p3 : Int32 × zH) =>
    rc4 x0 (x1 + (zmax (0 : Int32) p3.1)) (x2 + (1 : Int32)) p3.2)
def f_Table_levelsFilled_4 (N : Nat) : Nat → Nat → Int32 → Int32 → zH → Option (Int32 × zH)
  | 0 => fun _ _ _ _ => none
  | n + 1 => fun x0 x1 x2 h => b_Table_levelsFilled_4 N (f_Table_levelsFilled_4 N n) x0 x1 x2 h
def f_Table_levelsFilled (N : Nat) (x0 : Nat) (h : zH) : Option (Int32 × zH) :=
  f_Table_levelsFilled_4 N N x0 (0 : Int32) (0 : Int32) h
theorem d_Table_levelsFilled_0 : decode prog_8_method_5_code 0 = .ok (.iconst (0), 1) := by decide +kernel
theorem d_Table_levelsFilled_1 : decode prog_8_method_5_code 1 = .ok (.istore_n (1), 1) := by decide +kernel
theorem d_Table_levelsFilled_2 : decode prog_8_method_5_code 2 = .ok (.iconst (0), 1) := by decide +kernel
theorem d_Table_levelsFilled_3 : decode prog_8_method_5_code 3 = .ok (.istore_n (2), 1) := by decide +kernel
theorem d_Table_levelsFilled_4 : decode prog_8_method_5_code 4 = .ok (.iload_n (2), 1) := by decide +kernel
theorem d_Table_levelsFilled_5 : decode prog_8_method_5_code 5 = .ok (.aload_n (0), 1) := by decide +kernel
theorem d_Table_levelsFilled_6 : decode prog_8_method_5_code 6 = .ok (.getfield (23), 3) := by decide +kernel
theorem d_Table_levelsFilled_9 : decode prog_8_method_5_code 9 = .ok (.getfield (31), 3) := by decide +kernel
theorem d_Table_levelsFilled_12 : decode prog_8_method_5_code 12 = .ok (.if_icmp .gt (21), 3) := by decide +kernel
theorem d_Table_levelsFilled_15 : decode prog_8_method_5_code 15 = .ok (.iload_n (1), 1) := by decide +kernel
theorem d_Table_levelsFilled_16 : decode prog_8_method_5_code 16 = .ok (.iconst (0), 1) := by decide +kernel
theorem d_Table_levelsFilled_17 : decode prog_8_method_5_code 17 = .ok (.aload_n (0), 1) := by decide +kernel
theorem d_Table_levelsFilled_18 : decode prog_8_method_5_code 18 = .ok (.iload_n (2), 1) := by decide +kernel
theorem d_Table_levelsFilled_19 : decode prog_8_method_5_code 19 = .ok (.invokevirtual (50), 3) := by decide +kernel
theorem d_Table_levelsFilled_22 : decode prog_8_method_5_code 22 = .ok (.invokestatic (54), 3) := by decide +kernel
theorem d_Table_levelsFilled_25 : decode prog_8_method_5_code 25 = .ok (.iadd, 1) := by decide +kernel
theorem d_Table_levelsFilled_26 : decode prog_8_method_5_code 26 = .ok (.istore_n (1), 1) := by decide +kernel
theorem d_Table_levelsFilled_27 : decode prog_8_method_5_code 27 = .ok (.iinc (2) (1), 3) := by decide +kernel
theorem d_Table_levelsFilled_30 : decode prog_8_method_5_code 30 = .ok (.goto (-26), 3) := by decide +kernel
theorem d_Table_levelsFilled_33 : decode prog_8_method_5_code 33 = .ok (.iload_n (1), 1) := by decide +kernel
theorem d_Table_levelsFilled_34 : decode prog_8_method_5_code 34 = .ok (.ireturn, 1) := by decide +kernel
set_option maxHeartbeats 4000000 in
set_option maxRecDepth 100000 in
theorem k_Table_levelsFilled_4 (N : Nat) {X : zX} (C : zB X prog_8_method_5_code 3 R_Table rm_Table_levelsFilled) {h0 : zH} {p : Int32 × zH} (E : zR X (some .int) rm_Table_levelsFilled h0 (some (.int p.1)) p.2) : ∀ n : Nat, ∀ (x0 : Nat) (x1 : Int32) (x2 : Int32) (h : zH), f_Table_levelsFilled_4 N n x0 x1 x2 h = some p → Zt X 3 0 0 4 [(0, .ref x0), (1, .int x1), (2, .int x2)] [] h := by
  intro n
  induction n with
  | zero => intro x0 x1 x2 h hf; cases hf
  | succ n ih =>
  intro x0 x1 x2 h hf
  have H4 := ih
  replace hf : b_Table_levelsFilled_4 N (f_Table_levelsFilled_4 N n) x0 x1 x2 h = some p := hf
  unfold b_Table_levelsFilled_4 at hf
  refine z_iload_n C 2 d_Table_levelsFilled_4 rfl rfl ?_
  refine z_aload_n C 0 d_Table_levelsFilled_5 rfl rfl ?_
  refine z_getR C 5 0 rfl in_Table (by decide) w_195 rfl d_Table_levelsFilled_6 hf (fun v1 hf => ?_)
  refine z_getI C 2 0 rfl in_Site (by decide) w_94 rfl d_Table_levelsFilled_9 hf (fun v2 hf => ?_)
  refine z_ic_gt (tgt := 33) C d_Table_levelsFilled_12 (by decide) hf (fun hf => ?_) (fun hf => ?_)
  · refine z_iload_n C 1 d_Table_levelsFilled_33 rfl rfl ?_
    exact z_iret C E (Nat.le_of_ble_eq_true rfl) (Nat.le_of_ble_eq_true rfl) d_Table_levelsFilled_34 hf
  · refine z_iload_n C 1 d_Table_levelsFilled_15 rfl rfl ?_
    refine z_iconst C (v := (0 : Int32)) d_Table_levelsFilled_16 (by decide) ?_
    refine z_aload_n C 0 d_Table_levelsFilled_17 rfl rfl ?_
    refine z_iload_n C 2 d_Table_levelsFilled_18 rfl rfl ?_
    obtain ⟨p3, hc, hf⟩ := Option.bind_eq_some_iff.mp hf
    obtain ⟨hz, hc⟩ := zck_some hc
    refine z_callV C (ci := 5) (c_Table_filledAt N C.2.2.1 hc) rfl hz w_670 w_63 w_667 w_668 w_669 pd_Table_filledAt rfl ⟨(Nat.le_of_ble_eq_true rfl), (Nat.le_of_ble_eq_true rfl)⟩ ⟨(Nat.le_of_ble_eq_true rfl), (Nat.le_of_ble_eq_true rfl)⟩ rfl (Nat.le_of_ble_eq_true rfl) d_Table_levelsFilled_19 (k' := 0) (n' := 0) (stk' := [.int p3.1, .int (0 : Int32), .int x1]) rfl rfl rfl ?_
    refine z_mmax C w_697 w_82 w_58 w_83 (Nat.le_of_ble_eq_true rfl) (Nat.le_of_ble_eq_true rfl) (Nat.le_of_ble_eq_true rfl) (Nat.le_of_ble_eq_true rfl) d_Table_levelsFilled_22 ?_
    refine z_iadd C d_Table_levelsFilled_25 ?_
    refine z_istore_n C (lv' := [(1, .int (x1 + (zmax (0 : Int32) p3.1))), (0, .ref x0), (2, .int x2)]) d_Table_levelsFilled_26 rfl (by decide) rfl ?_
    refine z_iinc C (v := (x2 + (1 : Int32))) (lv' := [(2, .int (x2 + (1 : Int32))), (1, .int (x1 + (zmax (0 : Int32) p3.1))), (0, .ref x0)]) 2 d_Table_levelsFilled_27 rfl (by rfl) (by decide) rfl ?_
    refine z_goto (tgt := 4) C d_Table_levelsFilled_30 (by decide) ?_
    refine z_sub [2, 1, 0] rfl ?_
    exact H4 _ _ _ _ hf

set_option maxHeartbeats 4000000 in
set_option maxRecDepth 100000 in
theorem k_Table_levelsFilled (N : Nat) {X : zX} (C : zB X prog_8_method_5_code 3 R_Table rm_Table_levelsFilled) {h0 : zH} {p : Int32 × zH} (E : zR X (some .int) rm_Table_levelsFilled h0 (some (.int p.1)) p.2) : ∀ (x0 : Nat) (h : zH), f_Table_levelsFilled N x0 h = some p → Zt X 3 0 0 0 [(0, .ref x0)] [] h := by
  intro x0 h hf
  unfold f_Table_levelsFilled at hf
  refine z_iconst C (v := (0 : Int32)) d_Table_levelsFilled_0 (by decide) ?_
  refine z_istore_n C (lv' := [(1, .int (0 : Int32)), (0, .ref x0)]) d_Table_levelsFilled_1 rfl (by decide) rfl ?_
  refine z_iconst C (v := (0 : Int32)) d_Table_levelsFilled_2 (by decide) ?_
  refine z_istore_n C (lv' := [(2, .int (0 : Int32)), (1, .int (0 : Int32)), (0, .ref x0)]) d_Table_levelsFilled_3 rfl (by decide) rfl ?_
  refine z_sub [2, 1, 0] rfl ?_
  exact k_Table_levelsFilled_4 N C E N _ _ _ _ hf

theorem c_Table_levelsFilled (N : Nat) {l : Launch} {D : va_G} {T : List (ClassId × FieldType)} (hT : T.map (fun q => q.2) = ztl) {x0 : Nat} {h : zH} {p : Int32 × zH} (hf : f_Table_levelsFilled N x0 h = some p) : zM l y_Table_levelsFilled prog_8_method_5_code 3 (some .int) rm_Table_levelsFilled D T [.ref x0] h (some (.int p.1)) p.2 :=
  z_enter (by decide) hT (Nat.le_of_ble_eq_true rfl) (fun X el eD eT hin C E => k_Table_levelsFilled N C E x0 h hf)
/-! ===== LevelTables$Table.spansHold()Z ===== -/
abbrev y_Table_spansHold : MethodName := ⟨R_Table, "spansHold", "()Z"⟩
theorem pd_Table_spansHold : y_Table_spansHold.cls ≠ "java/lang/invoke/MethodHandle" ∧ y_Table_spansHold.cls ≠ "java/lang/invoke/VarHandle" ∧ (parseMethodDescriptor y_Table_spansHold.desc).map (fun d => d.parameters.length) = some 0 := ⟨by decide +kernel, by decide +kernel, by decide +kernel⟩
abbrev rm_Table_spansHold : Room := { frames := 3, cells := 0, slots := 0, locals := 75 }
def f_Table_spansHold_35 (N : Nat) (rc2 : Nat → Int32 → zH → Option (Int32 × zH)) (x0 : Nat) (x1 : Int32) (h : zH) : Option (Int32 × zH) :=
  rc2 x0 (x1 + (1 : Int32)) h
def b_Table_spansHold_2 (N : Nat) (rc2 : Nat → Int32 → zH → Option (Int32 × zH)) (x0 : Nat) (x1 : Int32) (h : zH) : Option (Int32 × zH) :=
  Option.bind (zgR h x0 5 1) fun (v1 : Nat) =>
  Option.bind (zgI h v1 3 0) fun (v2 : Int32) =>
  (if v2 ≤ x1 then
    zrb (1 : Int32) h
  else
    Option.bind (zgI h x0 5 5) fun (v3 : Int32) =>
    (if ((v3 >>> (x1 &&& 31)) &&& (1 : Int32)) = (1 : Int32) then
      Option.bind (zck (zis h x0 5) (f_Table_spanHolds N x0 x1 h)) fun (p4 : Int32 × zH) =>
      (if p4.1 = 0 then
        zrb (0 : Int32) p4.2
      else
        f_Table_spansHold_35 N rc2 x0 x1 p4.2)
    else
      f_Table_spansHold_35 N rc2 x0 x1 h))
def f_Table_spansHold_2 (N : Nat) : Nat → Nat → Int32 → zH → Option (Int32 × zH)
  | 0 => fun _ _ _ => none
  | n + 1 => fun x0 x1 h => b_Table_spansHold_2 N (f_Table_spansHold_2 N n) x0 x1 h
def f_Table_spansHold (N : Nat) (x0 : Nat) (h : zH) : Option (Int32 × zH) :=
  f_Table_spansHold_2 N N x0 (0 : Int32) h
theorem d_Table_spansHold_0 : decode prog_8_method_12_code 0 = .ok (.iconst (0), 1) := by decide +kernel
theorem d_Table_spansHold_1 : decode prog_8_method_12_code 1 = .ok (.istore_n (1), 1) := by decide +kernel
theorem d_Table_spansHold_2 : decode prog_8_method_12_code 2 = .ok (.iload_n (1), 1) := by decide +kernel
theorem d_Table_spansHold_3 : decode prog_8_method_12_code 3 = .ok (.aload_n (0), 1) := by decide +kernel
theorem d_Table_spansHold_4 : decode prog_8_method_12_code 4 = .ok (.getfield (27), 3) := by decide +kernel
theorem d_Table_spansHold_7 : decode prog_8_method_12_code 7 = .ok (.getfield (89), 3) := by decide +kernel
theorem d_Table_spansHold_10 : decode prog_8_method_12_code 10 = .ok (.if_icmp .ge (31), 3) := by decide +kernel
theorem d_Table_spansHold_13 : decode prog_8_method_12_code 13 = .ok (.aload_n (0), 1) := by decide +kernel
theorem d_Table_spansHold_14 : decode prog_8_method_12_code 14 = .ok (.getfield (15), 3) := by decide +kernel
theorem d_Table_spansHold_17 : decode prog_8_method_12_code 17 = .ok (.iload_n (1), 1) := by decide +kernel
theorem d_Table_spansHold_18 : decode prog_8_method_12_code 18 = .ok (.ishr, 1) := by decide +kernel
theorem d_Table_spansHold_19 : decode prog_8_method_12_code 19 = .ok (.iconst (1), 1) := by decide +kernel
theorem d_Table_spansHold_20 : decode prog_8_method_12_code 20 = .ok (.iand, 1) := by decide +kernel
theorem d_Table_spansHold_21 : decode prog_8_method_12_code 21 = .ok (.iconst (1), 1) := by decide +kernel
theorem d_Table_spansHold_22 : decode prog_8_method_12_code 22 = .ok (.if_icmp .ne (13), 3) := by decide +kernel
theorem d_Table_spansHold_25 : decode prog_8_method_12_code 25 = .ok (.aload_n (0), 1) := by decide +kernel
theorem d_Table_spansHold_26 : decode prog_8_method_12_code 26 = .ok (.iload_n (1), 1) := by decide +kernel
theorem d_Table_spansHold_27 : decode prog_8_method_12_code 27 = .ok (.invokevirtual (94), 3) := by decide +kernel
theorem d_Table_spansHold_30 : decode prog_8_method_12_code 30 = .ok (.ifCond .ne (5), 3) := by decide +kernel
theorem d_Table_spansHold_33 : decode prog_8_method_12_code 33 = .ok (.iconst (0), 1) := by decide +kernel
theorem d_Table_spansHold_34 : decode prog_8_method_12_code 34 = .ok (.ireturn, 1) := by decide +kernel
theorem d_Table_spansHold_35 : decode prog_8_method_12_code 35 = .ok (.iinc (1) (1), 3) := by decide +kernel
theorem d_Table_spansHold_38 : decode prog_8_method_12_code 38 = .ok (.goto (-36), 3) := by decide +kernel
theorem d_Table_spansHold_41 : decode prog_8_method_12_code 41 = .ok (.iconst (1), 1) := by decide +kernel
theorem d_Table_spansHold_42 : decode prog_8_method_12_code 42 = .ok (.ireturn, 1) := by decide +kernel
set_option maxHeartbeats 4000000 in
set_option maxRecDepth 100000 in
theorem k_Table_spansHold_35 (N : Nat) {X : zX} (C : zB X prog_8_method_12_code 2 R_Table rm_Table_spansHold) {h0 : zH} {p : Int32 × zH} (E : zR X (some .boolean) rm_Table_spansHold h0 (some (.int p.1)) p.2) {rc2 : Nat → Int32 → zH → Option (Int32 × zH)} (H2 : ∀ (x0 : Nat) (x1 : Int32) (h : zH), rc2 x0 x1 h = some p → Zt X 2 0 0 2 [(0, .ref x0), (1, .int x1)] [] h) : ∀ (x0 : Nat) (x1 : Int32) (h : zH), f_Table_spansHold_35 N rc2 x0 x1 h = some p → Zt X 2 0 0 35 [(0, .ref x0), (1, .int x1)] [] h := by
  intro x0 x1 h hf
  unfold f_Table_spansHold_35 at hf
  refine z_iinc C (v := (x1 + (1 : Int32))) (lv' := [(1, .int (x1 + (1 : Int32))), (0, .ref x0)]) 1 d_Table_spansHold_35 rfl (by rfl) (by decide) rfl ?_
  refine z_goto (tgt := 2) C d_Table_spansHold_38 (by decide) ?_
  refine z_sub [1, 0] rfl ?_
  exact H2 _ _ _ hf

set_option maxHeartbeats 4000000 in
set_option maxRecDepth 100000 in
theorem k_Table_spansHold_2 (N : Nat) {X : zX} (C : zB X prog_8_method_12_code 2 R_Table rm_Table_spansHold) {h0 : zH} {p : Int32 × zH} (E : zR X (some .boolean) rm_Table_spansHold h0 (some (.int p.1)) p.2) : ∀ n : Nat, ∀ (x0 : Nat) (x1 : Int32) (h : zH), f_Table_spansHold_2 N n x0 x1 h = some p → Zt X 2 0 0 2 [(0, .ref x0), (1, .int x1)] [] h := by
  intro n
  induction n with
  | zero => intro x0 x1 h hf; cases hf
  | succ n ih =>
  intro x0 x1 h hf
  have H2 := ih
  replace hf : b_Table_spansHold_2 N (f_Table_spansHold_2 N n) x0 x1 h = some p := hf
  unfold b_Table_spansHold_2 at hf
  refine z_iload_n C 1 d_Table_spansHold_2 rfl rfl ?_
  refine z_aload_n C 0 d_Table_spansHold_3 rfl rfl ?_
  refine z_getR C 5 1 rfl in_Table (by decide) w_196 rfl d_Table_spansHold_4 hf (fun v1 hf => ?_)
  refine z_getI C 3 0 rfl in_Spans (by decide) w_151 rfl d_Table_spansHold_7 hf (fun v2 hf => ?_)
  refine z_ic_ge (tgt := 41) C d_Table_spansHold_10 (by decide) hf (fun hf => ?_) (fun hf => ?_)
  · refine z_iconst C (v := (1 : Int32)) d_Table_spansHold_41 (by decide) ?_
    exact z_zret C E (Nat.le_of_ble_eq_true rfl) (Nat.le_of_ble_eq_true rfl) d_Table_spansHold_42 hf
  · refine z_aload_n C 0 d_Table_spansHold_13 rfl rfl ?_
    refine z_getI C 5 5 rfl in_Table (by decide) w_207 rfl d_Table_spansHold_14 hf (fun v3 hf => ?_)
    refine z_iload_n C 1 d_Table_spansHold_17 rfl rfl ?_
    refine z_ishr C d_Table_spansHold_18 ?_
    refine z_iconst C (v := (1 : Int32)) d_Table_spansHold_19 (by decide) ?_
    refine z_iand C d_Table_spansHold_20 ?_
    refine z_iconst C (v := (1 : Int32)) d_Table_spansHold_21 (by decide) ?_
    refine z_ic_ne (tgt := 35) C d_Table_spansHold_22 (by decide) hf (fun hf => ?_) (fun hf => ?_)
    · refine z_sub [0, 1] rfl ?_
      exact k_Table_spansHold_35 N C E H2 _ _ _ hf
    · refine z_aload_n C 0 d_Table_spansHold_25 rfl rfl ?_
      refine z_iload_n C 1 d_Table_spansHold_26 rfl rfl ?_
      obtain ⟨p4, hc, hf⟩ := Option.bind_eq_some_iff.mp hf
      obtain ⟨hz, hc⟩ := zck_some hc
      refine z_callV C (ci := 5) (c_Table_spanHolds N C.2.2.1 hc) rfl hz w_729 w_63 w_726 w_728 w_31 pd_Table_spanHolds rfl ⟨(Nat.le_of_ble_eq_true rfl), (Nat.le_of_ble_eq_true rfl)⟩ ⟨(Nat.le_of_ble_eq_true rfl), (Nat.le_of_ble_eq_true rfl)⟩ rfl (Nat.le_of_ble_eq_true rfl) d_Table_spansHold_27 (k' := 0) (n' := 0) (stk' := [.int p4.1]) rfl rfl rfl ?_
      refine z_if_ne (tgt := 35) C d_Table_spansHold_30 (by decide) hf (fun hf => ?_) (fun hf => ?_)
      · refine z_sub [0, 1] rfl ?_
        exact k_Table_spansHold_35 N C E H2 _ _ _ hf
      · refine z_iconst C (v := (0 : Int32)) d_Table_spansHold_33 (by decide) ?_
        exact z_zret C E (Nat.le_of_ble_eq_true rfl) (Nat.le_of_ble_eq_true rfl) d_Table_spansHold_34 hf

set_option maxHeartbeats 4000000 in
set_option maxRecDepth 100000 in
theorem k_Table_spansHold (N : Nat) {X : zX} (C : zB X prog_8_method_12_code 2 R_Table rm_Table_spansHold) {h0 : zH} {p : Int32 × zH} (E : zR X (some .boolean) rm_Table_spansHold h0 (some (.int p.1)) p.2) : ∀ (x0 : Nat) (h : zH), f_Table_spansHold N x0 h = some p → Zt X 2 0 0 0 [(0, .ref x0)] [] h := by
  intro x0 h hf
  unfold f_Table_spansHold at hf
  refine z_iconst C (v := (0 : Int32)) d_Table_spansHold_0 (by decide) ?_
  refine z_istore_n C (lv' := [(1, .int (0 : Int32)), (0, .ref x0)]) d_Table_spansHold_1 rfl (by decide) rfl ?_
  refine z_sub [1, 0] rfl ?_
  exact k_Table_spansHold_2 N C E N _ _ _ hf

theorem c_Table_spansHold (N : Nat) {l : Launch} {D : va_G} {T : List (ClassId × FieldType)} (hT : T.map (fun q => q.2) = ztl) {x0 : Nat} {h : zH} {p : Int32 × zH} (hf : f_Table_spansHold N x0 h = some p) : zM l y_Table_spansHold prog_8_method_12_code 2 (some .boolean) rm_Table_spansHold D T [.ref x0] h (some (.int p.1)) p.2 :=
  z_enter (by decide) hT (Nat.le_of_ble_eq_true rfl) (fun X el eD eT hin C E => k_Table_spansHold N C E x0 h hf)
/-! ===== LevelTables.<init>(II)V ===== -/
abbrev y_LT_init : MethodName := ⟨R_LT, "<init>", "(II)V"⟩
theorem pd_LT_init : y_LT_init.cls ≠ "java/lang/invoke/MethodHandle" ∧ y_LT_init.cls ≠ "java/lang/invoke/VarHandle" ∧ (parseMethodDescriptor y_LT_init.desc).map (fun d => d.parameters.length) = some 2 := ⟨by decide +kernel, by decide +kernel, by decide +kernel⟩
abbrev rm_LT_init : Room := { frames := 2, cells := 20, slots := 305, locals := 45 }
def f_LT_init (N : Nat) (x0 : Nat) (x1 : Int32) (x2 : Int32) (h : zH) : Option (Unit × zH) :=
  Option.bind (znO h 2 df_Site) fun (q1 : Nat × zH) =>
  Option.bind (f_Site_init N q1.1 (zmax (2 : Int32) (zmin (24 : Int32) x1)) (zmax (1 : Int32) (zmin (24 : Int32) x2)) q1.2) fun (p2 : Unit × zH) =>
  Option.bind (zp p2.2 x0 1 0 (.ref q1.1)) fun (h3 : zH) =>
  Option.bind (znO h3 3 df_Spans) fun (q4 : Nat × zH) =>
  Option.bind (f_Spans_init N q4.1  q4.2) fun (p5 : Unit × zH) =>
  Option.bind (zp p5.2 x0 1 1 (.ref q4.1)) fun (h6 : zH) =>
  Option.bind (znO h6 4 df_Reach) fun (q7 : Nat × zH) =>
  Option.bind (zgR q7.2 x0 1 0) fun (v8 : Nat) =>
  Option.bind (f_Reach_init N q7.1 v8 q7.2) fun (p9 : Unit × zH) =>
  Option.bind (zp p9.2 x0 1 2 (.ref q7.1)) fun (h10 : zH) =>
  Option.bind (znO h10 5 df_Table) fun (q11 : Nat × zH) =>
  Option.bind (zgR q11.2 x0 1 0) fun (v12 : Nat) =>
  Option.bind (zgR q11.2 x0 1 1) fun (v13 : Nat) =>
  Option.bind (f_Table_init N q11.1 v12 v13 q11.2) fun (p14 : Unit × zH) =>
  Option.bind (zp p14.2 x0 1 3 (.ref q11.1)) fun (h15 : zH) =>
  Option.bind (znO h15 6 df_Curves) fun (q16 : Nat × zH) =>
  Option.bind (f_Curves_init N q16.1 (zmax (2 : Int32) (zmin (24 : Int32) x1)) q16.2) fun (p17 : Unit × zH) =>
  Option.bind (zp p17.2 x0 1 4 (.ref q16.1)) fun (h18 : zH) =>
  Option.bind (znO h18 7 df_Lorry) fun (q19 : Nat × zH) =>
  Option.bind (f_Lorry_init N q19.1  q19.2) fun (p20 : Unit × zH) =>
  Option.bind (zp p20.2 x0 1 5 (.ref q19.1)) fun (h21 : zH) =>
  some ((), h21)
theorem d_LT_init_0 : decode prog_1_method_1_code 0 = .ok (.aload_n (0), 1) := by decide +kernel
theorem d_LT_init_1 : decode prog_1_method_1_code 1 = .ok (.invokespecial (1), 3) := by decide +kernel
theorem d_LT_init_4 : decode prog_1_method_1_code 4 = .ok (.iconst (2), 1) := by decide +kernel
theorem d_LT_init_5 : decode prog_1_method_1_code 5 = .ok (.bipush (24), 2) := by decide +kernel
theorem d_LT_init_7 : decode prog_1_method_1_code 7 = .ok (.iload_n (1), 1) := by decide +kernel
theorem d_LT_init_8 : decode prog_1_method_1_code 8 = .ok (.invokestatic (9), 3) := by decide +kernel
theorem d_LT_init_11 : decode prog_1_method_1_code 11 = .ok (.invokestatic (15), 3) := by decide +kernel
theorem d_LT_init_14 : decode prog_1_method_1_code 14 = .ok (.istore_n (3), 1) := by decide +kernel
theorem d_LT_init_15 : decode prog_1_method_1_code 15 = .ok (.iconst (1), 1) := by decide +kernel
theorem d_LT_init_16 : decode prog_1_method_1_code 16 = .ok (.bipush (24), 2) := by decide +kernel
theorem d_LT_init_18 : decode prog_1_method_1_code 18 = .ok (.iload_n (2), 1) := by decide +kernel
theorem d_LT_init_19 : decode prog_1_method_1_code 19 = .ok (.invokestatic (9), 3) := by decide +kernel
theorem d_LT_init_22 : decode prog_1_method_1_code 22 = .ok (.invokestatic (15), 3) := by decide +kernel
theorem d_LT_init_25 : decode prog_1_method_1_code 25 = .ok (.istore (4), 2) := by decide +kernel
theorem d_LT_init_27 : decode prog_1_method_1_code 27 = .ok (.aload_n (0), 1) := by decide +kernel
theorem d_LT_init_28 : decode prog_1_method_1_code 28 = .ok (.new (18), 3) := by decide +kernel
theorem d_LT_init_31 : decode prog_1_method_1_code 31 = .ok (.dup, 1) := by decide +kernel
theorem d_LT_init_32 : decode prog_1_method_1_code 32 = .ok (.iload_n (3), 1) := by decide +kernel
theorem d_LT_init_33 : decode prog_1_method_1_code 33 = .ok (.iload (4), 2) := by decide +kernel
theorem d_LT_init_35 : decode prog_1_method_1_code 35 = .ok (.invokespecial (20), 3) := by decide +kernel
theorem d_LT_init_38 : decode prog_1_method_1_code 38 = .ok (.putfield (23), 3) := by decide +kernel
theorem d_LT_init_41 : decode prog_1_method_1_code 41 = .ok (.aload_n (0), 1) := by decide +kernel
theorem d_LT_init_42 : decode prog_1_method_1_code 42 = .ok (.new (27), 3) := by decide +kernel
theorem d_LT_init_45 : decode prog_1_method_1_code 45 = .ok (.dup, 1) := by decide +kernel
theorem d_LT_init_46 : decode prog_1_method_1_code 46 = .ok (.invokespecial (29), 3) := by decide +kernel
theorem d_LT_init_49 : decode prog_1_method_1_code 49 = .ok (.putfield (30), 3) := by decide +kernel
theorem d_LT_init_52 : decode prog_1_method_1_code 52 = .ok (.aload_n (0), 1) := by decide +kernel
theorem d_LT_init_53 : decode prog_1_method_1_code 53 = .ok (.new (34), 3) := by decide +kernel
theorem d_LT_init_56 : decode prog_1_method_1_code 56 = .ok (.dup, 1) := by decide +kernel
theorem d_LT_init_57 : decode prog_1_method_1_code 57 = .ok (.aload_n (0), 1) := by decide +kernel
theorem d_LT_init_58 : decode prog_1_method_1_code 58 = .ok (.getfield (23), 3) := by decide +kernel
theorem d_LT_init_61 : decode prog_1_method_1_code 61 = .ok (.invokespecial (36), 3) := by decide +kernel
theorem d_LT_init_64 : decode prog_1_method_1_code 64 = .ok (.putfield (39), 3) := by decide +kernel
theorem d_LT_init_67 : decode prog_1_method_1_code 67 = .ok (.aload_n (0), 1) := by decide +kernel
theorem d_LT_init_68 : decode prog_1_method_1_code 68 = .ok (.new (43), 3) := by decide +kernel
theorem d_LT_init_71 : decode prog_1_method_1_code 71 = .ok (.dup, 1) := by decide +kernel
theorem d_LT_init_72 : decode prog_1_method_1_code 72 = .ok (.aload_n (0), 1) := by decide +kernel
theorem d_LT_init_73 : decode prog_1_method_1_code 73 = .ok (.getfield (23), 3) := by decide +kernel
theorem d_LT_init_76 : decode prog_1_method_1_code 76 = .ok (.aload_n (0), 1) := by decide +kernel
theorem d_LT_init_77 : decode prog_1_method_1_code 77 = .ok (.getfield (30), 3) := by decide +kernel
theorem d_LT_init_80 : decode prog_1_method_1_code 80 = .ok (.invokespecial (45), 3) := by decide +kernel
theorem d_LT_init_83 : decode prog_1_method_1_code 83 = .ok (.putfield (48), 3) := by decide +kernel
theorem d_LT_init_86 : decode prog_1_method_1_code 86 = .ok (.aload_n (0), 1) := by decide +kernel
theorem d_LT_init_87 : decode prog_1_method_1_code 87 = .ok (.new (52), 3) := by decide +kernel
theorem d_LT_init_90 : decode prog_1_method_1_code 90 = .ok (.dup, 1) := by decide +kernel
theorem d_LT_init_91 : decode prog_1_method_1_code 91 = .ok (.iload_n (3), 1) := by decide +kernel
theorem d_LT_init_92 : decode prog_1_method_1_code 92 = .ok (.invokespecial (54), 3) := by decide +kernel
theorem d_LT_init_95 : decode prog_1_method_1_code 95 = .ok (.putfield (57), 3) := by decide +kernel
theorem d_LT_init_98 : decode prog_1_method_1_code 98 = .ok (.aload_n (0), 1) := by decide +kernel
theorem d_LT_init_99 : decode prog_1_method_1_code 99 = .ok (.new (61), 3) := by decide +kernel
theorem d_LT_init_102 : decode prog_1_method_1_code 102 = .ok (.dup, 1) := by decide +kernel
theorem d_LT_init_103 : decode prog_1_method_1_code 103 = .ok (.invokespecial (63), 3) := by decide +kernel
theorem d_LT_init_106 : decode prog_1_method_1_code 106 = .ok (.putfield (64), 3) := by decide +kernel
theorem d_LT_init_109 : decode prog_1_method_1_code 109 = .ok (.return_, 1) := by decide +kernel
set_option maxHeartbeats 4000000 in
set_option maxRecDepth 100000 in
theorem k_LT_init (N : Nat) {X : zX} (C : zB X prog_1_method_1_code 5 R_LT rm_LT_init) {h0 : zH} {p : Unit × zH} (E : zR X none rm_LT_init h0 none p.2) (hin : (x_t X).name = "<init>") : ∀ (x0 : Nat) (x1 : Int32) (x2 : Int32) (h : zH), f_LT_init N x0 x1 x2 h = some p → Zt X 5 0 0 0 [(0, .ref x0), (1, .int x1), (2, .int x2)] [] h := by
  intro x0 x1 x2 h hf
  unfold f_LT_init at hf
  refine z_aload_n C 0 d_LT_init_0 rfl rfl ?_
  refine z_objInit C w_75 w_76 w_77 (Nat.le_of_ble_eq_true rfl) (Nat.le_of_ble_eq_true rfl) d_LT_init_1 ?_
  refine z_iconst C (v := (2 : Int32)) d_LT_init_4 (by decide) ?_
  refine z_bipush C (v := (24 : Int32)) d_LT_init_5 (by decide) ?_
  refine z_iload_n C 1 d_LT_init_7 rfl rfl ?_
  refine z_mmin C w_78 w_79 w_58 w_80 (Nat.le_of_ble_eq_true rfl) (Nat.le_of_ble_eq_true rfl) (Nat.le_of_ble_eq_true rfl) (Nat.le_of_ble_eq_true rfl) d_LT_init_8 ?_
  refine z_mmax C w_81 w_82 w_58 w_83 (Nat.le_of_ble_eq_true rfl) (Nat.le_of_ble_eq_true rfl) (Nat.le_of_ble_eq_true rfl) (Nat.le_of_ble_eq_true rfl) d_LT_init_11 ?_
  refine z_istore_n C (lv' := [(3, .int (zmax (2 : Int32) (zmin (24 : Int32) x1))), (0, .ref x0), (1, .int x1), (2, .int x2)]) d_LT_init_14 rfl (by decide) rfl ?_
  refine z_iconst C (v := (1 : Int32)) d_LT_init_15 (by decide) ?_
  refine z_bipush C (v := (24 : Int32)) d_LT_init_16 (by decide) ?_
  refine z_iload_n C 3 d_LT_init_18 rfl rfl ?_
  refine z_mmin C w_78 w_79 w_58 w_80 (Nat.le_of_ble_eq_true rfl) (Nat.le_of_ble_eq_true rfl) (Nat.le_of_ble_eq_true rfl) (Nat.le_of_ble_eq_true rfl) d_LT_init_19 ?_
  refine z_mmax C w_81 w_82 w_58 w_83 (Nat.le_of_ble_eq_true rfl) (Nat.le_of_ble_eq_true rfl) (Nat.le_of_ble_eq_true rfl) (Nat.le_of_ble_eq_true rfl) d_LT_init_22 ?_
  refine z_istore C (lv' := [(4, .int (zmax (1 : Int32) (zmin (24 : Int32) x2))), (3, .int (zmax (2 : Int32) (zmin (24 : Int32) x1))), (0, .ref x0), (1, .int x1), (2, .int x2)]) d_LT_init_25 (by decide) rfl ?_
  refine z_aload_n C 2 d_LT_init_27 rfl rfl ?_
  refine z_newO C 2 ty_Site rfl in_Site tyok_Site w_84 w_85 w_59 df_Site_ok (Nat.le_of_ble_eq_true rfl) (Nat.le_of_ble_eq_true rfl) d_LT_init_28 hf (fun q1 hf => ?_)
  refine z_dup C d_LT_init_31 rfl ?_
  refine z_iload_n C 1 d_LT_init_32 rfl rfl ?_
  refine z_iload C 0 d_LT_init_33 rfl ?_
  obtain ⟨p2, hc, hf⟩ := Option.bind_eq_some_iff.mp hf
  refine z_callI C (c_Site_init N C.2.2.1 hc) w_88 w_59 w_86 w_87 rfl pd_Site_init rfl ⟨(Nat.le_of_ble_eq_true rfl), (Nat.le_of_ble_eq_true rfl)⟩ ⟨(Nat.le_of_ble_eq_true rfl), (Nat.le_of_ble_eq_true rfl)⟩ rfl (Nat.le_of_ble_eq_true rfl) d_LT_init_35 (k' := 6) (n' := 135) rfl rfl ?_
  refine z_put C 1 0 ty_LT rfl in_LT tyok_LT nm_LT (by decide) w_266 rfl (Or.inr ⟨rfl, hin, rfl⟩) rfl rfl rfl d_LT_init_38 hf (fun h3 hf => ?_)
  refine z_aload_n C 2 d_LT_init_41 rfl rfl ?_
  refine z_newO C 3 ty_Spans rfl in_Spans tyok_Spans w_143 w_144 w_61 df_Spans_ok (Nat.le_of_ble_eq_true rfl) (Nat.le_of_ble_eq_true rfl) d_LT_init_42 hf (fun q4 hf => ?_)
  refine z_dup C d_LT_init_45 rfl ?_
  obtain ⟨p5, hc, hf⟩ := Option.bind_eq_some_iff.mp hf
  refine z_callIN C (c_Spans_init N C.2.2.1 hc) w_147 w_61 nw_LT_29 w_146 rfl pd_Spans_init rfl ⟨(Nat.le_of_ble_eq_true rfl), (Nat.le_of_ble_eq_true rfl)⟩ ⟨(Nat.le_of_ble_eq_true rfl), (Nat.le_of_ble_eq_true rfl)⟩ rfl (Nat.le_of_ble_eq_true rfl) d_LT_init_46 (k' := 11) (n' := 164) rfl rfl ?_
  refine z_put C 1 1 ty_LT rfl in_LT tyok_LT nm_LT (by decide) w_267 rfl (Or.inr ⟨rfl, hin, rfl⟩) rfl rfl rfl d_LT_init_49 hf (fun h6 hf => ?_)
  refine z_aload_n C 2 d_LT_init_52 rfl rfl ?_
  refine z_newO C 4 ty_Reach rfl in_Reach tyok_Reach w_173 w_174 w_62 df_Reach_ok (Nat.le_of_ble_eq_true rfl) (Nat.le_of_ble_eq_true rfl) d_LT_init_53 hf (fun q7 hf => ?_)
  refine z_dup C d_LT_init_56 rfl ?_
  refine z_aload_n C 2 d_LT_init_57 rfl rfl ?_
  refine z_getR C 1 0 rfl in_LT (by decide) w_266 rfl d_LT_init_58 hf (fun v8 hf => ?_)
  obtain ⟨p9, hc, hf⟩ := Option.bind_eq_some_iff.mp hf
  refine z_callI C (c_Reach_init N C.2.2.1 hc) w_177 w_62 w_175 w_176 rfl pd_Reach_init rfl ⟨(Nat.le_of_ble_eq_true rfl), (Nat.le_of_ble_eq_true rfl)⟩ ⟨(Nat.le_of_ble_eq_true rfl), (Nat.le_of_ble_eq_true rfl)⟩ rfl (Nat.le_of_ble_eq_true rfl) d_LT_init_61 (k' := 14) (n' := 217) rfl rfl ?_
  refine z_put C 1 2 ty_LT rfl in_LT tyok_LT nm_LT (by decide) w_268 rfl (Or.inr ⟨rfl, hin, rfl⟩) rfl rfl rfl d_LT_init_64 hf (fun h10 hf => ?_)
  refine z_aload_n C 2 d_LT_init_67 rfl rfl ?_
  refine z_newO C 5 ty_Table rfl in_Table tyok_Table w_189 w_190 w_63 df_Table_ok (Nat.le_of_ble_eq_true rfl) (Nat.le_of_ble_eq_true rfl) d_LT_init_68 hf (fun q11 hf => ?_)
  refine z_dup C d_LT_init_71 rfl ?_
  refine z_aload_n C 2 d_LT_init_72 rfl rfl ?_
  refine z_getR C 1 0 rfl in_LT (by decide) w_266 rfl d_LT_init_73 hf (fun v12 hf => ?_)
  refine z_aload_n C 2 d_LT_init_76 rfl rfl ?_
  refine z_getR C 1 1 rfl in_LT (by decide) w_267 rfl d_LT_init_77 hf (fun v13 hf => ?_)
  obtain ⟨p14, hc, hf⟩ := Option.bind_eq_some_iff.mp hf
  refine z_callI C (c_Table_init N C.2.2.1 hc) w_193 w_63 w_191 w_192 rfl pd_Table_init rfl ⟨(Nat.le_of_ble_eq_true rfl), (Nat.le_of_ble_eq_true rfl)⟩ ⟨(Nat.le_of_ble_eq_true rfl), (Nat.le_of_ble_eq_true rfl)⟩ rfl (Nat.le_of_ble_eq_true rfl) d_LT_init_80 (k' := 17) (n' := 274) rfl rfl ?_
  refine z_put C 1 3 ty_LT rfl in_LT tyok_LT nm_LT (by decide) w_269 rfl (Or.inr ⟨rfl, hin, rfl⟩) rfl rfl rfl d_LT_init_83 hf (fun h15 hf => ?_)
  refine z_aload_n C 2 d_LT_init_86 rfl rfl ?_
  refine z_newO C 6 ty_Curves rfl in_Curves tyok_Curves w_228 w_229 w_64 df_Curves_ok (Nat.le_of_ble_eq_true rfl) (Nat.le_of_ble_eq_true rfl) d_LT_init_87 hf (fun q16 hf => ?_)
  refine z_dup C d_LT_init_90 rfl ?_
  refine z_iload_n C 1 d_LT_init_91 rfl rfl ?_
  obtain ⟨p17, hc, hf⟩ := Option.bind_eq_some_iff.mp hf
  refine z_callI C (c_Curves_init N C.2.2.1 hc) w_232 w_64 w_230 w_231 rfl pd_Curves_init rfl ⟨(Nat.le_of_ble_eq_true rfl), (Nat.le_of_ble_eq_true rfl)⟩ ⟨(Nat.le_of_ble_eq_true rfl), (Nat.le_of_ble_eq_true rfl)⟩ rfl (Nat.le_of_ble_eq_true rfl) d_LT_init_92 (k' := 19) (n' := 301) rfl rfl ?_
  refine z_put C 1 4 ty_LT rfl in_LT tyok_LT nm_LT (by decide) w_270 rfl (Or.inr ⟨rfl, hin, rfl⟩) rfl rfl rfl d_LT_init_95 hf (fun h18 hf => ?_)
  refine z_aload_n C 2 d_LT_init_98 rfl rfl ?_
  refine z_newO C 7 ty_Lorry rfl in_Lorry tyok_Lorry w_243 w_244 w_65 df_Lorry_ok (Nat.le_of_ble_eq_true rfl) (Nat.le_of_ble_eq_true rfl) d_LT_init_99 hf (fun q19 hf => ?_)
  refine z_dup C d_LT_init_102 rfl ?_
  obtain ⟨p20, hc, hf⟩ := Option.bind_eq_some_iff.mp hf
  refine z_callIN C (c_Lorry_init N C.2.2.1 hc) w_247 w_65 nw_LT_63 w_246 rfl pd_Lorry_init rfl ⟨(Nat.le_of_ble_eq_true rfl), (Nat.le_of_ble_eq_true rfl)⟩ ⟨(Nat.le_of_ble_eq_true rfl), (Nat.le_of_ble_eq_true rfl)⟩ rfl (Nat.le_of_ble_eq_true rfl) d_LT_init_103 (k' := 20) (n' := 305) rfl rfl ?_
  refine z_put C 1 5 ty_LT rfl in_LT tyok_LT nm_LT (by decide) w_271 rfl (Or.inr ⟨rfl, hin, rfl⟩) rfl rfl rfl d_LT_init_106 hf (fun h21 hf => ?_)
  exact z_vret C E (Nat.le_of_ble_eq_true rfl) (Nat.le_of_ble_eq_true rfl) d_LT_init_109 hf

theorem c_LT_init (N : Nat) {l : Launch} {D : va_G} {T : List (ClassId × FieldType)} (hT : T.map (fun q => q.2) = ztl) {x0 : Nat} {x1 : Int32} {x2 : Int32} {h : zH} {p : Unit × zH} (hf : f_LT_init N x0 x1 x2 h = some p) : zM l y_LT_init prog_1_method_1_code 5 none rm_LT_init D T [.ref x0, .int x1, .int x2] h none p.2 :=
  z_enter (by decide) hT (Nat.le_of_ble_eq_true rfl) (fun X el eD eT hin C E => k_LT_init N C E (hin rfl) x0 x1 x2 h hf)
/-! ===== LevelTables.ground(II)Z ===== -/
abbrev y_LT_ground : MethodName := ⟨R_LT, "ground", "(II)Z"⟩
theorem pd_LT_ground : y_LT_ground.cls ≠ "java/lang/invoke/MethodHandle" ∧ y_LT_ground.cls ≠ "java/lang/invoke/VarHandle" ∧ (parseMethodDescriptor y_LT_ground.desc).map (fun d => d.parameters.length) = some 2 := ⟨by decide +kernel, by decide +kernel, by decide +kernel⟩
abbrev rm_LT_ground : Room := { frames := 3, cells := 0, slots := 0, locals := 63 }
def f_LT_ground (N : Nat) (x0 : Nat) (x1 : Int32) (x2 : Int32) (h : zH) : Option (Int32 × zH) :=
  Option.bind (zgR h x0 1 0) fun (v1 : Nat) =>
  Option.bind (zck (zis h v1 2) (f_Site_isPlace N v1 x1 h)) fun (p2 : Int32 × zH) =>
  (if p2.1 = 0 then
    zrb (0 : Int32) p2.2
  else
    Option.bind (zgR p2.2 x0 1 0) fun (v3 : Nat) =>
    Option.bind (zck (zis p2.2 v3 2) (f_Site_isLevel N v3 x2 p2.2)) fun (p4 : Int32 × zH) =>
    (if p4.1 = 0 then
      zrb (0 : Int32) p4.2
    else
      Option.bind (zgR p4.2 x0 1 0) fun (v5 : Nat) =>
      Option.bind (zgR p4.2 v5 2 2) fun (v6 : Nat) =>
      Option.bind (zsI p4.2 0 v6 x1 x2) fun (h7 : zH) =>
      Option.bind (zck (zis h7 x0 1) (f_LT_forget N x0  h7)) fun (p8 : Unit × zH) =>
      zrb (1 : Int32) p8.2))
theorem d_LT_ground_0 : decode prog_1_method_2_code 0 = .ok (.aload_n (0), 1) := by decide +kernel
theorem d_LT_ground_1 : decode prog_1_method_2_code 1 = .ok (.getfield (23), 3) := by decide +kernel
theorem d_LT_ground_4 : decode prog_1_method_2_code 4 = .ok (.iload_n (1), 1) := by decide +kernel
theorem d_LT_ground_5 : decode prog_1_method_2_code 5 = .ok (.invokevirtual (68), 3) := by decide +kernel
theorem d_LT_ground_8 : decode prog_1_method_2_code 8 = .ok (.ifCond .eq (14), 3) := by decide +kernel
theorem d_LT_ground_11 : decode prog_1_method_2_code 11 = .ok (.aload_n (0), 1) := by decide +kernel
theorem d_LT_ground_12 : decode prog_1_method_2_code 12 = .ok (.getfield (23), 3) := by decide +kernel
theorem d_LT_ground_15 : decode prog_1_method_2_code 15 = .ok (.iload_n (2), 1) := by decide +kernel
theorem d_LT_ground_16 : decode prog_1_method_2_code 16 = .ok (.invokevirtual (72), 3) := by decide +kernel
theorem d_LT_ground_19 : decode prog_1_method_2_code 19 = .ok (.ifCond .ne (5), 3) := by decide +kernel
theorem d_LT_ground_22 : decode prog_1_method_2_code 22 = .ok (.iconst (0), 1) := by decide +kernel
theorem d_LT_ground_23 : decode prog_1_method_2_code 23 = .ok (.ireturn, 1) := by decide +kernel
theorem d_LT_ground_24 : decode prog_1_method_2_code 24 = .ok (.aload_n (0), 1) := by decide +kernel
theorem d_LT_ground_25 : decode prog_1_method_2_code 25 = .ok (.getfield (23), 3) := by decide +kernel
theorem d_LT_ground_28 : decode prog_1_method_2_code 28 = .ok (.getfield (75), 3) := by decide +kernel
theorem d_LT_ground_31 : decode prog_1_method_2_code 31 = .ok (.iload_n (1), 1) := by decide +kernel
theorem d_LT_ground_32 : decode prog_1_method_2_code 32 = .ok (.iload_n (2), 1) := by decide +kernel
theorem d_LT_ground_33 : decode prog_1_method_2_code 33 = .ok (.iastore, 1) := by decide +kernel
theorem d_LT_ground_34 : decode prog_1_method_2_code 34 = .ok (.aload_n (0), 1) := by decide +kernel
theorem d_LT_ground_35 : decode prog_1_method_2_code 35 = .ok (.invokevirtual (79), 3) := by decide +kernel
theorem d_LT_ground_38 : decode prog_1_method_2_code 38 = .ok (.iconst (1), 1) := by decide +kernel
theorem d_LT_ground_39 : decode prog_1_method_2_code 39 = .ok (.ireturn, 1) := by decide +kernel
set_option maxHeartbeats 4000000 in
set_option maxRecDepth 100000 in
theorem k_LT_ground (N : Nat) {X : zX} (C : zB X prog_1_method_2_code 3 R_LT rm_LT_ground) {h0 : zH} {p : Int32 × zH} (E : zR X (some .boolean) rm_LT_ground h0 (some (.int p.1)) p.2) : ∀ (x0 : Nat) (x1 : Int32) (x2 : Int32) (h : zH), f_LT_ground N x0 x1 x2 h = some p → Zt X 3 0 0 0 [(0, .ref x0), (1, .int x1), (2, .int x2)] [] h := by
  intro x0 x1 x2 h hf
  unfold f_LT_ground at hf
  refine z_aload_n C 0 d_LT_ground_0 rfl rfl ?_
  refine z_getR C 1 0 rfl in_LT (by decide) w_266 rfl d_LT_ground_1 hf (fun v1 hf => ?_)
  refine z_iload_n C 1 d_LT_ground_4 rfl rfl ?_
  obtain ⟨p2, hc, hf⟩ := Option.bind_eq_some_iff.mp hf
  obtain ⟨hz, hc⟩ := zck_some hc
  refine z_callV C (ci := 2) (c_Site_isPlace N C.2.2.1 hc) rfl hz w_304 w_59 w_301 w_302 w_303 pd_Site_isPlace rfl ⟨(Nat.le_of_ble_eq_true rfl), (Nat.le_of_ble_eq_true rfl)⟩ ⟨(Nat.le_of_ble_eq_true rfl), (Nat.le_of_ble_eq_true rfl)⟩ rfl (Nat.le_of_ble_eq_true rfl) d_LT_ground_5 (k' := 0) (n' := 0) (stk' := [.int p2.1]) rfl rfl rfl ?_
  refine z_if_eq (tgt := 22) C d_LT_ground_8 (by decide) hf (fun hf => ?_) (fun hf => ?_)
  · refine z_iconst C (v := (0 : Int32)) d_LT_ground_22 (by decide) ?_
    exact z_zret C E (Nat.le_of_ble_eq_true rfl) (Nat.le_of_ble_eq_true rfl) d_LT_ground_23 hf
  · refine z_aload_n C 0 d_LT_ground_11 rfl rfl ?_
    refine z_getR C 1 0 rfl in_LT (by decide) w_266 rfl d_LT_ground_12 hf (fun v3 hf => ?_)
    refine z_iload_n C 2 d_LT_ground_15 rfl rfl ?_
    obtain ⟨p4, hc, hf⟩ := Option.bind_eq_some_iff.mp hf
    obtain ⟨hz, hc⟩ := zck_some hc
    refine z_callV C (ci := 2) (c_Site_isLevel N C.2.2.1 hc) rfl hz w_308 w_59 w_305 w_306 w_307 pd_Site_isLevel rfl ⟨(Nat.le_of_ble_eq_true rfl), (Nat.le_of_ble_eq_true rfl)⟩ ⟨(Nat.le_of_ble_eq_true rfl), (Nat.le_of_ble_eq_true rfl)⟩ rfl (Nat.le_of_ble_eq_true rfl) d_LT_ground_16 (k' := 0) (n' := 0) (stk' := [.int p4.1]) rfl rfl rfl ?_
    refine z_if_ne (tgt := 24) C d_LT_ground_19 (by decide) hf (fun hf => ?_) (fun hf => ?_)
    · refine z_aload_n C 0 d_LT_ground_24 rfl rfl ?_
      refine z_getR C 1 0 rfl in_LT (by decide) w_266 rfl d_LT_ground_25 hf (fun v5 hf => ?_)
      refine z_getR C 2 2 rfl in_Site (by decide) w_102 rfl d_LT_ground_28 hf (fun v6 hf => ?_)
      refine z_iload_n C 1 d_LT_ground_31 rfl rfl ?_
      refine z_iload_n C 2 d_LT_ground_32 rfl rfl ?_
      refine z_iast C d_LT_ground_33 hf (fun h7 hf => ?_)
      refine z_aload_n C 0 d_LT_ground_34 rfl rfl ?_
      obtain ⟨p8, hc, hf⟩ := Option.bind_eq_some_iff.mp hf
      obtain ⟨hz, hc⟩ := zck_some hc
      refine z_callV C (ci := 1) (c_LT_forget N C.2.2.1 hc) rfl hz w_312 w_57 w_309 w_311 w_0 pd_LT_forget rfl ⟨(Nat.le_of_ble_eq_true rfl), (Nat.le_of_ble_eq_true rfl)⟩ ⟨(Nat.le_of_ble_eq_true rfl), (Nat.le_of_ble_eq_true rfl)⟩ rfl (Nat.le_of_ble_eq_true rfl) d_LT_ground_35 (k' := 0) (n' := 0) (stk' := []) rfl rfl rfl ?_
      refine z_iconst C (v := (1 : Int32)) d_LT_ground_38 (by decide) ?_
      exact z_zret C E (Nat.le_of_ble_eq_true rfl) (Nat.le_of_ble_eq_true rfl) d_LT_ground_39 hf
    · refine z_iconst C (v := (0 : Int32)) d_LT_ground_22 (by decide) ?_
      exact z_zret C E (Nat.le_of_ble_eq_true rfl) (Nat.le_of_ble_eq_true rfl) d_LT_ground_23 hf

theorem c_LT_ground (N : Nat) {l : Launch} {D : va_G} {T : List (ClassId × FieldType)} (hT : T.map (fun q => q.2) = ztl) {x0 : Nat} {x1 : Int32} {x2 : Int32} {h : zH} {p : Int32 × zH} (hf : f_LT_ground N x0 x1 x2 h = some p) : zM l y_LT_ground prog_1_method_2_code 3 (some .boolean) rm_LT_ground D T [.ref x0, .int x1, .int x2] h (some (.int p.1)) p.2 :=
  z_enter (by decide) hT (Nat.le_of_ble_eq_true rfl) (fun X el eD eT hin C E => k_LT_ground N C E x0 x1 x2 h hf)
/-! ===== LevelTables$Reach.advance(I)Z ===== -/
abbrev y_Reach_advance : MethodName := ⟨R_Reach, "advance", "(I)Z"⟩
theorem pd_Reach_advance : y_Reach_advance.cls ≠ "java/lang/invoke/MethodHandle" ∧ y_Reach_advance.cls ≠ "java/lang/invoke/VarHandle" ∧ (parseMethodDescriptor y_Reach_advance.desc).map (fun d => d.parameters.length) = some 1 := ⟨by decide +kernel, by decide +kernel, by decide +kernel⟩
abbrev rm_Reach_advance : Room := { frames := 3, cells := 0, slots := 0, locals := 66 }
def f_Reach_advance_123 (N : Nat) (rc12 : Nat → Int32 → Int32 → Int32 → zH → Option (Int32 × zH)) (rc70 : Nat → Int32 → Int32 → Int32 → Int64 → Int32 → Int32 → zH → Option (Int32 × zH)) (x0 : Nat) (x1 : Int32) (x2 : Int32) (x3 : Int32) (x4 : Int64) (x6 : Int32) (x7 : Int32) (h : zH) : Option (Int32 × zH) :=
  rc70 x0 x1 x2 x3 x4 x6 (x7 + (1 : Int32)) h
def b_Reach_advance_70 (N : Nat) (rc12 : Nat → Int32 → Int32 → Int32 → zH → Option (Int32 × zH)) (rc70 : Nat → Int32 → Int32 → Int32 → Int64 → Int32 → Int32 → zH → Option (Int32 × zH)) (x0 : Nat) (x1 : Int32) (x2 : Int32) (x3 : Int32) (x4 : Int64) (x6 : Int32) (x7 : Int32) (h : zH) : Option (Int32 × zH) :=
  (if x6 < x7 then
    rc12 x0 x1 x2 (x3 + (1 : Int32)) h
  else
    (if (lg_cmp (x4 &&& (z_sl (1 : Int64) ((x7 - x3) + (24 : Int32)))) (0 : Int64)) = 0 then
      f_Reach_advance_123 N rc12 rc70 x0 x1 x2 x3 x4 x6 x7 h
    else
      Option.bind (zck (zis h x0 4) (f_Reach_canStep N x0 x1 x3 x7 h)) fun (p1 : Int32 × zH) =>
      (if p1.1 = 0 then
        f_Reach_advance_123 N rc12 rc70 x0 x1 x2 x3 x4 x6 x7 p1.2
      else
        Option.bind (zgR p1.2 x0 4 2) fun (v2 : Nat) =>
        Option.bind (zaJ p1.2 1 v2 x7) fun (v3 : Int64) =>
        Option.bind (zsJ p1.2 1 v2 x7 (v3 ||| (z_sl (1 : Int64) ((x7 - x3) + (24 : Int32))))) fun (h4 : zH) =>
        f_Reach_advance_123 N rc12 rc70 x0 x1 (1 : Int32) x3 x4 x6 x7 h4)))
def f_Reach_advance_70 (N : Nat) (rc12 : Nat → Int32 → Int32 → Int32 → zH → Option (Int32 × zH)) : Nat → Nat → Int32 → Int32 → Int32 → Int64 → Int32 → Int32 → zH → Option (Int32 × zH)
  | 0 => fun _ _ _ _ _ _ _ _ => none
  | n + 1 => fun x0 x1 x2 x3 x4 x6 x7 h => b_Reach_advance_70 N rc12 (f_Reach_advance_70 N rc12 n) x0 x1 x2 x3 x4 x6 x7 h
def f_Reach_advance_48 (N : Nat) (rc12 : Nat → Int32 → Int32 → Int32 → zH → Option (Int32 × zH)) (x0 : Nat) (x1 : Int32) (x2 : Int32) (x3 : Int32) (s0 : Int64) (h : zH) : Option (Int32 × zH) :=
  Option.bind (zgR h x0 4 0) fun (v5 : Nat) =>
  Option.bind (zck (zis h v5 2) (f_Site_highestNear N v5 x3 h)) fun (p6 : Int32 × zH) =>
  Option.bind (zgR p6.2 x0 4 0) fun (v7 : Nat) =>
  Option.bind (zck (zis p6.2 v7 2) (f_Site_lowestNear N v7 x3 p6.2)) fun (p8 : Int32 × zH) =>
  f_Reach_advance_70 N rc12 N x0 x1 x2 x3 s0 p6.1 p8.1 p8.2
def b_Reach_advance_12 (N : Nat) (rc12 : Nat → Int32 → Int32 → Int32 → zH → Option (Int32 × zH)) (x0 : Nat) (x1 : Int32) (x2 : Int32) (x3 : Int32) (h : zH) : Option (Int32 × zH) :=
  Option.bind (zgR h x0 4 0) fun (v9 : Nat) =>
  Option.bind (zgI h v9 2 1) fun (v10 : Int32) =>
  (if v10 < x3 then
    Option.bind (zgR h x0 4 1) fun (v11 : Nat) =>
    Option.bind (zgR h x0 4 2) fun (v12 : Nat) =>
    Option.bind (zp h x0 4 1 (.ref v12)) fun (h13 : zH) =>
    Option.bind (zp h13 x0 4 2 (.ref v11)) fun (h14 : zH) =>
    zrb x2 h14
  else
    Option.bind (zgR h x0 4 1) fun (v15 : Nat) =>
    Option.bind (zaJ h 1 v15 x3) fun (v16 : Int64) =>
    (if (lg_cmp v16 (0 : Int64)) = 0 then
      f_Reach_advance_48 N rc12 x0 x1 x2 x3 (0 : Int64) h
    else
      Option.bind (zgR h x0 4 1) fun (v17 : Nat) =>
      Option.bind (zaJ h 1 v17 x3) fun (v18 : Int64) =>
      Option.bind (zck (zis h x0 4) (f_Reach_widened N x0 v18 h)) fun (p19 : Int64 × zH) =>
      f_Reach_advance_48 N rc12 x0 x1 x2 x3 p19.1 p19.2))
def f_Reach_advance_12 (N : Nat) : Nat → Nat → Int32 → Int32 → Int32 → zH → Option (Int32 × zH)
  | 0 => fun _ _ _ _ _ => none
  | n + 1 => fun x0 x1 x2 x3 h => b_Reach_advance_12 N (f_Reach_advance_12 N n) x0 x1 x2 x3 h
def f_Reach_advance (N : Nat) (x0 : Nat) (x1 : Int32) (h : zH) : Option (Int32 × zH) :=
  Option.bind (zgR h x0 4 2) fun (v20 : Nat) =>
  Option.bind (f_Arrays_fill_AJJV N v20 (0 : Int64) h) fun (p21 : Unit × zH) =>
  f_Reach_advance_12 N N x0 x1 (0 : Int32) (0 : Int32) p21.2
theorem d_Reach_advance_0 : decode prog_4_method_4_code 0 = .ok (.aload_n (0), 1) := by decide +kernel
theorem d_Reach_advance_1 : decode prog_4_method_4_code 1 = .ok (.getfield (25), 3) := by decide +kernel
theorem d_Reach_advance_4 : decode prog_4_method_4_code 4 = .ok (.lconst (0), 1) := by decide +kernel
theorem d_Reach_advance_5 : decode prog_4_method_4_code 5 = .ok (.invokestatic (45), 3) := by decide +kernel
theorem d_Reach_advance_8 : decode prog_4_method_4_code 8 = .ok (.iconst (0), 1) := by decide +kernel
theorem d_Reach_advance_9 : decode prog_4_method_4_code 9 = .ok (.istore_n (2), 1) := by decide +kernel
theorem d_Reach_advance_10 : decode prog_4_method_4_code 10 = .ok (.iconst (0), 1) := by decide +kernel
theorem d_Reach_advance_11 : decode prog_4_method_4_code 11 = .ok (.istore_n (3), 1) := by decide +kernel
theorem d_Reach_advance_12 : decode prog_4_method_4_code 12 = .ok (.iload_n (3), 1) := by decide +kernel
theorem d_Reach_advance_13 : decode prog_4_method_4_code 13 = .ok (.aload_n (0), 1) := by decide +kernel
theorem d_Reach_advance_14 : decode prog_4_method_4_code 14 = .ok (.getfield (9), 3) := by decide +kernel
theorem d_Reach_advance_17 : decode prog_4_method_4_code 17 = .ok (.getfield (15), 3) := by decide +kernel
theorem d_Reach_advance_20 : decode prog_4_method_4_code 20 = .ok (.if_icmp .gt (115), 3) := by decide +kernel
theorem d_Reach_advance_23 : decode prog_4_method_4_code 23 = .ok (.aload_n (0), 1) := by decide +kernel
theorem d_Reach_advance_24 : decode prog_4_method_4_code 24 = .ok (.getfield (21), 3) := by decide +kernel
theorem d_Reach_advance_27 : decode prog_4_method_4_code 27 = .ok (.iload_n (3), 1) := by decide +kernel
theorem d_Reach_advance_28 : decode prog_4_method_4_code 28 = .ok (.laload, 1) := by decide +kernel
theorem d_Reach_advance_29 : decode prog_4_method_4_code 29 = .ok (.lconst (0), 1) := by decide +kernel
theorem d_Reach_advance_30 : decode prog_4_method_4_code 30 = .ok (.lcmp, 1) := by decide +kernel
theorem d_Reach_advance_31 : decode prog_4_method_4_code 31 = .ok (.ifCond .ne (7), 3) := by decide +kernel
theorem d_Reach_advance_34 : decode prog_4_method_4_code 34 = .ok (.lconst (0), 1) := by decide +kernel
theorem d_Reach_advance_35 : decode prog_4_method_4_code 35 = .ok (.goto (13), 3) := by decide +kernel
theorem d_Reach_advance_38 : decode prog_4_method_4_code 38 = .ok (.aload_n (0), 1) := by decide +kernel
theorem d_Reach_advance_39 : decode prog_4_method_4_code 39 = .ok (.aload_n (0), 1) := by decide +kernel
theorem d_Reach_advance_40 : decode prog_4_method_4_code 40 = .ok (.getfield (21), 3) := by decide +kernel
theorem d_Reach_advance_43 : decode prog_4_method_4_code 43 = .ok (.iload_n (3), 1) := by decide +kernel
theorem d_Reach_advance_44 : decode prog_4_method_4_code 44 = .ok (.laload, 1) := by decide +kernel
theorem d_Reach_advance_45 : decode prog_4_method_4_code 45 = .ok (.invokevirtual (51), 3) := by decide +kernel
theorem d_Reach_advance_48 : decode prog_4_method_4_code 48 = .ok (.lstore (4), 2) := by decide +kernel
theorem d_Reach_advance_50 : decode prog_4_method_4_code 50 = .ok (.aload_n (0), 1) := by decide +kernel
theorem d_Reach_advance_51 : decode prog_4_method_4_code 51 = .ok (.getfield (9), 3) := by decide +kernel
theorem d_Reach_advance_54 : decode prog_4_method_4_code 54 = .ok (.iload_n (3), 1) := by decide +kernel
theorem d_Reach_advance_55 : decode prog_4_method_4_code 55 = .ok (.invokevirtual (55), 3) := by decide +kernel
theorem d_Reach_advance_58 : decode prog_4_method_4_code 58 = .ok (.istore (6), 2) := by decide +kernel
theorem d_Reach_advance_60 : decode prog_4_method_4_code 60 = .ok (.aload_n (0), 1) := by decide +kernel
theorem d_Reach_advance_61 : decode prog_4_method_4_code 61 = .ok (.getfield (9), 3) := by decide +kernel
theorem d_Reach_advance_64 : decode prog_4_method_4_code 64 = .ok (.iload_n (3), 1) := by decide +kernel
theorem d_Reach_advance_65 : decode prog_4_method_4_code 65 = .ok (.invokevirtual (59), 3) := by decide +kernel
theorem d_Reach_advance_68 : decode prog_4_method_4_code 68 = .ok (.istore (7), 2) := by decide +kernel
theorem d_Reach_advance_70 : decode prog_4_method_4_code 70 = .ok (.iload (7), 2) := by decide +kernel
theorem d_Reach_advance_72 : decode prog_4_method_4_code 72 = .ok (.iload (6), 2) := by decide +kernel
theorem d_Reach_advance_74 : decode prog_4_method_4_code 74 = .ok (.if_icmp .gt (55), 3) := by decide +kernel
theorem d_Reach_advance_77 : decode prog_4_method_4_code 77 = .ok (.lconst (1), 1) := by decide +kernel
theorem d_Reach_advance_78 : decode prog_4_method_4_code 78 = .ok (.iload (7), 2) := by decide +kernel
theorem d_Reach_advance_80 : decode prog_4_method_4_code 80 = .ok (.iload_n (3), 1) := by decide +kernel
theorem d_Reach_advance_81 : decode prog_4_method_4_code 81 = .ok (.isub, 1) := by decide +kernel
theorem d_Reach_advance_82 : decode prog_4_method_4_code 82 = .ok (.bipush (24), 2) := by decide +kernel
theorem d_Reach_advance_84 : decode prog_4_method_4_code 84 = .ok (.iadd, 1) := by decide +kernel
theorem d_Reach_advance_85 : decode prog_4_method_4_code 85 = .ok (.lshl, 1) := by decide +kernel
theorem d_Reach_advance_86 : decode prog_4_method_4_code 86 = .ok (.lstore (8), 2) := by decide +kernel
theorem d_Reach_advance_88 : decode prog_4_method_4_code 88 = .ok (.lload (4), 2) := by decide +kernel
theorem d_Reach_advance_90 : decode prog_4_method_4_code 90 = .ok (.lload (8), 2) := by decide +kernel
theorem d_Reach_advance_92 : decode prog_4_method_4_code 92 = .ok (.land, 1) := by decide +kernel
theorem d_Reach_advance_93 : decode prog_4_method_4_code 93 = .ok (.lconst (0), 1) := by decide +kernel
theorem d_Reach_advance_94 : decode prog_4_method_4_code 94 = .ok (.lcmp, 1) := by decide +kernel
theorem d_Reach_advance_95 : decode prog_4_method_4_code 95 = .ok (.ifCond .eq (28), 3) := by decide +kernel
theorem d_Reach_advance_98 : decode prog_4_method_4_code 98 = .ok (.aload_n (0), 1) := by decide +kernel
theorem d_Reach_advance_99 : decode prog_4_method_4_code 99 = .ok (.iload_n (1), 1) := by decide +kernel
theorem d_Reach_advance_100 : decode prog_4_method_4_code 100 = .ok (.iload_n (3), 1) := by decide +kernel
theorem d_Reach_advance_101 : decode prog_4_method_4_code 101 = .ok (.iload (7), 2) := by decide +kernel
theorem d_Reach_advance_103 : decode prog_4_method_4_code 103 = .ok (.invokevirtual (62), 3) := by decide +kernel
theorem d_Reach_advance_106 : decode prog_4_method_4_code 106 = .ok (.ifCond .eq (17), 3) := by decide +kernel
theorem d_Reach_advance_109 : decode prog_4_method_4_code 109 = .ok (.aload_n (0), 1) := by decide +kernel
theorem d_Reach_advance_110 : decode prog_4_method_4_code 110 = .ok (.getfield (25), 3) := by decide +kernel
theorem d_Reach_advance_113 : decode prog_4_method_4_code 113 = .ok (.iload (7), 2) := by decide +kernel
theorem d_Reach_advance_115 : decode prog_4_method_4_code 115 = .ok (.dup2, 1) := by decide +kernel
theorem d_Reach_advance_116 : decode prog_4_method_4_code 116 = .ok (.laload, 1) := by decide +kernel
theorem d_Reach_advance_117 : decode prog_4_method_4_code 117 = .ok (.lload (8), 2) := by decide +kernel
theorem d_Reach_advance_119 : decode prog_4_method_4_code 119 = .ok (.lor, 1) := by decide +kernel
theorem d_Reach_advance_120 : decode prog_4_method_4_code 120 = .ok (.lastore, 1) := by decide +kernel
theorem d_Reach_advance_121 : decode prog_4_method_4_code 121 = .ok (.iconst (1), 1) := by decide +kernel
theorem d_Reach_advance_122 : decode prog_4_method_4_code 122 = .ok (.istore_n (2), 1) := by decide +kernel
theorem d_Reach_advance_123 : decode prog_4_method_4_code 123 = .ok (.iinc (7) (1), 3) := by decide +kernel
theorem d_Reach_advance_126 : decode prog_4_method_4_code 126 = .ok (.goto (-56), 3) := by decide +kernel
theorem d_Reach_advance_129 : decode prog_4_method_4_code 129 = .ok (.iinc (3) (1), 3) := by decide +kernel
theorem d_Reach_advance_132 : decode prog_4_method_4_code 132 = .ok (.goto (-120), 3) := by decide +kernel
theorem d_Reach_advance_135 : decode prog_4_method_4_code 135 = .ok (.aload_n (0), 1) := by decide +kernel
theorem d_Reach_advance_136 : decode prog_4_method_4_code 136 = .ok (.getfield (21), 3) := by decide +kernel
theorem d_Reach_advance_139 : decode prog_4_method_4_code 139 = .ok (.astore_n (3), 1) := by decide +kernel
theorem d_Reach_advance_140 : decode prog_4_method_4_code 140 = .ok (.aload_n (0), 1) := by decide +kernel
theorem d_Reach_advance_141 : decode prog_4_method_4_code 141 = .ok (.aload_n (0), 1) := by decide +kernel
theorem d_Reach_advance_142 : decode prog_4_method_4_code 142 = .ok (.getfield (25), 3) := by decide +kernel
theorem d_Reach_advance_145 : decode prog_4_method_4_code 145 = .ok (.putfield (21), 3) := by decide +kernel
theorem d_Reach_advance_148 : decode prog_4_method_4_code 148 = .ok (.aload_n (0), 1) := by decide +kernel
theorem d_Reach_advance_149 : decode prog_4_method_4_code 149 = .ok (.aload_n (3), 1) := by decide +kernel
theorem d_Reach_advance_150 : decode prog_4_method_4_code 150 = .ok (.putfield (25), 3) := by decide +kernel
theorem d_Reach_advance_153 : decode prog_4_method_4_code 153 = .ok (.iload_n (2), 1) := by decide +kernel
theorem d_Reach_advance_154 : decode prog_4_method_4_code 154 = .ok (.ireturn, 1) := by decide +kernel
set_option maxHeartbeats 4000000 in
set_option maxRecDepth 100000 in
theorem k_Reach_advance_123 (N : Nat) {X : zX} (C : zB X prog_4_method_4_code 10 R_Reach rm_Reach_advance) {h0 : zH} {p : Int32 × zH} (E : zR X (some .boolean) rm_Reach_advance h0 (some (.int p.1)) p.2) {rc12 : Nat → Int32 → Int32 → Int32 → zH → Option (Int32 × zH)} (H12 : ∀ (x0 : Nat) (x1 : Int32) (x2 : Int32) (x3 : Int32) (h : zH), rc12 x0 x1 x2 x3 h = some p → Zt X 10 0 0 12 [(0, .ref x0), (1, .int x1), (2, .int x2), (3, .int x3)] [] h) {rc70 : Nat → Int32 → Int32 → Int32 → Int64 → Int32 → Int32 → zH → Option (Int32 × zH)} (H70 : ∀ (x0 : Nat) (x1 : Int32) (x2 : Int32) (x3 : Int32) (x4 : Int64) (x6 : Int32) (x7 : Int32) (h : zH), rc70 x0 x1 x2 x3 x4 x6 x7 h = some p → Zt X 10 0 0 70 [(0, .ref x0), (1, .int x1), (2, .int x2), (3, .int x3), (4, .long x4), (6, .int x6), (7, .int x7)] [] h) : ∀ (x0 : Nat) (x1 : Int32) (x2 : Int32) (x3 : Int32) (x4 : Int64) (x6 : Int32) (x7 : Int32) (h : zH), f_Reach_advance_123 N rc12 rc70 x0 x1 x2 x3 x4 x6 x7 h = some p → Zt X 10 0 0 123 [(0, .ref x0), (1, .int x1), (2, .int x2), (3, .int x3), (4, .long x4), (6, .int x6), (7, .int x7)] [] h := by
  intro x0 x1 x2 x3 x4 x6 x7 h hf
  unfold f_Reach_advance_123 at hf
  refine z_iinc C (v := (x7 + (1 : Int32))) (lv' := [(7, .int (x7 + (1 : Int32))), (0, .ref x0), (1, .int x1), (2, .int x2), (3, .int x3), (4, .long x4), (6, .int x6)]) 6 d_Reach_advance_123 rfl (by rfl) (by decide) rfl ?_
  refine z_goto (tgt := 70) C d_Reach_advance_126 (by decide) ?_
  refine z_sub [1, 2, 3, 4, 5, 6, 0] rfl ?_
  exact H70 _ _ _ _ _ _ _ _ hf

set_option maxHeartbeats 4000000 in
set_option maxRecDepth 100000 in
theorem k_Reach_advance_70 (N : Nat) {X : zX} (C : zB X prog_4_method_4_code 10 R_Reach rm_Reach_advance) {h0 : zH} {p : Int32 × zH} (E : zR X (some .boolean) rm_Reach_advance h0 (some (.int p.1)) p.2) {rc12 : Nat → Int32 → Int32 → Int32 → zH → Option (Int32 × zH)} (H12 : ∀ (x0 : Nat) (x1 : Int32) (x2 : Int32) (x3 : Int32) (h : zH), rc12 x0 x1 x2 x3 h = some p → Zt X 10 0 0 12 [(0, .ref x0), (1, .int x1), (2, .int x2), (3, .int x3)] [] h) : ∀ n : Nat, ∀ (x0 : Nat) (x1 : Int32) (x2 : Int32) (x3 : Int32) (x4 : Int64) (x6 : Int32) (x7 : Int32) (h : zH), f_Reach_advance_70 N rc12 n x0 x1 x2 x3 x4 x6 x7 h = some p → Zt X 10 0 0 70 [(0, .ref x0), (1, .int x1), (2, .int x2), (3, .int x3), (4, .long x4), (6, .int x6), (7, .int x7)] [] h := by
  intro n
  induction n with
  | zero => intro x0 x1 x2 x3 x4 x6 x7 h hf; cases hf
  | succ n ih =>
  intro x0 x1 x2 x3 x4 x6 x7 h hf
  have H70 := ih
  replace hf : b_Reach_advance_70 N rc12 (f_Reach_advance_70 N rc12 n) x0 x1 x2 x3 x4 x6 x7 h = some p := hf
  unfold b_Reach_advance_70 at hf
  refine z_iload C 6 d_Reach_advance_70 rfl ?_
  refine z_iload C 5 d_Reach_advance_72 rfl ?_
  refine z_ic_gt (tgt := 129) C d_Reach_advance_74 (by decide) hf (fun hf => ?_) (fun hf => ?_)
  · refine z_iinc C (v := (x3 + (1 : Int32))) (lv' := [(3, .int (x3 + (1 : Int32))), (0, .ref x0), (1, .int x1), (2, .int x2), (4, .long x4), (6, .int x6), (7, .int x7)]) 3 d_Reach_advance_129 rfl (by rfl) (by decide) rfl ?_
    refine z_goto (tgt := 12) C d_Reach_advance_132 (by decide) ?_
    refine z_sub [1, 2, 3, 0] rfl ?_
    exact H12 _ _ _ _ _ hf
  · refine z_lconst C (v := (1 : Int64)) d_Reach_advance_77 (by decide) ?_
    refine z_iload C 6 d_Reach_advance_78 rfl ?_
    refine z_iload_n C 3 d_Reach_advance_80 rfl rfl ?_
    refine z_isub C d_Reach_advance_81 ?_
    refine z_bipush C (v := (24 : Int32)) d_Reach_advance_82 (by decide) ?_
    refine z_iadd C d_Reach_advance_84 ?_
    refine z_lshl C d_Reach_advance_85 ?_
    refine z_lstore C (lv' := [(8, .long (z_sl (1 : Int64) ((x7 - x3) + (24 : Int32)))), (0, .ref x0), (1, .int x1), (2, .int x2), (3, .int x3), (4, .long x4), (6, .int x6), (7, .int x7)]) d_Reach_advance_86 (by decide) rfl ?_
    refine z_lload C 5 d_Reach_advance_88 rfl ?_
    refine z_lload C 0 d_Reach_advance_90 rfl ?_
    refine z_land C d_Reach_advance_92 ?_
    refine z_lconst C (v := (0 : Int64)) d_Reach_advance_93 (by decide) ?_
    refine z_lcmp C d_Reach_advance_94 ?_
    refine z_if_eq (tgt := 123) C d_Reach_advance_95 (by decide) hf (fun hf => ?_) (fun hf => ?_)
    · refine z_sub [1, 2, 3, 4, 5, 6, 7] rfl ?_
      exact k_Reach_advance_123 N C E H12 H70 _ _ _ _ _ _ _ _ hf
    · refine z_aload_n C 1 d_Reach_advance_98 rfl rfl ?_
      refine z_iload_n C 2 d_Reach_advance_99 rfl rfl ?_
      refine z_iload_n C 4 d_Reach_advance_100 rfl rfl ?_
      refine z_iload C 7 d_Reach_advance_101 rfl ?_
      obtain ⟨p1, hc, hf⟩ := Option.bind_eq_some_iff.mp hf
      obtain ⟨hz, hc⟩ := zck_some hc
      refine z_callV C (ci := 4) (c_Reach_canStep N C.2.2.1 hc) rfl hz w_401 w_62 w_398 w_400 w_4 pd_Reach_canStep rfl ⟨(Nat.le_of_ble_eq_true rfl), (Nat.le_of_ble_eq_true rfl)⟩ ⟨(Nat.le_of_ble_eq_true rfl), (Nat.le_of_ble_eq_true rfl)⟩ rfl (Nat.le_of_ble_eq_true rfl) d_Reach_advance_103 (k' := 0) (n' := 0) (stk' := [.int p1.1]) rfl rfl rfl ?_
      refine z_if_eq (tgt := 123) C d_Reach_advance_106 (by decide) hf (fun hf => ?_) (fun hf => ?_)
      · refine z_sub [1, 2, 3, 4, 5, 6, 7] rfl ?_
        exact k_Reach_advance_123 N C E H12 H70 _ _ _ _ _ _ _ _ hf
      · refine z_aload_n C 1 d_Reach_advance_109 rfl rfl ?_
        refine z_getR C 4 2 rfl in_Reach (by decide) w_181 rfl d_Reach_advance_110 hf (fun v2 hf => ?_)
        refine z_iload C 7 d_Reach_advance_113 rfl ?_
        refine z_dup2 C d_Reach_advance_115 rfl rfl ?_
        refine z_lald C d_Reach_advance_116 hf (fun v3 hf => ?_)
        refine z_lload C 0 d_Reach_advance_117 rfl ?_
        refine z_lor C d_Reach_advance_119 ?_
        refine z_last C d_Reach_advance_120 hf (fun h4 hf => ?_)
        refine z_iconst C (v := (1 : Int32)) d_Reach_advance_121 (by decide) ?_
        refine z_istore_n C (lv' := [(2, .int (1 : Int32)), (8, .long (z_sl (1 : Int64) ((x7 - x3) + (24 : Int32)))), (0, .ref x0), (1, .int x1), (3, .int x3), (4, .long x4), (6, .int x6), (7, .int x7)]) d_Reach_advance_122 rfl (by decide) rfl ?_
        refine z_sub [2, 3, 0, 4, 5, 6, 7] rfl ?_
        exact k_Reach_advance_123 N C E H12 H70 _ _ _ _ _ _ _ _ hf

set_option maxHeartbeats 4000000 in
set_option maxRecDepth 100000 in
theorem k_Reach_advance_48 (N : Nat) {X : zX} (C : zB X prog_4_method_4_code 10 R_Reach rm_Reach_advance) {h0 : zH} {p : Int32 × zH} (E : zR X (some .boolean) rm_Reach_advance h0 (some (.int p.1)) p.2) {rc12 : Nat → Int32 → Int32 → Int32 → zH → Option (Int32 × zH)} (H12 : ∀ (x0 : Nat) (x1 : Int32) (x2 : Int32) (x3 : Int32) (h : zH), rc12 x0 x1 x2 x3 h = some p → Zt X 10 0 0 12 [(0, .ref x0), (1, .int x1), (2, .int x2), (3, .int x3)] [] h) : ∀ (x0 : Nat) (x1 : Int32) (x2 : Int32) (x3 : Int32) (s0 : Int64) (h : zH), f_Reach_advance_48 N rc12 x0 x1 x2 x3 s0 h = some p → Zt X 10 0 0 48 [(0, .ref x0), (1, .int x1), (2, .int x2), (3, .int x3)] [.long s0] h := by
  intro x0 x1 x2 x3 s0 h hf
  unfold f_Reach_advance_48 at hf
  refine z_lstore C (lv' := [(4, .long s0), (0, .ref x0), (1, .int x1), (2, .int x2), (3, .int x3)]) d_Reach_advance_48 (by decide) rfl ?_
  refine z_aload_n C 1 d_Reach_advance_50 rfl rfl ?_
  refine z_getR C 4 0 rfl in_Reach (by decide) w_179 rfl d_Reach_advance_51 hf (fun v5 hf => ?_)
  refine z_iload_n C 4 d_Reach_advance_54 rfl rfl ?_
  obtain ⟨p6, hc, hf⟩ := Option.bind_eq_some_iff.mp hf
  obtain ⟨hz, hc⟩ := zck_some hc
  refine z_callV C (ci := 2) (c_Site_highestNear N C.2.2.1 hc) rfl hz w_391 w_59 w_388 w_389 w_390 pd_Site_highestNear rfl ⟨(Nat.le_of_ble_eq_true rfl), (Nat.le_of_ble_eq_true rfl)⟩ ⟨(Nat.le_of_ble_eq_true rfl), (Nat.le_of_ble_eq_true rfl)⟩ rfl (Nat.le_of_ble_eq_true rfl) d_Reach_advance_55 (k' := 0) (n' := 0) (stk' := [.int p6.1]) rfl rfl rfl ?_
  refine z_istore C (lv' := [(6, .int p6.1), (4, .long s0), (0, .ref x0), (1, .int x1), (2, .int x2), (3, .int x3)]) d_Reach_advance_58 (by decide) rfl ?_
  refine z_aload_n C 2 d_Reach_advance_60 rfl rfl ?_
  refine z_getR C 4 0 rfl in_Reach (by decide) w_179 rfl d_Reach_advance_61 hf (fun v7 hf => ?_)
  refine z_iload_n C 5 d_Reach_advance_64 rfl rfl ?_
  obtain ⟨p8, hc, hf⟩ := Option.bind_eq_some_iff.mp hf
  obtain ⟨hz, hc⟩ := zck_some hc
  refine z_callV C (ci := 2) (c_Site_lowestNear N C.2.2.1 hc) rfl hz w_396 w_59 w_393 w_394 w_395 pd_Site_lowestNear rfl ⟨(Nat.le_of_ble_eq_true rfl), (Nat.le_of_ble_eq_true rfl)⟩ ⟨(Nat.le_of_ble_eq_true rfl), (Nat.le_of_ble_eq_true rfl)⟩ rfl (Nat.le_of_ble_eq_true rfl) d_Reach_advance_65 (k' := 0) (n' := 0) (stk' := [.int p8.1]) rfl rfl rfl ?_
  refine z_istore C (lv' := [(7, .int p8.1), (6, .int p6.1), (4, .long s0), (0, .ref x0), (1, .int x1), (2, .int x2), (3, .int x3)]) d_Reach_advance_68 (by decide) rfl ?_
  refine z_sub [3, 4, 5, 6, 2, 1, 0] rfl ?_
  exact k_Reach_advance_70 N C E H12 N _ _ _ _ _ _ _ _ hf

set_option maxHeartbeats 4000000 in
set_option maxRecDepth 100000 in
theorem k_Reach_advance_12 (N : Nat) {X : zX} (C : zB X prog_4_method_4_code 10 R_Reach rm_Reach_advance) {h0 : zH} {p : Int32 × zH} (E : zR X (some .boolean) rm_Reach_advance h0 (some (.int p.1)) p.2) : ∀ n : Nat, ∀ (x0 : Nat) (x1 : Int32) (x2 : Int32) (x3 : Int32) (h : zH), f_Reach_advance_12 N n x0 x1 x2 x3 h = some p → Zt X 10 0 0 12 [(0, .ref x0), (1, .int x1), (2, .int x2), (3, .int x3)] [] h := by
  intro n
  induction n with
  | zero => intro x0 x1 x2 x3 h hf; cases hf
  | succ n ih =>
  intro x0 x1 x2 x3 h hf
  have H12 := ih
  replace hf : b_Reach_advance_12 N (f_Reach_advance_12 N n) x0 x1 x2 x3 h = some p := hf
  unfold b_Reach_advance_12 at hf
  refine z_iload_n C 3 d_Reach_advance_12 rfl rfl ?_
  refine z_aload_n C 0 d_Reach_advance_13 rfl rfl ?_
  refine z_getR C 4 0 rfl in_Reach (by decide) w_179 rfl d_Reach_advance_14 hf (fun v9 hf => ?_)
  refine z_getI C 2 1 rfl in_Site (by decide) w_98 rfl d_Reach_advance_17 hf (fun v10 hf => ?_)
  refine z_ic_gt (tgt := 135) C d_Reach_advance_20 (by decide) hf (fun hf => ?_) (fun hf => ?_)
  · refine z_aload_n C 0 d_Reach_advance_135 rfl rfl ?_
    refine z_getR C 4 1 rfl in_Reach (by decide) w_180 rfl d_Reach_advance_136 hf (fun v11 hf => ?_)
    refine z_astore_n C (lv' := [(3, .ref v11), (0, .ref x0), (1, .int x1), (2, .int x2)]) d_Reach_advance_139 rfl (by decide) rfl ?_
    refine z_aload_n C 1 d_Reach_advance_140 rfl rfl ?_
    refine z_aload_n C 1 d_Reach_advance_141 rfl rfl ?_
    refine z_getR C 4 2 rfl in_Reach (by decide) w_181 rfl d_Reach_advance_142 hf (fun v12 hf => ?_)
    refine z_put C 4 1 ty_Reach rfl in_Reach tyok_Reach nm_Reach (by decide) w_180 rfl (Or.inl rfl) rfl rfl rfl d_Reach_advance_145 hf (fun h13 hf => ?_)
    refine z_aload_n C 1 d_Reach_advance_148 rfl rfl ?_
    refine z_aload_n C 0 d_Reach_advance_149 rfl rfl ?_
    refine z_put C 4 2 ty_Reach rfl in_Reach tyok_Reach nm_Reach (by decide) w_181 rfl (Or.inl rfl) rfl rfl rfl d_Reach_advance_150 hf (fun h14 hf => ?_)
    refine z_iload_n C 3 d_Reach_advance_153 rfl rfl ?_
    exact z_zret C E (Nat.le_of_ble_eq_true rfl) (Nat.le_of_ble_eq_true rfl) d_Reach_advance_154 hf
  · refine z_aload_n C 0 d_Reach_advance_23 rfl rfl ?_
    refine z_getR C 4 1 rfl in_Reach (by decide) w_180 rfl d_Reach_advance_24 hf (fun v15 hf => ?_)
    refine z_iload_n C 3 d_Reach_advance_27 rfl rfl ?_
    refine z_lald C d_Reach_advance_28 hf (fun v16 hf => ?_)
    refine z_lconst C (v := (0 : Int64)) d_Reach_advance_29 (by decide) ?_
    refine z_lcmp C d_Reach_advance_30 ?_
    refine z_if_ne (tgt := 38) C d_Reach_advance_31 (by decide) hf (fun hf => ?_) (fun hf => ?_)
    · refine z_aload_n C 0 d_Reach_advance_38 rfl rfl ?_
      refine z_aload_n C 0 d_Reach_advance_39 rfl rfl ?_
      refine z_getR C 4 1 rfl in_Reach (by decide) w_180 rfl d_Reach_advance_40 hf (fun v17 hf => ?_)
      refine z_iload_n C 3 d_Reach_advance_43 rfl rfl ?_
      refine z_lald C d_Reach_advance_44 hf (fun v18 hf => ?_)
      obtain ⟨p19, hc, hf⟩ := Option.bind_eq_some_iff.mp hf
      obtain ⟨hz, hc⟩ := zck_some hc
      refine z_callV C (ci := 4) (c_Reach_widened N C.2.2.1 hc) rfl hz w_387 w_62 w_384 w_386 w_3 pd_Reach_widened rfl ⟨(Nat.le_of_ble_eq_true rfl), (Nat.le_of_ble_eq_true rfl)⟩ ⟨(Nat.le_of_ble_eq_true rfl), (Nat.le_of_ble_eq_true rfl)⟩ rfl (Nat.le_of_ble_eq_true rfl) d_Reach_advance_45 (k' := 0) (n' := 0) (stk' := [.long p19.1]) rfl rfl rfl ?_
      refine z_sub [0, 1, 2, 3] rfl ?_
      exact k_Reach_advance_48 N C E H12 _ _ _ _ _ _ hf
    · refine z_lconst C (v := (0 : Int64)) d_Reach_advance_34 (by decide) ?_
      refine z_goto (tgt := 48) C d_Reach_advance_35 (by decide) ?_
      refine z_sub [0, 1, 2, 3] rfl ?_
      exact k_Reach_advance_48 N C E H12 _ _ _ _ _ _ hf

set_option maxHeartbeats 4000000 in
set_option maxRecDepth 100000 in
theorem k_Reach_advance (N : Nat) {X : zX} (C : zB X prog_4_method_4_code 10 R_Reach rm_Reach_advance) {h0 : zH} {p : Int32 × zH} (E : zR X (some .boolean) rm_Reach_advance h0 (some (.int p.1)) p.2) : ∀ (x0 : Nat) (x1 : Int32) (h : zH), f_Reach_advance N x0 x1 h = some p → Zt X 10 0 0 0 [(0, .ref x0), (1, .int x1)] [] h := by
  intro x0 x1 h hf
  unfold f_Reach_advance at hf
  refine z_aload_n C 0 d_Reach_advance_0 rfl rfl ?_
  refine z_getR C 4 2 rfl in_Reach (by decide) w_181 rfl d_Reach_advance_1 hf (fun v20 hf => ?_)
  refine z_lconst C (v := (0 : Int64)) d_Reach_advance_4 (by decide) ?_
  obtain ⟨p21, hc, hf⟩ := Option.bind_eq_some_iff.mp hf
  refine z_callS C (c_Arrays_fill_AJJV N C.2.2.1 hc) w_383 w_60 w_381 w_382 pd_Arrays_fill_AJJV rfl ⟨(Nat.le_of_ble_eq_true rfl), (Nat.le_of_ble_eq_true rfl)⟩ ⟨(Nat.le_of_ble_eq_true rfl), (Nat.le_of_ble_eq_true rfl)⟩ rfl (Nat.le_of_ble_eq_true rfl) d_Reach_advance_5 (k' := 0) (n' := 0) (stk' := []) rfl rfl rfl ?_
  refine z_iconst C (v := (0 : Int32)) d_Reach_advance_8 (by decide) ?_
  refine z_istore_n C (lv' := [(2, .int (0 : Int32)), (0, .ref x0), (1, .int x1)]) d_Reach_advance_9 rfl (by decide) rfl ?_
  refine z_iconst C (v := (0 : Int32)) d_Reach_advance_10 (by decide) ?_
  refine z_istore_n C (lv' := [(3, .int (0 : Int32)), (2, .int (0 : Int32)), (0, .ref x0), (1, .int x1)]) d_Reach_advance_11 rfl (by decide) rfl ?_
  refine z_sub [2, 3, 1, 0] rfl ?_
  exact k_Reach_advance_12 N C E N _ _ _ _ _ hf

theorem c_Reach_advance (N : Nat) {l : Launch} {D : va_G} {T : List (ClassId × FieldType)} (hT : T.map (fun q => q.2) = ztl) {x0 : Nat} {x1 : Int32} {h : zH} {p : Int32 × zH} (hf : f_Reach_advance N x0 x1 h = some p) : zM l y_Reach_advance prog_4_method_4_code 10 (some .boolean) rm_Reach_advance D T [.ref x0, .int x1] h (some (.int p.1)) p.2 :=
  z_enter (by decide) hT (Nat.le_of_ble_eq_true rfl) (fun X el eD eT hin C E => k_Reach_advance N C E x0 x1 h hf)
/-! ===== LevelTables$Search.fillLast([JI)V ===== -/
abbrev y_Search_fillLast : MethodName := ⟨R_Search, "fillLast", "([JI)V"⟩
theorem pd_Search_fillLast : y_Search_fillLast.cls ≠ "java/lang/invoke/MethodHandle" ∧ y_Search_fillLast.cls ≠ "java/lang/invoke/VarHandle" ∧ (parseMethodDescriptor y_Search_fillLast.desc).map (fun d => d.parameters.length) = some 2 := ⟨by decide +kernel, by decide +kernel, by decide +kernel⟩
abbrev rm_Search_fillLast : Room := { frames := 2, cells := 0, slots := 0, locals := 45 }
def f_Search_fillLast_64 (N : Nat) (rc33 : Nat → Nat → Int32 → Int64 → Int32 → Int32 → zH → Option (Unit × zH)) (x0 : Nat) (x1 : Nat) (x2 : Int32) (x3 : Int64) (x5 : Int32) (x6 : Int32) (h : zH) : Option (Unit × zH) :=
  rc33 x0 x1 x2 x3 x5 (x6 + (1 : Int32)) h
def b_Search_fillLast_33 (N : Nat) (rc33 : Nat → Nat → Int32 → Int64 → Int32 → Int32 → zH → Option (Unit × zH)) (x0 : Nat) (x1 : Nat) (x2 : Int32) (x3 : Int64) (x5 : Int32) (x6 : Int32) (h : zH) : Option (Unit × zH) :=
  (if x5 < x6 then
    some ((), h)
  else
    Option.bind (zgR h x0 8 0) fun (v1 : Nat) =>
    Option.bind (zck (zis h v1 2) (f_Site_slopeFits N v1 (x2 - x6) h)) fun (p2 : Int32 × zH) =>
    (if p2.1 = 0 then
      f_Search_fillLast_64 N rc33 x0 x1 x2 x3 x5 x6 p2.2
    else
      Option.bind (zck (zis p2.2 x0 8) (f_Search_indexOf N x0 x2 x6 p2.2)) fun (p3 : Int32 × zH) =>
      Option.bind (zsJ p3.2 1 x1 p3.1 x3) fun (h4 : zH) =>
      f_Search_fillLast_64 N rc33 x0 x1 x2 x3 x5 x6 h4))
def f_Search_fillLast_33 (N : Nat) : Nat → Nat → Nat → Int32 → Int64 → Int32 → Int32 → zH → Option (Unit × zH)
  | 0 => fun _ _ _ _ _ _ _ => none
  | n + 1 => fun x0 x1 x2 x3 x5 x6 h => b_Search_fillLast_33 N (f_Search_fillLast_33 N n) x0 x1 x2 x3 x5 x6 h
def f_Search_fillLast (N : Nat) (x0 : Nat) (x1 : Nat) (x2 : Int32) (h : zH) : Option (Unit × zH) :=
  Option.bind (zgR h x0 8 0) fun (v5 : Nat) =>
  Option.bind (zgI h v5 2 0) fun (v6 : Int32) =>
  Option.bind (zck (zis h x0 8) (f_Search_earthValue N x0 v6 x2 h)) fun (p7 : Int64 × zH) =>
  Option.bind (zgR p7.2 x0 8 0) fun (v8 : Nat) =>
  Option.bind (zck (zis p7.2 v8 2) (f_Site_highestNear N v8 x2 p7.2)) fun (p9 : Int32 × zH) =>
  Option.bind (zgR p9.2 x0 8 0) fun (v10 : Nat) =>
  Option.bind (zck (zis p9.2 v10 2) (f_Site_lowestNear N v10 x2 p9.2)) fun (p11 : Int32 × zH) =>
  f_Search_fillLast_33 N N x0 x1 x2 p7.1 p9.1 p11.1 p11.2
theorem d_Search_fillLast_0 : decode prog_5_method_9_code 0 = .ok (.aload_n (0), 1) := by decide +kernel
theorem d_Search_fillLast_1 : decode prog_5_method_9_code 1 = .ok (.aload_n (0), 1) := by decide +kernel
theorem d_Search_fillLast_2 : decode prog_5_method_9_code 2 = .ok (.getfield (15), 3) := by decide +kernel
theorem d_Search_fillLast_5 : decode prog_5_method_9_code 5 = .ok (.getfield (47), 3) := by decide +kernel
theorem d_Search_fillLast_8 : decode prog_5_method_9_code 8 = .ok (.iload_n (2), 1) := by decide +kernel
theorem d_Search_fillLast_9 : decode prog_5_method_9_code 9 = .ok (.invokevirtual (113), 3) := by decide +kernel
theorem d_Search_fillLast_12 : decode prog_5_method_9_code 12 = .ok (.lstore_n (3), 1) := by decide +kernel
theorem d_Search_fillLast_13 : decode prog_5_method_9_code 13 = .ok (.aload_n (0), 1) := by decide +kernel
theorem d_Search_fillLast_14 : decode prog_5_method_9_code 14 = .ok (.getfield (15), 3) := by decide +kernel
theorem d_Search_fillLast_17 : decode prog_5_method_9_code 17 = .ok (.iload_n (2), 1) := by decide +kernel
theorem d_Search_fillLast_18 : decode prog_5_method_9_code 18 = .ok (.invokevirtual (117), 3) := by decide +kernel
theorem d_Search_fillLast_21 : decode prog_5_method_9_code 21 = .ok (.istore (5), 2) := by decide +kernel
theorem d_Search_fillLast_23 : decode prog_5_method_9_code 23 = .ok (.aload_n (0), 1) := by decide +kernel
theorem d_Search_fillLast_24 : decode prog_5_method_9_code 24 = .ok (.getfield (15), 3) := by decide +kernel
theorem d_Search_fillLast_27 : decode prog_5_method_9_code 27 = .ok (.iload_n (2), 1) := by decide +kernel
theorem d_Search_fillLast_28 : decode prog_5_method_9_code 28 = .ok (.invokevirtual (120), 3) := by decide +kernel
theorem d_Search_fillLast_31 : decode prog_5_method_9_code 31 = .ok (.istore (6), 2) := by decide +kernel
theorem d_Search_fillLast_33 : decode prog_5_method_9_code 33 = .ok (.iload (6), 2) := by decide +kernel
theorem d_Search_fillLast_35 : decode prog_5_method_9_code 35 = .ok (.iload (5), 2) := by decide +kernel
theorem d_Search_fillLast_37 : decode prog_5_method_9_code 37 = .ok (.if_icmp .gt (33), 3) := by decide +kernel
theorem d_Search_fillLast_40 : decode prog_5_method_9_code 40 = .ok (.aload_n (0), 1) := by decide +kernel
theorem d_Search_fillLast_41 : decode prog_5_method_9_code 41 = .ok (.getfield (15), 3) := by decide +kernel
theorem d_Search_fillLast_44 : decode prog_5_method_9_code 44 = .ok (.iload_n (2), 1) := by decide +kernel
theorem d_Search_fillLast_45 : decode prog_5_method_9_code 45 = .ok (.iload (6), 2) := by decide +kernel
theorem d_Search_fillLast_47 : decode prog_5_method_9_code 47 = .ok (.isub, 1) := by decide +kernel
theorem d_Search_fillLast_48 : decode prog_5_method_9_code 48 = .ok (.invokevirtual (123), 3) := by decide +kernel
theorem d_Search_fillLast_51 : decode prog_5_method_9_code 51 = .ok (.ifCond .eq (13), 3) := by decide +kernel
theorem d_Search_fillLast_54 : decode prog_5_method_9_code 54 = .ok (.aload_n (1), 1) := by decide +kernel
theorem d_Search_fillLast_55 : decode prog_5_method_9_code 55 = .ok (.aload_n (0), 1) := by decide +kernel
theorem d_Search_fillLast_56 : decode prog_5_method_9_code 56 = .ok (.iload_n (2), 1) := by decide +kernel
theorem d_Search_fillLast_57 : decode prog_5_method_9_code 57 = .ok (.iload (6), 2) := by decide +kernel
theorem d_Search_fillLast_59 : decode prog_5_method_9_code 59 = .ok (.invokevirtual (126), 3) := by decide +kernel
theorem d_Search_fillLast_62 : decode prog_5_method_9_code 62 = .ok (.lload_n (3), 1) := by decide +kernel
theorem d_Search_fillLast_63 : decode prog_5_method_9_code 63 = .ok (.lastore, 1) := by decide +kernel
theorem d_Search_fillLast_64 : decode prog_5_method_9_code 64 = .ok (.iinc (6) (1), 3) := by decide +kernel
theorem d_Search_fillLast_67 : decode prog_5_method_9_code 67 = .ok (.goto (-34), 3) := by decide +kernel
theorem d_Search_fillLast_70 : decode prog_5_method_9_code 70 = .ok (.return_, 1) := by decide +kernel
set_option maxHeartbeats 4000000 in
set_option maxRecDepth 100000 in
theorem k_Search_fillLast_64 (N : Nat) {X : zX} (C : zB X prog_5_method_9_code 7 R_Search rm_Search_fillLast) {h0 : zH} {p : Unit × zH} (E : zR X none rm_Search_fillLast h0 none p.2) {rc33 : Nat → Nat → Int32 → Int64 → Int32 → Int32 → zH → Option (Unit × zH)} (H33 : ∀ (x0 : Nat) (x1 : Nat) (x2 : Int32) (x3 : Int64) (x5 : Int32) (x6 : Int32) (h : zH), rc33 x0 x1 x2 x3 x5 x6 h = some p → Zt X 7 0 0 33 [(0, .ref x0), (1, .ref x1), (2, .int x2), (3, .long x3), (5, .int x5), (6, .int x6)] [] h) : ∀ (x0 : Nat) (x1 : Nat) (x2 : Int32) (x3 : Int64) (x5 : Int32) (x6 : Int32) (h : zH), f_Search_fillLast_64 N rc33 x0 x1 x2 x3 x5 x6 h = some p → Zt X 7 0 0 64 [(0, .ref x0), (1, .ref x1), (2, .int x2), (3, .long x3), (5, .int x5), (6, .int x6)] [] h := by
  intro x0 x1 x2 x3 x5 x6 h hf
  unfold f_Search_fillLast_64 at hf
  refine z_iinc C (v := (x6 + (1 : Int32))) (lv' := [(6, .int (x6 + (1 : Int32))), (0, .ref x0), (1, .ref x1), (2, .int x2), (3, .long x3), (5, .int x5)]) 5 d_Search_fillLast_64 rfl (by rfl) (by decide) rfl ?_
  refine z_goto (tgt := 33) C d_Search_fillLast_67 (by decide) ?_
  refine z_sub [1, 2, 3, 4, 5, 0] rfl ?_
  exact H33 _ _ _ _ _ _ _ hf

set_option maxHeartbeats 4000000 in
set_option maxRecDepth 100000 in
theorem k_Search_fillLast_33 (N : Nat) {X : zX} (C : zB X prog_5_method_9_code 7 R_Search rm_Search_fillLast) {h0 : zH} {p : Unit × zH} (E : zR X none rm_Search_fillLast h0 none p.2) : ∀ n : Nat, ∀ (x0 : Nat) (x1 : Nat) (x2 : Int32) (x3 : Int64) (x5 : Int32) (x6 : Int32) (h : zH), f_Search_fillLast_33 N n x0 x1 x2 x3 x5 x6 h = some p → Zt X 7 0 0 33 [(0, .ref x0), (1, .ref x1), (2, .int x2), (3, .long x3), (5, .int x5), (6, .int x6)] [] h := by
  intro n
  induction n with
  | zero => intro x0 x1 x2 x3 x5 x6 h hf; cases hf
  | succ n ih =>
  intro x0 x1 x2 x3 x5 x6 h hf
  have H33 := ih
  replace hf : b_Search_fillLast_33 N (f_Search_fillLast_33 N n) x0 x1 x2 x3 x5 x6 h = some p := hf
  unfold b_Search_fillLast_33 at hf
  refine z_iload C 5 d_Search_fillLast_33 rfl ?_
  refine z_iload C 4 d_Search_fillLast_35 rfl ?_
  refine z_ic_gt (tgt := 70) C d_Search_fillLast_37 (by decide) hf (fun hf => ?_) (fun hf => ?_)
  · exact z_vret C E (Nat.le_of_ble_eq_true rfl) (Nat.le_of_ble_eq_true rfl) d_Search_fillLast_70 hf
  · refine z_aload_n C 0 d_Search_fillLast_40 rfl rfl ?_
    refine z_getR C 8 0 rfl in_Search (by decide) w_422 rfl d_Search_fillLast_41 hf (fun v1 hf => ?_)
    refine z_iload_n C 2 d_Search_fillLast_44 rfl rfl ?_
    refine z_iload C 5 d_Search_fillLast_45 rfl ?_
    refine z_isub C d_Search_fillLast_47 ?_
    obtain ⟨p2, hc, hf⟩ := Option.bind_eq_some_iff.mp hf
    obtain ⟨hz, hc⟩ := zck_some hc
    refine z_callV C (ci := 2) (c_Site_slopeFits N C.2.2.1 hc) rfl hz w_405 w_59 w_485 w_403 w_404 pd_Site_slopeFits rfl ⟨(Nat.le_of_ble_eq_true rfl), (Nat.le_of_ble_eq_true rfl)⟩ ⟨(Nat.le_of_ble_eq_true rfl), (Nat.le_of_ble_eq_true rfl)⟩ rfl (Nat.le_of_ble_eq_true rfl) d_Search_fillLast_48 (k' := 0) (n' := 0) (stk' := [.int p2.1]) rfl rfl rfl ?_
    refine z_if_eq (tgt := 64) C d_Search_fillLast_51 (by decide) hf (fun hf => ?_) (fun hf => ?_)
    · refine z_sub [0, 1, 2, 3, 4, 5] rfl ?_
      exact k_Search_fillLast_64 N C E H33 _ _ _ _ _ _ _ hf
    · refine z_aload_n C 1 d_Search_fillLast_54 rfl rfl ?_
      refine z_aload_n C 0 d_Search_fillLast_55 rfl rfl ?_
      refine z_iload_n C 2 d_Search_fillLast_56 rfl rfl ?_
      refine z_iload C 5 d_Search_fillLast_57 rfl ?_
      obtain ⟨p3, hc, hf⟩ := Option.bind_eq_some_iff.mp hf
      obtain ⟨hz, hc⟩ := zck_some hc
      refine z_callV C (ci := 8) (c_Search_indexOf N C.2.2.1 hc) rfl hz w_489 w_67 w_486 w_488 w_10 pd_Search_indexOf rfl ⟨(Nat.le_of_ble_eq_true rfl), (Nat.le_of_ble_eq_true rfl)⟩ ⟨(Nat.le_of_ble_eq_true rfl), (Nat.le_of_ble_eq_true rfl)⟩ rfl (Nat.le_of_ble_eq_true rfl) d_Search_fillLast_59 (k' := 0) (n' := 0) (stk' := [.int p3.1, .ref x1]) rfl rfl rfl ?_
      refine z_lload_n C 3 d_Search_fillLast_62 rfl rfl ?_
      refine z_last C d_Search_fillLast_63 hf (fun h4 hf => ?_)
      refine z_sub [0, 1, 2, 3, 4, 5] rfl ?_
      exact k_Search_fillLast_64 N C E H33 _ _ _ _ _ _ _ hf

set_option maxHeartbeats 4000000 in
set_option maxRecDepth 100000 in
theorem k_Search_fillLast (N : Nat) {X : zX} (C : zB X prog_5_method_9_code 7 R_Search rm_Search_fillLast) {h0 : zH} {p : Unit × zH} (E : zR X none rm_Search_fillLast h0 none p.2) : ∀ (x0 : Nat) (x1 : Nat) (x2 : Int32) (h : zH), f_Search_fillLast N x0 x1 x2 h = some p → Zt X 7 0 0 0 [(0, .ref x0), (1, .ref x1), (2, .int x2)] [] h := by
  intro x0 x1 x2 h hf
  unfold f_Search_fillLast at hf
  refine z_aload_n C 0 d_Search_fillLast_0 rfl rfl ?_
  refine z_aload_n C 0 d_Search_fillLast_1 rfl rfl ?_
  refine z_getR C 8 0 rfl in_Search (by decide) w_422 rfl d_Search_fillLast_2 hf (fun v5 hf => ?_)
  refine z_getI C 2 0 rfl in_Site (by decide) w_95 rfl d_Search_fillLast_5 hf (fun v6 hf => ?_)
  refine z_iload_n C 2 d_Search_fillLast_8 rfl rfl ?_
  obtain ⟨p7, hc, hf⟩ := Option.bind_eq_some_iff.mp hf
  obtain ⟨hz, hc⟩ := zck_some hc
  refine z_callV C (ci := 8) (c_Search_earthValue N C.2.2.1 hc) rfl hz w_478 w_67 w_475 w_477 w_9 pd_Search_earthValue rfl ⟨(Nat.le_of_ble_eq_true rfl), (Nat.le_of_ble_eq_true rfl)⟩ ⟨(Nat.le_of_ble_eq_true rfl), (Nat.le_of_ble_eq_true rfl)⟩ rfl (Nat.le_of_ble_eq_true rfl) d_Search_fillLast_9 (k' := 0) (n' := 0) (stk' := [.long p7.1]) rfl rfl rfl ?_
  refine z_lstore_n C (lv' := [(3, .long p7.1), (0, .ref x0), (1, .ref x1), (2, .int x2)]) d_Search_fillLast_12 rfl (by decide) rfl ?_
  refine z_aload_n C 1 d_Search_fillLast_13 rfl rfl ?_
  refine z_getR C 8 0 rfl in_Search (by decide) w_422 rfl d_Search_fillLast_14 hf (fun v8 hf => ?_)
  refine z_iload_n C 3 d_Search_fillLast_17 rfl rfl ?_
  obtain ⟨p9, hc, hf⟩ := Option.bind_eq_some_iff.mp hf
  obtain ⟨hz, hc⟩ := zck_some hc
  refine z_callV C (ci := 2) (c_Site_highestNear N C.2.2.1 hc) rfl hz w_391 w_59 w_483 w_389 w_390 pd_Site_highestNear rfl ⟨(Nat.le_of_ble_eq_true rfl), (Nat.le_of_ble_eq_true rfl)⟩ ⟨(Nat.le_of_ble_eq_true rfl), (Nat.le_of_ble_eq_true rfl)⟩ rfl (Nat.le_of_ble_eq_true rfl) d_Search_fillLast_18 (k' := 0) (n' := 0) (stk' := [.int p9.1]) rfl rfl rfl ?_
  refine z_istore C (lv' := [(5, .int p9.1), (3, .long p7.1), (0, .ref x0), (1, .ref x1), (2, .int x2)]) d_Search_fillLast_21 (by decide) rfl ?_
  refine z_aload_n C 2 d_Search_fillLast_23 rfl rfl ?_
  refine z_getR C 8 0 rfl in_Search (by decide) w_422 rfl d_Search_fillLast_24 hf (fun v10 hf => ?_)
  refine z_iload_n C 4 d_Search_fillLast_27 rfl rfl ?_
  obtain ⟨p11, hc, hf⟩ := Option.bind_eq_some_iff.mp hf
  obtain ⟨hz, hc⟩ := zck_some hc
  refine z_callV C (ci := 2) (c_Site_lowestNear N C.2.2.1 hc) rfl hz w_396 w_59 w_484 w_394 w_395 pd_Site_lowestNear rfl ⟨(Nat.le_of_ble_eq_true rfl), (Nat.le_of_ble_eq_true rfl)⟩ ⟨(Nat.le_of_ble_eq_true rfl), (Nat.le_of_ble_eq_true rfl)⟩ rfl (Nat.le_of_ble_eq_true rfl) d_Search_fillLast_28 (k' := 0) (n' := 0) (stk' := [.int p11.1]) rfl rfl rfl ?_
  refine z_istore C (lv' := [(6, .int p11.1), (5, .int p9.1), (3, .long p7.1), (0, .ref x0), (1, .ref x1), (2, .int x2)]) d_Search_fillLast_31 (by decide) rfl ?_
  refine z_sub [3, 4, 5, 2, 1, 0] rfl ?_
  exact k_Search_fillLast_33 N C E N _ _ _ _ _ _ _ hf

theorem c_Search_fillLast (N : Nat) {l : Launch} {D : va_G} {T : List (ClassId × FieldType)} (hT : T.map (fun q => q.2) = ztl) {x0 : Nat} {x1 : Nat} {x2 : Int32} {h : zH} {p : Unit × zH} (hf : f_Search_fillLast N x0 x1 x2 h = some p) : zM l y_Search_fillLast prog_5_method_9_code 7 none rm_Search_fillLast D T [.ref x0, .ref x1, .int x2] h none p.2 :=
  z_enter (by decide) hT (Nat.le_of_ble_eq_true rfl) (fun X el eD eT hin C E => k_Search_fillLast N C E x0 x1 x2 h hf)
/-! ===== LevelTables$Search.addStep(III)V ===== -/
abbrev y_Search_addStep : MethodName := ⟨R_Search, "addStep", "(III)V"⟩
theorem pd_Search_addStep : y_Search_addStep.cls ≠ "java/lang/invoke/MethodHandle" ∧ y_Search_addStep.cls ≠ "java/lang/invoke/VarHandle" ∧ (parseMethodDescriptor y_Search_addStep.desc).map (fun d => d.parameters.length) = some 3 := ⟨by decide +kernel, by decide +kernel, by decide +kernel⟩
abbrev rm_Search_addStep : Room := { frames := 2, cells := 0, slots := 0, locals := 56 }
def f_Search_addStep (N : Nat) (x0 : Nat) (x1 : Int32) (x2 : Int32) (x3 : Int32) (h : zH) : Option (Unit × zH) :=
  Option.bind (zck (zis h x0 8) (f_Search_earthValue N x0 x1 x2 h)) fun (p1 : Int64 × zH) =>
  Option.bind (zgJ p1.2 x0 8 6) fun (v2 : Int64) =>
  Option.bind (zgR p1.2 x0 8 8) fun (v3 : Nat) =>
  Option.bind (zgI p1.2 x0 8 3) fun (v4 : Int32) =>
  Option.bind (zgR p1.2 x0 8 7) fun (v5 : Nat) =>
  Option.bind (zck (zis p1.2 x0 8) (f_Search_slotOf N x0 (x1 + (1 : Int32)) p1.2)) fun (p6 : Int32 × zH) =>
  Option.bind (zaR p6.2 3 v5 p6.1) fun (v7 : Nat) =>
  Option.bind (zck (zis p6.2 x0 8) (f_Search_indexOf N x0 x3 x2 p6.2)) fun (p8 : Int32 × zH) =>
  Option.bind (zck (zis p8.2 x0 8) (f_Search_merge N x0 v3 (x3 * v4) v7 p8.1 (p1.1 + (v2 * (Int32.toInt64 (zabs (x3 - x2))))) p8.2)) fun (p9 : Unit × zH) =>
  some ((), p9.2)
theorem d_Search_addStep_0 : decode prog_5_method_15_code 0 = .ok (.aload_n (0), 1) := by decide +kernel
theorem d_Search_addStep_1 : decode prog_5_method_15_code 1 = .ok (.iload_n (1), 1) := by decide +kernel
theorem d_Search_addStep_2 : decode prog_5_method_15_code 2 = .ok (.iload_n (2), 1) := by decide +kernel
theorem d_Search_addStep_3 : decode prog_5_method_15_code 3 = .ok (.invokevirtual (113), 3) := by decide +kernel
theorem d_Search_addStep_6 : decode prog_5_method_15_code 6 = .ok (.aload_n (0), 1) := by decide +kernel
theorem d_Search_addStep_7 : decode prog_5_method_15_code 7 = .ok (.getfield (44), 3) := by decide +kernel
theorem d_Search_addStep_10 : decode prog_5_method_15_code 10 = .ok (.iload_n (3), 1) := by decide +kernel
theorem d_Search_addStep_11 : decode prog_5_method_15_code 11 = .ok (.iload_n (2), 1) := by decide +kernel
theorem d_Search_addStep_12 : decode prog_5_method_15_code 12 = .ok (.isub, 1) := by decide +kernel
theorem d_Search_addStep_13 : decode prog_5_method_15_code 13 = .ok (.invokestatic (162), 3) := by decide +kernel
theorem d_Search_addStep_16 : decode prog_5_method_15_code 16 = .ok (.i2l, 1) := by decide +kernel
theorem d_Search_addStep_17 : decode prog_5_method_15_code 17 = .ok (.lmul, 1) := by decide +kernel
theorem d_Search_addStep_18 : decode prog_5_method_15_code 18 = .ok (.ladd, 1) := by decide +kernel
theorem d_Search_addStep_19 : decode prog_5_method_15_code 19 = .ok (.lstore (4), 2) := by decide +kernel
theorem d_Search_addStep_21 : decode prog_5_method_15_code 21 = .ok (.aload_n (0), 1) := by decide +kernel
theorem d_Search_addStep_22 : decode prog_5_method_15_code 22 = .ok (.aload_n (0), 1) := by decide +kernel
theorem d_Search_addStep_23 : decode prog_5_method_15_code 23 = .ok (.getfield (55), 3) := by decide +kernel
theorem d_Search_addStep_26 : decode prog_5_method_15_code 26 = .ok (.iload_n (3), 1) := by decide +kernel
theorem d_Search_addStep_27 : decode prog_5_method_15_code 27 = .ok (.aload_n (0), 1) := by decide +kernel
theorem d_Search_addStep_28 : decode prog_5_method_15_code 28 = .ok (.getfield (23), 3) := by decide +kernel
theorem d_Search_addStep_31 : decode prog_5_method_15_code 31 = .ok (.imul, 1) := by decide +kernel
theorem d_Search_addStep_32 : decode prog_5_method_15_code 32 = .ok (.aload_n (0), 1) := by decide +kernel
theorem d_Search_addStep_33 : decode prog_5_method_15_code 33 = .ok (.getfield (52), 3) := by decide +kernel
theorem d_Search_addStep_36 : decode prog_5_method_15_code 36 = .ok (.aload_n (0), 1) := by decide +kernel
theorem d_Search_addStep_37 : decode prog_5_method_15_code 37 = .ok (.iload_n (1), 1) := by decide +kernel
theorem d_Search_addStep_38 : decode prog_5_method_15_code 38 = .ok (.iconst (1), 1) := by decide +kernel
theorem d_Search_addStep_39 : decode prog_5_method_15_code 39 = .ok (.iadd, 1) := by decide +kernel
theorem d_Search_addStep_40 : decode prog_5_method_15_code 40 = .ok (.invokevirtual (82), 3) := by decide +kernel
theorem d_Search_addStep_43 : decode prog_5_method_15_code 43 = .ok (.aaload, 1) := by decide +kernel
theorem d_Search_addStep_44 : decode prog_5_method_15_code 44 = .ok (.aload_n (0), 1) := by decide +kernel
theorem d_Search_addStep_45 : decode prog_5_method_15_code 45 = .ok (.iload_n (3), 1) := by decide +kernel
theorem d_Search_addStep_46 : decode prog_5_method_15_code 46 = .ok (.iload_n (2), 1) := by decide +kernel
theorem d_Search_addStep_47 : decode prog_5_method_15_code 47 = .ok (.invokevirtual (126), 3) := by decide +kernel
theorem d_Search_addStep_50 : decode prog_5_method_15_code 50 = .ok (.lload (4), 2) := by decide +kernel
theorem d_Search_addStep_52 : decode prog_5_method_15_code 52 = .ok (.invokevirtual (145), 3) := by decide +kernel
theorem d_Search_addStep_55 : decode prog_5_method_15_code 55 = .ok (.return_, 1) := by decide +kernel
set_option maxHeartbeats 4000000 in
set_option maxRecDepth 100000 in
theorem k_Search_addStep (N : Nat) {X : zX} (C : zB X prog_5_method_15_code 6 R_Search rm_Search_addStep) {h0 : zH} {p : Unit × zH} (E : zR X none rm_Search_addStep h0 none p.2) : ∀ (x0 : Nat) (x1 : Int32) (x2 : Int32) (x3 : Int32) (h : zH), f_Search_addStep N x0 x1 x2 x3 h = some p → Zt X 6 0 0 0 [(0, .ref x0), (1, .int x1), (2, .int x2), (3, .int x3)] [] h := by
  intro x0 x1 x2 x3 h hf
  unfold f_Search_addStep at hf
  refine z_aload_n C 0 d_Search_addStep_0 rfl rfl ?_
  refine z_iload_n C 1 d_Search_addStep_1 rfl rfl ?_
  refine z_iload_n C 2 d_Search_addStep_2 rfl rfl ?_
  obtain ⟨p1, hc, hf⟩ := Option.bind_eq_some_iff.mp hf
  obtain ⟨hz, hc⟩ := zck_some hc
  refine z_callV C (ci := 8) (c_Search_earthValue N C.2.2.1 hc) rfl hz w_478 w_67 w_475 w_477 w_9 pd_Search_earthValue rfl ⟨(Nat.le_of_ble_eq_true rfl), (Nat.le_of_ble_eq_true rfl)⟩ ⟨(Nat.le_of_ble_eq_true rfl), (Nat.le_of_ble_eq_true rfl)⟩ rfl (Nat.le_of_ble_eq_true rfl) d_Search_addStep_3 (k' := 0) (n' := 0) (stk' := [.long p1.1]) rfl rfl rfl ?_
  refine z_aload_n C 0 d_Search_addStep_6 rfl rfl ?_
  refine z_getJ C 8 6 rfl in_Search (by decide) w_428 rfl d_Search_addStep_7 hf (fun v2 hf => ?_)
  refine z_iload_n C 3 d_Search_addStep_10 rfl rfl ?_
  refine z_iload_n C 2 d_Search_addStep_11 rfl rfl ?_
  refine z_isub C d_Search_addStep_12 ?_
  refine z_mabs C w_502 w_407 w_58 w_408 (Nat.le_of_ble_eq_true rfl) (Nat.le_of_ble_eq_true rfl) (Nat.le_of_ble_eq_true rfl) (Nat.le_of_ble_eq_true rfl) d_Search_addStep_13 ?_
  refine z_i2l C d_Search_addStep_16 ?_
  refine z_lmul C d_Search_addStep_17 ?_
  refine z_ladd C d_Search_addStep_18 ?_
  refine z_lstore C (lv' := [(4, .long (p1.1 + (v2 * (Int32.toInt64 (zabs (x3 - x2)))))), (0, .ref x0), (1, .int x1), (2, .int x2), (3, .int x3)]) d_Search_addStep_19 (by decide) rfl ?_
  refine z_aload_n C 1 d_Search_addStep_21 rfl rfl ?_
  refine z_aload_n C 1 d_Search_addStep_22 rfl rfl ?_
  refine z_getR C 8 8 rfl in_Search (by decide) w_430 rfl d_Search_addStep_23 hf (fun v3 hf => ?_)
  refine z_iload_n C 4 d_Search_addStep_26 rfl rfl ?_
  refine z_aload_n C 1 d_Search_addStep_27 rfl rfl ?_
  refine z_getI C 8 3 rfl in_Search (by decide) w_425 rfl d_Search_addStep_28 hf (fun v4 hf => ?_)
  refine z_imul C d_Search_addStep_31 ?_
  refine z_aload_n C 1 d_Search_addStep_32 rfl rfl ?_
  refine z_getR C 8 7 rfl in_Search (by decide) w_429 rfl d_Search_addStep_33 hf (fun v5 hf => ?_)
  refine z_aload_n C 1 d_Search_addStep_36 rfl rfl ?_
  refine z_iload_n C 2 d_Search_addStep_37 rfl rfl ?_
  refine z_iconst C (v := (1 : Int32)) d_Search_addStep_38 (by decide) ?_
  refine z_iadd C d_Search_addStep_39 ?_
  obtain ⟨p6, hc, hf⟩ := Option.bind_eq_some_iff.mp hf
  obtain ⟨hz, hc⟩ := zck_some hc
  refine z_callV C (ci := 8) (c_Search_slotOf N C.2.2.1 hc) rfl hz w_467 w_67 w_464 w_466 w_7 pd_Search_slotOf rfl ⟨(Nat.le_of_ble_eq_true rfl), (Nat.le_of_ble_eq_true rfl)⟩ ⟨(Nat.le_of_ble_eq_true rfl), (Nat.le_of_ble_eq_true rfl)⟩ rfl (Nat.le_of_ble_eq_true rfl) d_Search_addStep_40 (k' := 0) (n' := 0) (stk' := [.int p6.1, .ref v5, .int (x3 * v4), .ref v3, .ref x0]) rfl rfl rfl ?_
  refine z_aald C d_Search_addStep_43 hf (fun v7 hf => ?_)
  refine z_aload_n C 1 d_Search_addStep_44 rfl rfl ?_
  refine z_iload_n C 4 d_Search_addStep_45 rfl rfl ?_
  refine z_iload_n C 3 d_Search_addStep_46 rfl rfl ?_
  obtain ⟨p8, hc, hf⟩ := Option.bind_eq_some_iff.mp hf
  obtain ⟨hz, hc⟩ := zck_some hc
  refine z_callV C (ci := 8) (c_Search_indexOf N C.2.2.1 hc) rfl hz w_489 w_67 w_486 w_488 w_10 pd_Search_indexOf rfl ⟨(Nat.le_of_ble_eq_true rfl), (Nat.le_of_ble_eq_true rfl)⟩ ⟨(Nat.le_of_ble_eq_true rfl), (Nat.le_of_ble_eq_true rfl)⟩ rfl (Nat.le_of_ble_eq_true rfl) d_Search_addStep_47 (k' := 0) (n' := 0) (stk' := [.int p8.1, .ref v7, .int (x3 * v4), .ref v3, .ref x0]) rfl rfl rfl ?_
  refine z_lload C 0 d_Search_addStep_50 rfl ?_
  obtain ⟨p9, hc, hf⟩ := Option.bind_eq_some_iff.mp hf
  obtain ⟨hz, hc⟩ := zck_some hc
  refine z_callV C (ci := 8) (c_Search_merge N C.2.2.1 hc) rfl hz w_506 w_67 w_503 w_505 w_13 pd_Search_merge rfl ⟨(Nat.le_of_ble_eq_true rfl), (Nat.le_of_ble_eq_true rfl)⟩ ⟨(Nat.le_of_ble_eq_true rfl), (Nat.le_of_ble_eq_true rfl)⟩ rfl (Nat.le_of_ble_eq_true rfl) d_Search_addStep_52 (k' := 0) (n' := 0) (stk' := []) rfl rfl rfl ?_
  exact z_vret C E (Nat.le_of_ble_eq_true rfl) (Nat.le_of_ble_eq_true rfl) d_Search_addStep_55 hf

theorem c_Search_addStep (N : Nat) {l : Launch} {D : va_G} {T : List (ClassId × FieldType)} (hT : T.map (fun q => q.2) = ztl) {x0 : Nat} {x1 : Int32} {x2 : Int32} {x3 : Int32} {h : zH} {p : Unit × zH} (hf : f_Search_addStep N x0 x1 x2 x3 h = some p) : zM l y_Search_addStep prog_5_method_15_code 6 none rm_Search_addStep D T [.ref x0, .int x1, .int x2, .int x3] h none p.2 :=
  z_enter (by decide) hT (Nat.le_of_ble_eq_true rfl) (fun X el eD eT hin C E => k_Search_addStep N C E x0 x1 x2 x3 h hf)
/-! ===== LevelTables$Search.fillStates([JI)V ===== -/
abbrev y_Search_fillStates : MethodName := ⟨R_Search, "fillStates", "([JI)V"⟩
theorem pd_Search_fillStates : y_Search_fillStates.cls ≠ "java/lang/invoke/MethodHandle" ∧ y_Search_fillStates.cls ≠ "java/lang/invoke/VarHandle" ∧ (parseMethodDescriptor y_Search_fillStates.desc).map (fun d => d.parameters.length) = some 2 := ⟨by decide +kernel, by decide +kernel, by decide +kernel⟩
abbrev rm_Search_fillStates : Room := { frames := 3, cells := 0, slots := 0, locals := 81 }
def f_Search_fillStates_158 (N : Nat) (rc31 : Nat → Nat → Int32 → Int32 → Int32 → Int32 → Int32 → Int32 → Int32 → zH → Option (Unit × zH)) (x0 : Nat) (x1 : Nat) (x2 : Int32) (x3 : Int32) (x4 : Int32) (x5 : Int32) (x6 : Int32) (x7 : Int32) (x8 : Int32) (h : zH) : Option (Unit × zH) :=
  rc31 x0 x1 x2 x3 x4 x5 x6 x7 (x8 + (1 : Int32)) h
def f_Search_fillStates_146 (N : Nat) (rc31 : Nat → Nat → Int32 → Int32 → Int32 → Int32 → Int32 → Int32 → Int32 → zH → Option (Unit × zH)) (x0 : Nat) (x1 : Nat) (x2 : Int32) (x3 : Int32) (x4 : Int32) (x8 : Int32) (x9 : Int32) (x11 : Int32) (x12 : Int32) (h : zH) : Option (Unit × zH) :=
  f_Search_fillStates_158 N rc31 x0 x1 x2 x3 x4 x11 x12 x9 x8 h
def f_Search_fillStates_135 (N : Nat) (rc31 : Nat → Nat → Int32 → Int32 → Int32 → Int32 → Int32 → Int32 → Int32 → zH → Option (Unit × zH)) (x0 : Nat) (x1 : Nat) (x2 : Int32) (x3 : Int32) (x4 : Int32) (x8 : Int32) (x9 : Int32) (x11 : Int32) (x12 : Int32) (h : zH) : Option (Unit × zH) :=
  Option.bind (zck (zis h x0 8) (f_Search_gather N x0 x1 x9 x11 x12 h)) fun (p1 : Unit × zH) =>
  f_Search_fillStates_146 N rc31 x0 x1 x2 x3 x4 x8 x9 x11 x12 p1.2
def b_Search_fillStates_31 (N : Nat) (rc31 : Nat → Nat → Int32 → Int32 → Int32 → Int32 → Int32 → Int32 → Int32 → zH → Option (Unit × zH)) (x0 : Nat) (x1 : Nat) (x2 : Int32) (x3 : Int32) (x4 : Int32) (x5 : Int32) (x6 : Int32) (x7 : Int32) (x8 : Int32) (h : zH) : Option (Unit × zH) :=
  (if x4 < x8 then
    some ((), h)
  else
    Option.bind (zgR h x0 8 0) fun (v2 : Nat) =>
    Option.bind (zck (zis h v2 2) (f_Site_slopeFits N v2 (x2 - x8) h)) fun (p3 : Int32 × zH) =>
    (if p3.1 = 0 then
      f_Search_fillStates_158 N rc31 x0 x1 x2 x3 x4 x5 x6 x7 x8 p3.2
    else
      Option.bind (zck (zis p3.2 x0 8) (f_Search_indexOf N x0 x2 x8 p3.2)) fun (p4 : Int32 × zH) =>
      Option.bind (zgR p4.2 x0 8 0) fun (v5 : Nat) =>
      Option.bind (zgI p4.2 v5 2 8) fun (v6 : Int32) =>
      Option.bind (zgR p4.2 x0 8 0) fun (v7 : Nat) =>
      Option.bind (zgI p4.2 v7 2 8) fun (v8 : Int32) =>
      (if (zmax x3 (((x2 + x2) - x8) - v6)) = x5 then
        (if (zmin x4 (((x2 + x2) - x8) + v8)) = x6 then
          Option.bind (zgI p4.2 x0 8 3) fun (v9 : Int32) =>
          Option.bind (zcpJ p4.2 x1 x7 x1 p4.1 v9) fun (h10 : zH) =>
          f_Search_fillStates_146 N rc31 x0 x1 x2 x3 x4 x8 p4.1 (zmax x3 (((x2 + x2) - x8) - v6)) (zmin x4 (((x2 + x2) - x8) + v8)) h10
        else
          f_Search_fillStates_135 N rc31 x0 x1 x2 x3 x4 x8 p4.1 (zmax x3 (((x2 + x2) - x8) - v6)) (zmin x4 (((x2 + x2) - x8) + v8)) p4.2)
      else
        f_Search_fillStates_135 N rc31 x0 x1 x2 x3 x4 x8 p4.1 (zmax x3 (((x2 + x2) - x8) - v6)) (zmin x4 (((x2 + x2) - x8) + v8)) p4.2)))
def f_Search_fillStates_31 (N : Nat) : Nat → Nat → Nat → Int32 → Int32 → Int32 → Int32 → Int32 → Int32 → Int32 → zH → Option (Unit × zH)
  | 0 => fun _ _ _ _ _ _ _ _ _ _ => none
  | n + 1 => fun x0 x1 x2 x3 x4 x5 x6 x7 x8 h => b_Search_fillStates_31 N (f_Search_fillStates_31 N n) x0 x1 x2 x3 x4 x5 x6 x7 x8 h
def f_Search_fillStates (N : Nat) (x0 : Nat) (x1 : Nat) (x2 : Int32) (h : zH) : Option (Unit × zH) :=
  Option.bind (zgR h x0 8 0) fun (v11 : Nat) =>
  Option.bind (zck (zis h v11 2) (f_Site_lowestNear N v11 x2 h)) fun (p12 : Int32 × zH) =>
  Option.bind (zgR p12.2 x0 8 0) fun (v13 : Nat) =>
  Option.bind (zck (zis p12.2 v13 2) (f_Site_highestNear N v13 x2 p12.2)) fun (p14 : Int32 × zH) =>
  f_Search_fillStates_31 N N x0 x1 x2 p12.1 p14.1 (-1 : Int32) (-1 : Int32) (-1 : Int32) p12.1 p14.2
theorem d_Search_fillStates_0 : decode prog_5_method_10_code 0 = .ok (.aload_n (0), 1) := by decide +kernel
theorem d_Search_fillStates_1 : decode prog_5_method_10_code 1 = .ok (.getfield (15), 3) := by decide +kernel
theorem d_Search_fillStates_4 : decode prog_5_method_10_code 4 = .ok (.iload_n (2), 1) := by decide +kernel
theorem d_Search_fillStates_5 : decode prog_5_method_10_code 5 = .ok (.invokevirtual (120), 3) := by decide +kernel
theorem d_Search_fillStates_8 : decode prog_5_method_10_code 8 = .ok (.istore_n (3), 1) := by decide +kernel
theorem d_Search_fillStates_9 : decode prog_5_method_10_code 9 = .ok (.aload_n (0), 1) := by decide +kernel
theorem d_Search_fillStates_10 : decode prog_5_method_10_code 10 = .ok (.getfield (15), 3) := by decide +kernel
theorem d_Search_fillStates_13 : decode prog_5_method_10_code 13 = .ok (.iload_n (2), 1) := by decide +kernel
theorem d_Search_fillStates_14 : decode prog_5_method_10_code 14 = .ok (.invokevirtual (117), 3) := by decide +kernel
theorem d_Search_fillStates_17 : decode prog_5_method_10_code 17 = .ok (.istore (4), 2) := by decide +kernel
theorem d_Search_fillStates_19 : decode prog_5_method_10_code 19 = .ok (.iconst (-1), 1) := by decide +kernel
theorem d_Search_fillStates_20 : decode prog_5_method_10_code 20 = .ok (.istore (5), 2) := by decide +kernel
theorem d_Search_fillStates_22 : decode prog_5_method_10_code 22 = .ok (.iconst (-1), 1) := by decide +kernel
theorem d_Search_fillStates_23 : decode prog_5_method_10_code 23 = .ok (.istore (6), 2) := by decide +kernel
theorem d_Search_fillStates_25 : decode prog_5_method_10_code 25 = .ok (.iconst (-1), 1) := by decide +kernel
theorem d_Search_fillStates_26 : decode prog_5_method_10_code 26 = .ok (.istore (7), 2) := by decide +kernel
theorem d_Search_fillStates_28 : decode prog_5_method_10_code 28 = .ok (.iload_n (3), 1) := by decide +kernel
theorem d_Search_fillStates_29 : decode prog_5_method_10_code 29 = .ok (.istore (8), 2) := by decide +kernel
theorem d_Search_fillStates_31 : decode prog_5_method_10_code 31 = .ok (.iload (8), 2) := by decide +kernel
theorem d_Search_fillStates_33 : decode prog_5_method_10_code 33 = .ok (.iload (4), 2) := by decide +kernel
theorem d_Search_fillStates_35 : decode prog_5_method_10_code 35 = .ok (.if_icmp .gt (129), 3) := by decide +kernel
theorem d_Search_fillStates_38 : decode prog_5_method_10_code 38 = .ok (.aload_n (0), 1) := by decide +kernel
theorem d_Search_fillStates_39 : decode prog_5_method_10_code 39 = .ok (.getfield (15), 3) := by decide +kernel
theorem d_Search_fillStates_42 : decode prog_5_method_10_code 42 = .ok (.iload_n (2), 1) := by decide +kernel
theorem d_Search_fillStates_43 : decode prog_5_method_10_code 43 = .ok (.iload (8), 2) := by decide +kernel
theorem d_Search_fillStates_45 : decode prog_5_method_10_code 45 = .ok (.isub, 1) := by decide +kernel
theorem d_Search_fillStates_46 : decode prog_5_method_10_code 46 = .ok (.invokevirtual (123), 3) := by decide +kernel
theorem d_Search_fillStates_49 : decode prog_5_method_10_code 49 = .ok (.ifCond .ne (6), 3) := by decide +kernel
theorem d_Search_fillStates_52 : decode prog_5_method_10_code 52 = .ok (.goto (106), 3) := by decide +kernel
theorem d_Search_fillStates_55 : decode prog_5_method_10_code 55 = .ok (.aload_n (0), 1) := by decide +kernel
theorem d_Search_fillStates_56 : decode prog_5_method_10_code 56 = .ok (.iload_n (2), 1) := by decide +kernel
theorem d_Search_fillStates_57 : decode prog_5_method_10_code 57 = .ok (.iload (8), 2) := by decide +kernel
theorem d_Search_fillStates_59 : decode prog_5_method_10_code 59 = .ok (.invokevirtual (126), 3) := by decide +kernel
theorem d_Search_fillStates_62 : decode prog_5_method_10_code 62 = .ok (.istore (9), 2) := by decide +kernel
theorem d_Search_fillStates_64 : decode prog_5_method_10_code 64 = .ok (.iload_n (2), 1) := by decide +kernel
theorem d_Search_fillStates_65 : decode prog_5_method_10_code 65 = .ok (.iload_n (2), 1) := by decide +kernel
theorem d_Search_fillStates_66 : decode prog_5_method_10_code 66 = .ok (.iadd, 1) := by decide +kernel
theorem d_Search_fillStates_67 : decode prog_5_method_10_code 67 = .ok (.iload (8), 2) := by decide +kernel
theorem d_Search_fillStates_69 : decode prog_5_method_10_code 69 = .ok (.isub, 1) := by decide +kernel
theorem d_Search_fillStates_70 : decode prog_5_method_10_code 70 = .ok (.istore (10), 2) := by decide +kernel
theorem d_Search_fillStates_72 : decode prog_5_method_10_code 72 = .ok (.iload_n (3), 1) := by decide +kernel
theorem d_Search_fillStates_73 : decode prog_5_method_10_code 73 = .ok (.iload (10), 2) := by decide +kernel
theorem d_Search_fillStates_75 : decode prog_5_method_10_code 75 = .ok (.aload_n (0), 1) := by decide +kernel
theorem d_Search_fillStates_76 : decode prog_5_method_10_code 76 = .ok (.getfield (15), 3) := by decide +kernel
theorem d_Search_fillStates_79 : decode prog_5_method_10_code 79 = .ok (.getfield (130), 3) := by decide +kernel
theorem d_Search_fillStates_82 : decode prog_5_method_10_code 82 = .ok (.isub, 1) := by decide +kernel
theorem d_Search_fillStates_83 : decode prog_5_method_10_code 83 = .ok (.invokestatic (133), 3) := by decide +kernel
theorem d_Search_fillStates_86 : decode prog_5_method_10_code 86 = .ok (.istore (11), 2) := by decide +kernel
theorem d_Search_fillStates_88 : decode prog_5_method_10_code 88 = .ok (.iload (4), 2) := by decide +kernel
theorem d_Search_fillStates_90 : decode prog_5_method_10_code 90 = .ok (.iload (10), 2) := by decide +kernel
theorem d_Search_fillStates_92 : decode prog_5_method_10_code 92 = .ok (.aload_n (0), 1) := by decide +kernel
theorem d_Search_fillStates_93 : decode prog_5_method_10_code 93 = .ok (.getfield (15), 3) := by decide +kernel
theorem d_Search_fillStates_96 : decode prog_5_method_10_code 96 = .ok (.getfield (130), 3) := by decide +kernel
theorem d_Search_fillStates_99 : decode prog_5_method_10_code 99 = .ok (.iadd, 1) := by decide +kernel
theorem d_Search_fillStates_100 : decode prog_5_method_10_code 100 = .ok (.invokestatic (138), 3) := by decide +kernel
theorem d_Search_fillStates_103 : decode prog_5_method_10_code 103 = .ok (.istore (12), 2) := by decide +kernel
theorem d_Search_fillStates_105 : decode prog_5_method_10_code 105 = .ok (.iload (11), 2) := by decide +kernel
theorem d_Search_fillStates_107 : decode prog_5_method_10_code 107 = .ok (.iload (5), 2) := by decide +kernel
theorem d_Search_fillStates_109 : decode prog_5_method_10_code 109 = .ok (.if_icmp .ne (26), 3) := by decide +kernel
theorem d_Search_fillStates_112 : decode prog_5_method_10_code 112 = .ok (.iload (12), 2) := by decide +kernel
theorem d_Search_fillStates_114 : decode prog_5_method_10_code 114 = .ok (.iload (6), 2) := by decide +kernel
theorem d_Search_fillStates_116 : decode prog_5_method_10_code 116 = .ok (.if_icmp .ne (19), 3) := by decide +kernel
theorem d_Search_fillStates_119 : decode prog_5_method_10_code 119 = .ok (.aload_n (1), 1) := by decide +kernel
theorem d_Search_fillStates_120 : decode prog_5_method_10_code 120 = .ok (.iload (7), 2) := by decide +kernel
theorem d_Search_fillStates_122 : decode prog_5_method_10_code 122 = .ok (.aload_n (1), 1) := by decide +kernel
theorem d_Search_fillStates_123 : decode prog_5_method_10_code 123 = .ok (.iload (9), 2) := by decide +kernel
theorem d_Search_fillStates_125 : decode prog_5_method_10_code 125 = .ok (.aload_n (0), 1) := by decide +kernel
theorem d_Search_fillStates_126 : decode prog_5_method_10_code 126 = .ok (.getfield (23), 3) := by decide +kernel
theorem d_Search_fillStates_129 : decode prog_5_method_10_code 129 = .ok (.invokestatic (86), 3) := by decide +kernel
theorem d_Search_fillStates_132 : decode prog_5_method_10_code 132 = .ok (.goto (14), 3) := by decide +kernel
theorem d_Search_fillStates_135 : decode prog_5_method_10_code 135 = .ok (.aload_n (0), 1) := by decide +kernel
theorem d_Search_fillStates_136 : decode prog_5_method_10_code 136 = .ok (.aload_n (1), 1) := by decide +kernel
theorem d_Search_fillStates_137 : decode prog_5_method_10_code 137 = .ok (.iload (9), 2) := by decide +kernel
theorem d_Search_fillStates_139 : decode prog_5_method_10_code 139 = .ok (.iload (11), 2) := by decide +kernel
theorem d_Search_fillStates_141 : decode prog_5_method_10_code 141 = .ok (.iload (12), 2) := by decide +kernel
theorem d_Search_fillStates_143 : decode prog_5_method_10_code 143 = .ok (.invokevirtual (141), 3) := by decide +kernel
theorem d_Search_fillStates_146 : decode prog_5_method_10_code 146 = .ok (.iload (11), 2) := by decide +kernel
theorem d_Search_fillStates_148 : decode prog_5_method_10_code 148 = .ok (.istore (5), 2) := by decide +kernel
theorem d_Search_fillStates_150 : decode prog_5_method_10_code 150 = .ok (.iload (12), 2) := by decide +kernel
theorem d_Search_fillStates_152 : decode prog_5_method_10_code 152 = .ok (.istore (6), 2) := by decide +kernel
theorem d_Search_fillStates_154 : decode prog_5_method_10_code 154 = .ok (.iload (9), 2) := by decide +kernel
theorem d_Search_fillStates_156 : decode prog_5_method_10_code 156 = .ok (.istore (7), 2) := by decide +kernel
theorem d_Search_fillStates_158 : decode prog_5_method_10_code 158 = .ok (.iinc (8) (1), 3) := by decide +kernel
theorem d_Search_fillStates_161 : decode prog_5_method_10_code 161 = .ok (.goto (-130), 3) := by decide +kernel
theorem d_Search_fillStates_164 : decode prog_5_method_10_code 164 = .ok (.return_, 1) := by decide +kernel
set_option maxHeartbeats 4000000 in
set_option maxRecDepth 100000 in
theorem k_Search_fillStates_158 (N : Nat) {X : zX} (C : zB X prog_5_method_10_code 13 R_Search rm_Search_fillStates) {h0 : zH} {p : Unit × zH} (E : zR X none rm_Search_fillStates h0 none p.2) {rc31 : Nat → Nat → Int32 → Int32 → Int32 → Int32 → Int32 → Int32 → Int32 → zH → Option (Unit × zH)} (H31 : ∀ (x0 : Nat) (x1 : Nat) (x2 : Int32) (x3 : Int32) (x4 : Int32) (x5 : Int32) (x6 : Int32) (x7 : Int32) (x8 : Int32) (h : zH), rc31 x0 x1 x2 x3 x4 x5 x6 x7 x8 h = some p → Zt X 13 0 0 31 [(0, .ref x0), (1, .ref x1), (2, .int x2), (3, .int x3), (4, .int x4), (5, .int x5), (6, .int x6), (7, .int x7), (8, .int x8)] [] h) : ∀ (x0 : Nat) (x1 : Nat) (x2 : Int32) (x3 : Int32) (x4 : Int32) (x5 : Int32) (x6 : Int32) (x7 : Int32) (x8 : Int32) (h : zH), f_Search_fillStates_158 N rc31 x0 x1 x2 x3 x4 x5 x6 x7 x8 h = some p → Zt X 13 0 0 158 [(0, .ref x0), (1, .ref x1), (2, .int x2), (3, .int x3), (4, .int x4), (5, .int x5), (6, .int x6), (7, .int x7), (8, .int x8)] [] h := by
  intro x0 x1 x2 x3 x4 x5 x6 x7 x8 h hf
  unfold f_Search_fillStates_158 at hf
  refine z_iinc C (v := (x8 + (1 : Int32))) (lv' := [(8, .int (x8 + (1 : Int32))), (0, .ref x0), (1, .ref x1), (2, .int x2), (3, .int x3), (4, .int x4), (5, .int x5), (6, .int x6), (7, .int x7)]) 8 d_Search_fillStates_158 rfl (by rfl) (by decide) rfl ?_
  refine z_goto (tgt := 31) C d_Search_fillStates_161 (by decide) ?_
  refine z_sub [1, 2, 3, 4, 5, 6, 7, 8, 0] rfl ?_
  exact H31 _ _ _ _ _ _ _ _ _ _ hf

set_option maxHeartbeats 4000000 in
set_option maxRecDepth 100000 in
theorem k_Search_fillStates_146 (N : Nat) {X : zX} (C : zB X prog_5_method_10_code 13 R_Search rm_Search_fillStates) {h0 : zH} {p : Unit × zH} (E : zR X none rm_Search_fillStates h0 none p.2) {rc31 : Nat → Nat → Int32 → Int32 → Int32 → Int32 → Int32 → Int32 → Int32 → zH → Option (Unit × zH)} (H31 : ∀ (x0 : Nat) (x1 : Nat) (x2 : Int32) (x3 : Int32) (x4 : Int32) (x5 : Int32) (x6 : Int32) (x7 : Int32) (x8 : Int32) (h : zH), rc31 x0 x1 x2 x3 x4 x5 x6 x7 x8 h = some p → Zt X 13 0 0 31 [(0, .ref x0), (1, .ref x1), (2, .int x2), (3, .int x3), (4, .int x4), (5, .int x5), (6, .int x6), (7, .int x7), (8, .int x8)] [] h) : ∀ (x0 : Nat) (x1 : Nat) (x2 : Int32) (x3 : Int32) (x4 : Int32) (x8 : Int32) (x9 : Int32) (x11 : Int32) (x12 : Int32) (h : zH), f_Search_fillStates_146 N rc31 x0 x1 x2 x3 x4 x8 x9 x11 x12 h = some p → Zt X 13 0 0 146 [(0, .ref x0), (1, .ref x1), (2, .int x2), (3, .int x3), (4, .int x4), (8, .int x8), (9, .int x9), (11, .int x11), (12, .int x12)] [] h := by
  intro x0 x1 x2 x3 x4 x8 x9 x11 x12 h hf
  unfold f_Search_fillStates_146 at hf
  refine z_iload C 7 d_Search_fillStates_146 rfl ?_
  refine z_istore C (lv' := [(5, .int x11), (0, .ref x0), (1, .ref x1), (2, .int x2), (3, .int x3), (4, .int x4), (8, .int x8), (9, .int x9), (11, .int x11), (12, .int x12)]) d_Search_fillStates_148 (by decide) rfl ?_
  refine z_iload C 9 d_Search_fillStates_150 rfl ?_
  refine z_istore C (lv' := [(6, .int x12), (5, .int x11), (0, .ref x0), (1, .ref x1), (2, .int x2), (3, .int x3), (4, .int x4), (8, .int x8), (9, .int x9), (11, .int x11), (12, .int x12)]) d_Search_fillStates_152 (by decide) rfl ?_
  refine z_iload C 8 d_Search_fillStates_154 rfl ?_
  refine z_istore C (lv' := [(7, .int x9), (6, .int x12), (5, .int x11), (0, .ref x0), (1, .ref x1), (2, .int x2), (3, .int x3), (4, .int x4), (8, .int x8), (9, .int x9), (11, .int x11), (12, .int x12)]) d_Search_fillStates_156 (by decide) rfl ?_
  refine z_sub [3, 4, 5, 6, 7, 2, 1, 0, 8] rfl ?_
  exact k_Search_fillStates_158 N C E H31 _ _ _ _ _ _ _ _ _ _ hf

set_option maxHeartbeats 4000000 in
set_option maxRecDepth 100000 in
theorem k_Search_fillStates_135 (N : Nat) {X : zX} (C : zB X prog_5_method_10_code 13 R_Search rm_Search_fillStates) {h0 : zH} {p : Unit × zH} (E : zR X none rm_Search_fillStates h0 none p.2) {rc31 : Nat → Nat → Int32 → Int32 → Int32 → Int32 → Int32 → Int32 → Int32 → zH → Option (Unit × zH)} (H31 : ∀ (x0 : Nat) (x1 : Nat) (x2 : Int32) (x3 : Int32) (x4 : Int32) (x5 : Int32) (x6 : Int32) (x7 : Int32) (x8 : Int32) (h : zH), rc31 x0 x1 x2 x3 x4 x5 x6 x7 x8 h = some p → Zt X 13 0 0 31 [(0, .ref x0), (1, .ref x1), (2, .int x2), (3, .int x3), (4, .int x4), (5, .int x5), (6, .int x6), (7, .int x7), (8, .int x8)] [] h) : ∀ (x0 : Nat) (x1 : Nat) (x2 : Int32) (x3 : Int32) (x4 : Int32) (x8 : Int32) (x9 : Int32) (x11 : Int32) (x12 : Int32) (h : zH), f_Search_fillStates_135 N rc31 x0 x1 x2 x3 x4 x8 x9 x11 x12 h = some p → Zt X 13 0 0 135 [(0, .ref x0), (1, .ref x1), (2, .int x2), (3, .int x3), (4, .int x4), (8, .int x8), (9, .int x9), (11, .int x11), (12, .int x12)] [] h := by
  intro x0 x1 x2 x3 x4 x8 x9 x11 x12 h hf
  unfold f_Search_fillStates_135 at hf
  refine z_aload_n C 0 d_Search_fillStates_135 rfl rfl ?_
  refine z_aload_n C 1 d_Search_fillStates_136 rfl rfl ?_
  refine z_iload C 6 d_Search_fillStates_137 rfl ?_
  refine z_iload C 7 d_Search_fillStates_139 rfl ?_
  refine z_iload C 8 d_Search_fillStates_141 rfl ?_
  obtain ⟨p1, hc, hf⟩ := Option.bind_eq_some_iff.mp hf
  obtain ⟨hz, hc⟩ := zck_some hc
  refine z_callV C (ci := 8) (c_Search_gather N C.2.2.1 hc) rfl hz w_537 w_67 w_534 w_536 w_18 pd_Search_gather rfl ⟨(Nat.le_of_ble_eq_true rfl), (Nat.le_of_ble_eq_true rfl)⟩ ⟨(Nat.le_of_ble_eq_true rfl), (Nat.le_of_ble_eq_true rfl)⟩ rfl (Nat.le_of_ble_eq_true rfl) d_Search_fillStates_143 (k' := 0) (n' := 0) (stk' := []) rfl rfl rfl ?_
  refine z_sub [0, 1, 2, 3, 4, 5, 6, 7, 8] rfl ?_
  exact k_Search_fillStates_146 N C E H31 _ _ _ _ _ _ _ _ _ _ hf

set_option maxHeartbeats 4000000 in
set_option maxRecDepth 100000 in
theorem k_Search_fillStates_31 (N : Nat) {X : zX} (C : zB X prog_5_method_10_code 13 R_Search rm_Search_fillStates) {h0 : zH} {p : Unit × zH} (E : zR X none rm_Search_fillStates h0 none p.2) : ∀ n : Nat, ∀ (x0 : Nat) (x1 : Nat) (x2 : Int32) (x3 : Int32) (x4 : Int32) (x5 : Int32) (x6 : Int32) (x7 : Int32) (x8 : Int32) (h : zH), f_Search_fillStates_31 N n x0 x1 x2 x3 x4 x5 x6 x7 x8 h = some p → Zt X 13 0 0 31 [(0, .ref x0), (1, .ref x1), (2, .int x2), (3, .int x3), (4, .int x4), (5, .int x5), (6, .int x6), (7, .int x7), (8, .int x8)] [] h := by
  intro n
  induction n with
  | zero => intro x0 x1 x2 x3 x4 x5 x6 x7 x8 h hf; cases hf
  | succ n ih =>
  intro x0 x1 x2 x3 x4 x5 x6 x7 x8 h hf
  have H31 := ih
  replace hf : b_Search_fillStates_31 N (f_Search_fillStates_31 N n) x0 x1 x2 x3 x4 x5 x6 x7 x8 h = some p := hf
  unfold b_Search_fillStates_31 at hf
  refine z_iload C 8 d_Search_fillStates_31 rfl ?_
  refine z_iload C 4 d_Search_fillStates_33 rfl ?_
  refine z_ic_gt (tgt := 164) C d_Search_fillStates_35 (by decide) hf (fun hf => ?_) (fun hf => ?_)
  · exact z_vret C E (Nat.le_of_ble_eq_true rfl) (Nat.le_of_ble_eq_true rfl) d_Search_fillStates_164 hf
  · refine z_aload_n C 0 d_Search_fillStates_38 rfl rfl ?_
    refine z_getR C 8 0 rfl in_Search (by decide) w_422 rfl d_Search_fillStates_39 hf (fun v2 hf => ?_)
    refine z_iload_n C 2 d_Search_fillStates_42 rfl rfl ?_
    refine z_iload C 8 d_Search_fillStates_43 rfl ?_
    refine z_isub C d_Search_fillStates_45 ?_
    obtain ⟨p3, hc, hf⟩ := Option.bind_eq_some_iff.mp hf
    obtain ⟨hz, hc⟩ := zck_some hc
    refine z_callV C (ci := 2) (c_Site_slopeFits N C.2.2.1 hc) rfl hz w_405 w_59 w_485 w_403 w_404 pd_Site_slopeFits rfl ⟨(Nat.le_of_ble_eq_true rfl), (Nat.le_of_ble_eq_true rfl)⟩ ⟨(Nat.le_of_ble_eq_true rfl), (Nat.le_of_ble_eq_true rfl)⟩ rfl (Nat.le_of_ble_eq_true rfl) d_Search_fillStates_46 (k' := 0) (n' := 0) (stk' := [.int p3.1]) rfl rfl rfl ?_
    refine z_if_ne (tgt := 55) C d_Search_fillStates_49 (by decide) hf (fun hf => ?_) (fun hf => ?_)
    · refine z_aload_n C 0 d_Search_fillStates_55 rfl rfl ?_
      refine z_iload_n C 2 d_Search_fillStates_56 rfl rfl ?_
      refine z_iload C 8 d_Search_fillStates_57 rfl ?_
      obtain ⟨p4, hc, hf⟩ := Option.bind_eq_some_iff.mp hf
      obtain ⟨hz, hc⟩ := zck_some hc
      refine z_callV C (ci := 8) (c_Search_indexOf N C.2.2.1 hc) rfl hz w_489 w_67 w_486 w_488 w_10 pd_Search_indexOf rfl ⟨(Nat.le_of_ble_eq_true rfl), (Nat.le_of_ble_eq_true rfl)⟩ ⟨(Nat.le_of_ble_eq_true rfl), (Nat.le_of_ble_eq_true rfl)⟩ rfl (Nat.le_of_ble_eq_true rfl) d_Search_fillStates_59 (k' := 0) (n' := 0) (stk' := [.int p4.1]) rfl rfl rfl ?_
      refine z_istore C (lv' := [(9, .int p4.1), (0, .ref x0), (1, .ref x1), (2, .int x2), (3, .int x3), (4, .int x4), (5, .int x5), (6, .int x6), (7, .int x7), (8, .int x8)]) d_Search_fillStates_62 (by decide) rfl ?_
      refine z_iload_n C 3 d_Search_fillStates_64 rfl rfl ?_
      refine z_iload_n C 3 d_Search_fillStates_65 rfl rfl ?_
      refine z_iadd C d_Search_fillStates_66 ?_
      refine z_iload C 9 d_Search_fillStates_67 rfl ?_
      refine z_isub C d_Search_fillStates_69 ?_
      refine z_istore C (lv' := [(10, .int ((x2 + x2) - x8)), (9, .int p4.1), (0, .ref x0), (1, .ref x1), (2, .int x2), (3, .int x3), (4, .int x4), (5, .int x5), (6, .int x6), (7, .int x7), (8, .int x8)]) d_Search_fillStates_70 (by decide) rfl ?_
      refine z_iload_n C 5 d_Search_fillStates_72 rfl rfl ?_
      refine z_iload C 0 d_Search_fillStates_73 rfl ?_
      refine z_aload_n C 2 d_Search_fillStates_75 rfl rfl ?_
      refine z_getR C 8 0 rfl in_Search (by decide) w_422 rfl d_Search_fillStates_76 hf (fun v5 hf => ?_)
      refine z_getI C 2 8 rfl in_Site (by decide) w_118 rfl d_Search_fillStates_79 hf (fun v6 hf => ?_)
      refine z_isub C d_Search_fillStates_82 ?_
      refine z_mmax C w_529 w_82 w_58 w_83 (Nat.le_of_ble_eq_true rfl) (Nat.le_of_ble_eq_true rfl) (Nat.le_of_ble_eq_true rfl) (Nat.le_of_ble_eq_true rfl) d_Search_fillStates_83 ?_
      refine z_istore C (lv' := [(11, .int (zmax x3 (((x2 + x2) - x8) - v6))), (10, .int ((x2 + x2) - x8)), (9, .int p4.1), (0, .ref x0), (1, .ref x1), (2, .int x2), (3, .int x3), (4, .int x4), (5, .int x5), (6, .int x6), (7, .int x7), (8, .int x8)]) d_Search_fillStates_86 (by decide) rfl ?_
      refine z_iload C 7 d_Search_fillStates_88 rfl ?_
      refine z_iload C 1 d_Search_fillStates_90 rfl ?_
      refine z_aload_n C 3 d_Search_fillStates_92 rfl rfl ?_
      refine z_getR C 8 0 rfl in_Search (by decide) w_422 rfl d_Search_fillStates_93 hf (fun v7 hf => ?_)
      refine z_getI C 2 8 rfl in_Site (by decide) w_118 rfl d_Search_fillStates_96 hf (fun v8 hf => ?_)
      refine z_iadd C d_Search_fillStates_99 ?_
      refine z_mmin C w_530 w_79 w_58 w_80 (Nat.le_of_ble_eq_true rfl) (Nat.le_of_ble_eq_true rfl) (Nat.le_of_ble_eq_true rfl) (Nat.le_of_ble_eq_true rfl) d_Search_fillStates_100 ?_
      refine z_istore C (lv' := [(12, .int (zmin x4 (((x2 + x2) - x8) + v8))), (11, .int (zmax x3 (((x2 + x2) - x8) - v6))), (10, .int ((x2 + x2) - x8)), (9, .int p4.1), (0, .ref x0), (1, .ref x1), (2, .int x2), (3, .int x3), (4, .int x4), (5, .int x5), (6, .int x6), (7, .int x7), (8, .int x8)]) d_Search_fillStates_103 (by decide) rfl ?_
      refine z_iload C 1 d_Search_fillStates_105 rfl ?_
      refine z_iload C 9 d_Search_fillStates_107 rfl ?_
      refine z_ic_ne (tgt := 135) C d_Search_fillStates_109 (by decide) hf (fun hf => ?_) (fun hf => ?_)
      · refine z_sub [4, 5, 6, 7, 8, 12, 3, 1, 0] rfl ?_
        exact k_Search_fillStates_135 N C E H31 _ _ _ _ _ _ _ _ _ _ hf
      · refine z_iload C 0 d_Search_fillStates_112 rfl ?_
        refine z_iload C 10 d_Search_fillStates_114 rfl ?_
        refine z_ic_ne (tgt := 135) C d_Search_fillStates_116 (by decide) hf (fun hf => ?_) (fun hf => ?_)
        · refine z_sub [4, 5, 6, 7, 8, 12, 3, 1, 0] rfl ?_
          exact k_Search_fillStates_135 N C E H31 _ _ _ _ _ _ _ _ _ _ hf
        · refine z_aload_n C 5 d_Search_fillStates_119 rfl rfl ?_
          refine z_iload C 11 d_Search_fillStates_120 rfl ?_
          refine z_aload_n C 5 d_Search_fillStates_122 rfl rfl ?_
          refine z_iload C 3 d_Search_fillStates_123 rfl ?_
          refine z_aload_n C 4 d_Search_fillStates_125 rfl rfl ?_
          refine z_getI C 8 3 rfl in_Search (by decide) w_425 rfl d_Search_fillStates_126 hf (fun v9 hf => ?_)
          refine z_cpJ C w_531 w_533 w_532 w_68 (Nat.le_of_ble_eq_true rfl) (Nat.le_of_ble_eq_true rfl) d_Search_fillStates_129 hf (fun h10 hf => ?_)
          refine z_goto (tgt := 146) C d_Search_fillStates_132 (by decide) ?_
          refine z_sub [4, 5, 6, 7, 8, 12, 3, 1, 0] rfl ?_
          exact k_Search_fillStates_146 N C E H31 _ _ _ _ _ _ _ _ _ _ hf
    · refine z_goto (tgt := 158) C d_Search_fillStates_52 (by decide) ?_
      refine z_sub [0, 1, 2, 3, 4, 5, 6, 7, 8] rfl ?_
      exact k_Search_fillStates_158 N C E H31 _ _ _ _ _ _ _ _ _ _ hf

set_option maxHeartbeats 4000000 in
set_option maxRecDepth 100000 in
theorem k_Search_fillStates (N : Nat) {X : zX} (C : zB X prog_5_method_10_code 13 R_Search rm_Search_fillStates) {h0 : zH} {p : Unit × zH} (E : zR X none rm_Search_fillStates h0 none p.2) : ∀ (x0 : Nat) (x1 : Nat) (x2 : Int32) (h : zH), f_Search_fillStates N x0 x1 x2 h = some p → Zt X 13 0 0 0 [(0, .ref x0), (1, .ref x1), (2, .int x2)] [] h := by
  intro x0 x1 x2 h hf
  unfold f_Search_fillStates at hf
  refine z_aload_n C 0 d_Search_fillStates_0 rfl rfl ?_
  refine z_getR C 8 0 rfl in_Search (by decide) w_422 rfl d_Search_fillStates_1 hf (fun v11 hf => ?_)
  refine z_iload_n C 2 d_Search_fillStates_4 rfl rfl ?_
  obtain ⟨p12, hc, hf⟩ := Option.bind_eq_some_iff.mp hf
  obtain ⟨hz, hc⟩ := zck_some hc
  refine z_callV C (ci := 2) (c_Site_lowestNear N C.2.2.1 hc) rfl hz w_396 w_59 w_484 w_394 w_395 pd_Site_lowestNear rfl ⟨(Nat.le_of_ble_eq_true rfl), (Nat.le_of_ble_eq_true rfl)⟩ ⟨(Nat.le_of_ble_eq_true rfl), (Nat.le_of_ble_eq_true rfl)⟩ rfl (Nat.le_of_ble_eq_true rfl) d_Search_fillStates_5 (k' := 0) (n' := 0) (stk' := [.int p12.1]) rfl rfl rfl ?_
  refine z_istore_n C (lv' := [(3, .int p12.1), (0, .ref x0), (1, .ref x1), (2, .int x2)]) d_Search_fillStates_8 rfl (by decide) rfl ?_
  refine z_aload_n C 1 d_Search_fillStates_9 rfl rfl ?_
  refine z_getR C 8 0 rfl in_Search (by decide) w_422 rfl d_Search_fillStates_10 hf (fun v13 hf => ?_)
  refine z_iload_n C 3 d_Search_fillStates_13 rfl rfl ?_
  obtain ⟨p14, hc, hf⟩ := Option.bind_eq_some_iff.mp hf
  obtain ⟨hz, hc⟩ := zck_some hc
  refine z_callV C (ci := 2) (c_Site_highestNear N C.2.2.1 hc) rfl hz w_391 w_59 w_483 w_389 w_390 pd_Site_highestNear rfl ⟨(Nat.le_of_ble_eq_true rfl), (Nat.le_of_ble_eq_true rfl)⟩ ⟨(Nat.le_of_ble_eq_true rfl), (Nat.le_of_ble_eq_true rfl)⟩ rfl (Nat.le_of_ble_eq_true rfl) d_Search_fillStates_14 (k' := 0) (n' := 0) (stk' := [.int p14.1]) rfl rfl rfl ?_
  refine z_istore C (lv' := [(4, .int p14.1), (3, .int p12.1), (0, .ref x0), (1, .ref x1), (2, .int x2)]) d_Search_fillStates_17 (by decide) rfl ?_
  refine z_iconst C (v := (-1 : Int32)) d_Search_fillStates_19 (by decide) ?_
  refine z_istore C (lv' := [(5, .int (-1 : Int32)), (4, .int p14.1), (3, .int p12.1), (0, .ref x0), (1, .ref x1), (2, .int x2)]) d_Search_fillStates_20 (by decide) rfl ?_
  refine z_iconst C (v := (-1 : Int32)) d_Search_fillStates_22 (by decide) ?_
  refine z_istore C (lv' := [(6, .int (-1 : Int32)), (5, .int (-1 : Int32)), (4, .int p14.1), (3, .int p12.1), (0, .ref x0), (1, .ref x1), (2, .int x2)]) d_Search_fillStates_23 (by decide) rfl ?_
  refine z_iconst C (v := (-1 : Int32)) d_Search_fillStates_25 (by decide) ?_
  refine z_istore C (lv' := [(7, .int (-1 : Int32)), (6, .int (-1 : Int32)), (5, .int (-1 : Int32)), (4, .int p14.1), (3, .int p12.1), (0, .ref x0), (1, .ref x1), (2, .int x2)]) d_Search_fillStates_26 (by decide) rfl ?_
  refine z_iload_n C 4 d_Search_fillStates_28 rfl rfl ?_
  refine z_istore C (lv' := [(8, .int p12.1), (7, .int (-1 : Int32)), (6, .int (-1 : Int32)), (5, .int (-1 : Int32)), (4, .int p14.1), (3, .int p12.1), (0, .ref x0), (1, .ref x1), (2, .int x2)]) d_Search_fillStates_29 (by decide) rfl ?_
  refine z_sub [6, 7, 8, 5, 4, 3, 2, 1, 0] rfl ?_
  exact k_Search_fillStates_31 N C E N _ _ _ _ _ _ _ _ _ _ hf

theorem c_Search_fillStates (N : Nat) {l : Launch} {D : va_G} {T : List (ClassId × FieldType)} (hT : T.map (fun q => q.2) = ztl) {x0 : Nat} {x1 : Nat} {x2 : Int32} {h : zH} {p : Unit × zH} (hf : f_Search_fillStates N x0 x1 x2 h = some p) : zM l y_Search_fillStates prog_5_method_10_code 13 none rm_Search_fillStates D T [.ref x0, .ref x1, .int x2] h none p.2 :=
  z_enter (by decide) hT (Nat.le_of_ble_eq_true rfl) (fun X el eD eT hin C E => k_Search_fillStates N C E x0 x1 x2 h hf)
