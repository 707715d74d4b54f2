/-! ===== java/util/Arrays.fill([II)V ===== -/
abbrev y_Arrays_fill_AIIV : MethodName := ⟨R_Arrays, "fill", "([II)V"⟩
theorem pd_Arrays_fill_AIIV : y_Arrays_fill_AIIV.cls ≠ "java/lang/invoke/MethodHandle" ∧ y_Arrays_fill_AIIV.cls ≠ "java/lang/invoke/VarHandle" ∧ (parseMethodDescriptor y_Arrays_fill_AIIV.desc).map (fun d => d.parameters.length) = some 2 := ⟨by decide +kernel, by decide +kernel, by decide +kernel⟩
abbrev rm_Arrays_fill_AIIV : Room := { frames := 0, cells := 0, slots := 0, locals := 0 }
def b_Arrays_fill_AIIV_5 (N : Nat) (rc5 : Nat → Int32 → Int32 → Int32 → zH → Option (Unit × zH)) (x0 : Nat) (x1 : Int32) (x2 : Int32) (x3 : Int32) (h : zH) : Option (Unit × zH) :=
  (if x3 ≤ x2 then
    some ((), h)
  else
    Option.bind (zsI h 0 x0 x2 x1) fun (h1 : zH) =>
    rc5 x0 x1 (x2 + (1 : Int32)) x3 h1)
def f_Arrays_fill_AIIV_5 (N : Nat) : Nat → Nat → Int32 → Int32 → Int32 → zH → Option (Unit × zH)
  | 0 => fun _ _ _ _ _ => none
  | n + 1 => fun x0 x1 x2 x3 h => b_Arrays_fill_AIIV_5 N (f_Arrays_fill_AIIV_5 N n) x0 x1 x2 x3 h
def f_Arrays_fill_AIIV (N : Nat) (x0 : Nat) (x1 : Int32) (h : zH) : Option (Unit × zH) :=
  Option.bind (zlen h 0 x0) fun (v2 : Int32) =>
  f_Arrays_fill_AIIV_5 N N x0 x1 (0 : Int32) v2 h
theorem d_Arrays_fill_AIIV_0 : decode prog_14_method_103_code 0 = .ok (.iconst (0), 1) := by decide +kernel
theorem d_Arrays_fill_AIIV_1 : decode prog_14_method_103_code 1 = .ok (.istore_n (2), 1) := by decide +kernel
theorem d_Arrays_fill_AIIV_2 : decode prog_14_method_103_code 2 = .ok (.aload_n (0), 1) := by decide +kernel
theorem d_Arrays_fill_AIIV_3 : decode prog_14_method_103_code 3 = .ok (.arraylength, 1) := by decide +kernel
theorem d_Arrays_fill_AIIV_4 : decode prog_14_method_103_code 4 = .ok (.istore_n (3), 1) := by decide +kernel
theorem d_Arrays_fill_AIIV_5 : decode prog_14_method_103_code 5 = .ok (.iload_n (2), 1) := by decide +kernel
theorem d_Arrays_fill_AIIV_6 : decode prog_14_method_103_code 6 = .ok (.iload_n (3), 1) := by decide +kernel
theorem d_Arrays_fill_AIIV_7 : decode prog_14_method_103_code 7 = .ok (.if_icmp .ge (13), 3) := by decide +kernel
theorem d_Arrays_fill_AIIV_10 : decode prog_14_method_103_code 10 = .ok (.aload_n (0), 1) := by decide +kernel
theorem d_Arrays_fill_AIIV_11 : decode prog_14_method_103_code 11 = .ok (.iload_n (2), 1) := by decide +kernel
theorem d_Arrays_fill_AIIV_12 : decode prog_14_method_103_code 12 = .ok (.iload_n (1), 1) := by decide +kernel
theorem d_Arrays_fill_AIIV_13 : decode prog_14_method_103_code 13 = .ok (.iastore, 1) := by decide +kernel
theorem d_Arrays_fill_AIIV_14 : decode prog_14_method_103_code 14 = .ok (.iinc (2) (1), 3) := by decide +kernel
theorem d_Arrays_fill_AIIV_17 : decode prog_14_method_103_code 17 = .ok (.goto (-12), 3) := by decide +kernel
theorem d_Arrays_fill_AIIV_20 : decode prog_14_method_103_code 20 = .ok (.return_, 1) := by decide +kernel
set_option maxHeartbeats 4000000 in
set_option maxRecDepth 100000 in
theorem k_Arrays_fill_AIIV_5 (N : Nat) {X : zX} (C : zB X prog_14_method_103_code 4 R_Arrays rm_Arrays_fill_AIIV) {h0 : zH} {p : Unit × zH} (E : zR X none rm_Arrays_fill_AIIV h0 none p.2) : ∀ n : Nat, ∀ (x0 : Nat) (x1 : Int32) (x2 : Int32) (x3 : Int32) (h : zH), f_Arrays_fill_AIIV_5 N n x0 x1 x2 x3 h = some p → Zt X 4 0 0 5 [(0, .ref x0), (1, .int x1), (2, .int x2), (3, .int x3)] [] h := by
  intro n
  induction n with
  | zero => intro x0 x1 x2 x3 h hf; cases hf
  | succ n ih =>
  intro x0 x1 x2 x3 h hf
  have H5 := ih
  replace hf : b_Arrays_fill_AIIV_5 N (f_Arrays_fill_AIIV_5 N n) x0 x1 x2 x3 h = some p := hf
  unfold b_Arrays_fill_AIIV_5 at hf
  refine z_iload_n C 2 d_Arrays_fill_AIIV_5 rfl rfl ?_
  refine z_iload_n C 3 d_Arrays_fill_AIIV_6 rfl rfl ?_
  refine z_ic_ge (tgt := 20) C d_Arrays_fill_AIIV_7 (by decide) hf (fun hf => ?_) (fun hf => ?_)
  · exact z_vret C E (Nat.le_of_ble_eq_true rfl) (Nat.le_of_ble_eq_true rfl) d_Arrays_fill_AIIV_20 hf
  · refine z_aload_n C 0 d_Arrays_fill_AIIV_10 rfl rfl ?_
    refine z_iload_n C 2 d_Arrays_fill_AIIV_11 rfl rfl ?_
    refine z_iload_n C 1 d_Arrays_fill_AIIV_12 rfl rfl ?_
    refine z_iast C d_Arrays_fill_AIIV_13 hf (fun h1 hf => ?_)
    refine z_iinc C (v := (x2 + (1 : Int32))) (lv' := [(2, .int (x2 + (1 : Int32))), (0, .ref x0), (1, .int x1), (3, .int x3)]) 2 d_Arrays_fill_AIIV_14 rfl (by rfl) (by decide) rfl ?_
    refine z_goto (tgt := 5) C d_Arrays_fill_AIIV_17 (by decide) ?_
    refine z_sub [1, 2, 0, 3] rfl ?_
    exact H5 _ _ _ _ _ hf

set_option maxHeartbeats 4000000 in
set_option maxRecDepth 100000 in
theorem k_Arrays_fill_AIIV (N : Nat) {X : zX} (C : zB X prog_14_method_103_code 4 R_Arrays rm_Arrays_fill_AIIV) {h0 : zH} {p : Unit × zH} (E : zR X none rm_Arrays_fill_AIIV h0 none p.2) : ∀ (x0 : Nat) (x1 : Int32) (h : zH), f_Arrays_fill_AIIV N x0 x1 h = some p → Zt X 4 0 0 0 [(0, .ref x0), (1, .int x1)] [] h := by
  intro x0 x1 h hf
  unfold f_Arrays_fill_AIIV at hf
  refine z_iconst C (v := (0 : Int32)) d_Arrays_fill_AIIV_0 (by decide) ?_
  refine z_istore_n C (lv' := [(2, .int (0 : Int32)), (0, .ref x0), (1, .int x1)]) d_Arrays_fill_AIIV_1 rfl (by decide) rfl ?_
  refine z_aload_n C 1 d_Arrays_fill_AIIV_2 rfl rfl ?_
  refine z_alen C 0 d_Arrays_fill_AIIV_3 hf (fun v2 hf => ?_)
  refine z_istore_n C (lv' := [(3, .int v2), (2, .int (0 : Int32)), (0, .ref x0), (1, .int x1)]) d_Arrays_fill_AIIV_4 rfl (by decide) rfl ?_
  refine z_sub [2, 3, 1, 0] rfl ?_
  exact k_Arrays_fill_AIIV_5 N C E N _ _ _ _ _ hf

theorem c_Arrays_fill_AIIV (N : Nat) {l : Launch} {D : va_G} {T : List (ClassId × FieldType)} (hT : T.map (fun q => q.2) = ztl) {x0 : Nat} {x1 : Int32} {h : zH} {p : Unit × zH} (hf : f_Arrays_fill_AIIV N x0 x1 h = some p) : zM l y_Arrays_fill_AIIV prog_14_method_103_code 4 none rm_Arrays_fill_AIIV D T [.ref x0, .int x1] h none p.2 :=
  z_enter (by decide) hT (Nat.le_of_ble_eq_true rfl) (fun X el eD eT hin C E => k_Arrays_fill_AIIV N C E x0 x1 h hf)
/-! ===== java/util/Arrays.fill([JJ)V ===== -/
abbrev y_Arrays_fill_AJJV : MethodName := ⟨R_Arrays, "fill", "([JJ)V"⟩
theorem pd_Arrays_fill_AJJV : y_Arrays_fill_AJJV.cls ≠ "java/lang/invoke/MethodHandle" ∧ y_Arrays_fill_AJJV.cls ≠ "java/lang/invoke/VarHandle" ∧ (parseMethodDescriptor y_Arrays_fill_AJJV.desc).map (fun d => d.parameters.length) = some 2 := ⟨by decide +kernel, by decide +kernel, by decide +kernel⟩
abbrev rm_Arrays_fill_AJJV : Room := { frames := 0, cells := 0, slots := 0, locals := 0 }
def b_Arrays_fill_AJJV_6 (N : Nat) (rc6 : Nat → Int64 → Int32 → Int32 → zH → Option (Unit × zH)) (x0 : Nat) (x1 : Int64) (x3 : Int32) (x4 : Int32) (h : zH) : Option (Unit × zH) :=
  (if x4 ≤ x3 then
    some ((), h)
  else
    Option.bind (zsJ h 1 x0 x3 x1) fun (h1 : zH) =>
    rc6 x0 x1 (x3 + (1 : Int32)) x4 h1)
def f_Arrays_fill_AJJV_6 (N : Nat) : Nat → Nat → Int64 → Int32 → Int32 → zH → Option (Unit × zH)
  | 0 => fun _ _ _ _ _ => none
  | n + 1 => fun x0 x1 x3 x4 h => b_Arrays_fill_AJJV_6 N (f_Arrays_fill_AJJV_6 N n) x0 x1 x3 x4 h
def f_Arrays_fill_AJJV (N : Nat) (x0 : Nat) (x1 : Int64) (h : zH) : Option (Unit × zH) :=
  Option.bind (zlen h 1 x0) fun (v2 : Int32) =>
  f_Arrays_fill_AJJV_6 N N x0 x1 (0 : Int32) v2 h
theorem d_Arrays_fill_AJJV_0 : decode prog_14_method_101_code 0 = .ok (.iconst (0), 1) := by decide +kernel
theorem d_Arrays_fill_AJJV_1 : decode prog_14_method_101_code 1 = .ok (.istore_n (3), 1) := by decide +kernel
theorem d_Arrays_fill_AJJV_2 : decode prog_14_method_101_code 2 = .ok (.aload_n (0), 1) := by decide +kernel
theorem d_Arrays_fill_AJJV_3 : decode prog_14_method_101_code 3 = .ok (.arraylength, 1) := by decide +kernel
theorem d_Arrays_fill_AJJV_4 : decode prog_14_method_101_code 4 = .ok (.istore (4), 2) := by decide +kernel
theorem d_Arrays_fill_AJJV_6 : decode prog_14_method_101_code 6 = .ok (.iload_n (3), 1) := by decide +kernel
theorem d_Arrays_fill_AJJV_7 : decode prog_14_method_101_code 7 = .ok (.iload (4), 2) := by decide +kernel
theorem d_Arrays_fill_AJJV_9 : decode prog_14_method_101_code 9 = .ok (.if_icmp .ge (13), 3) := by decide +kernel
theorem d_Arrays_fill_AJJV_12 : decode prog_14_method_101_code 12 = .ok (.aload_n (0), 1) := by decide +kernel
theorem d_Arrays_fill_AJJV_13 : decode prog_14_method_101_code 13 = .ok (.iload_n (3), 1) := by decide +kernel
theorem d_Arrays_fill_AJJV_14 : decode prog_14_method_101_code 14 = .ok (.lload_n (1), 1) := by decide +kernel
theorem d_Arrays_fill_AJJV_15 : decode prog_14_method_101_code 15 = .ok (.lastore, 1) := by decide +kernel
theorem d_Arrays_fill_AJJV_16 : decode prog_14_method_101_code 16 = .ok (.iinc (3) (1), 3) := by decide +kernel
theorem d_Arrays_fill_AJJV_19 : decode prog_14_method_101_code 19 = .ok (.goto (-13), 3) := by decide +kernel
theorem d_Arrays_fill_AJJV_22 : decode prog_14_method_101_code 22 = .ok (.return_, 1) := by decide +kernel
set_option maxHeartbeats 4000000 in
set_option maxRecDepth 100000 in
theorem k_Arrays_fill_AJJV_6 (N : Nat) {X : zX} (C : zB X prog_14_method_101_code 5 R_Arrays rm_Arrays_fill_AJJV) {h0 : zH} {p : Unit × zH} (E : zR X none rm_Arrays_fill_AJJV h0 none p.2) : ∀ n : Nat, ∀ (x0 : Nat) (x1 : Int64) (x3 : Int32) (x4 : Int32) (h : zH), f_Arrays_fill_AJJV_6 N n x0 x1 x3 x4 h = some p → Zt X 5 0 0 6 [(0, .ref x0), (1, .long x1), (3, .int x3), (4, .int x4)] [] h := by
  intro n
  induction n with
  | zero => intro x0 x1 x3 x4 h hf; cases hf
  | succ n ih =>
  intro x0 x1 x3 x4 h hf
  have H6 := ih
  replace hf : b_Arrays_fill_AJJV_6 N (f_Arrays_fill_AJJV_6 N n) x0 x1 x3 x4 h = some p := hf
  unfold b_Arrays_fill_AJJV_6 at hf
  refine z_iload_n C 2 d_Arrays_fill_AJJV_6 rfl rfl ?_
  refine z_iload C 3 d_Arrays_fill_AJJV_7 rfl ?_
  refine z_ic_ge (tgt := 22) C d_Arrays_fill_AJJV_9 (by decide) hf (fun hf => ?_) (fun hf => ?_)
  · exact z_vret C E (Nat.le_of_ble_eq_true rfl) (Nat.le_of_ble_eq_true rfl) d_Arrays_fill_AJJV_22 hf
  · refine z_aload_n C 0 d_Arrays_fill_AJJV_12 rfl rfl ?_
    refine z_iload_n C 2 d_Arrays_fill_AJJV_13 rfl rfl ?_
    refine z_lload_n C 1 d_Arrays_fill_AJJV_14 rfl rfl ?_
    refine z_last C d_Arrays_fill_AJJV_15 hf (fun h1 hf => ?_)
    refine z_iinc C (v := (x3 + (1 : Int32))) (lv' := [(3, .int (x3 + (1 : Int32))), (0, .ref x0), (1, .long x1), (4, .int x4)]) 2 d_Arrays_fill_AJJV_16 rfl (by rfl) (by decide) rfl ?_
    refine z_goto (tgt := 6) C d_Arrays_fill_AJJV_19 (by decide) ?_
    refine z_sub [1, 2, 0, 3] rfl ?_
    exact H6 _ _ _ _ _ hf

set_option maxHeartbeats 4000000 in
set_option maxRecDepth 100000 in
theorem k_Arrays_fill_AJJV (N : Nat) {X : zX} (C : zB X prog_14_method_101_code 5 R_Arrays rm_Arrays_fill_AJJV) {h0 : zH} {p : Unit × zH} (E : zR X none rm_Arrays_fill_AJJV h0 none p.2) : ∀ (x0 : Nat) (x1 : Int64) (h : zH), f_Arrays_fill_AJJV N x0 x1 h = some p → Zt X 5 0 0 0 [(0, .ref x0), (1, .long x1)] [] h := by
  intro x0 x1 h hf
  unfold f_Arrays_fill_AJJV at hf
  refine z_iconst C (v := (0 : Int32)) d_Arrays_fill_AJJV_0 (by decide) ?_
  refine z_istore_n C (lv' := [(3, .int (0 : Int32)), (0, .ref x0), (1, .long x1)]) d_Arrays_fill_AJJV_1 rfl (by decide) rfl ?_
  refine z_aload_n C 1 d_Arrays_fill_AJJV_2 rfl rfl ?_
  refine z_alen C 1 d_Arrays_fill_AJJV_3 hf (fun v2 hf => ?_)
  refine z_istore C (lv' := [(4, .int v2), (3, .int (0 : Int32)), (0, .ref x0), (1, .long x1)]) d_Arrays_fill_AJJV_4 (by decide) rfl ?_
  refine z_sub [2, 3, 1, 0] rfl ?_
  exact k_Arrays_fill_AJJV_6 N C E N _ _ _ _ _ hf

theorem c_Arrays_fill_AJJV (N : Nat) {l : Launch} {D : va_G} {T : List (ClassId × FieldType)} (hT : T.map (fun q => q.2) = ztl) {x0 : Nat} {x1 : Int64} {h : zH} {p : Unit × zH} (hf : f_Arrays_fill_AJJV N x0 x1 h = some p) : zM l y_Arrays_fill_AJJV prog_14_method_101_code 5 none rm_Arrays_fill_AJJV D T [.ref x0, .long x1] h none p.2 :=
  z_enter (by decide) hT (Nat.le_of_ble_eq_true rfl) (fun X el eD eT hin C E => k_Arrays_fill_AJJV N C E x0 x1 h hf)
/-! ===== java/lang/Integer.bitCount(I)I ===== -/
abbrev y_Integer_bitCount : MethodName := ⟨R_Integer, "bitCount", "(I)I"⟩
theorem pd_Integer_bitCount : y_Integer_bitCount.cls ≠ "java/lang/invoke/MethodHandle" ∧ y_Integer_bitCount.cls ≠ "java/lang/invoke/VarHandle" ∧ (parseMethodDescriptor y_Integer_bitCount.desc).map (fun d => d.parameters.length) = some 1 := ⟨by decide +kernel, by decide +kernel, by decide +kernel⟩
abbrev rm_Integer_bitCount : Room := { frames := 0, cells := 0, slots := 0, locals := 0 }
def f_Integer_bitCount (N : Nat) (x0 : Int32) (h : zH) : Option (Int32 × zH) :=
  some (((((((((x0 - ((z_us x0 (1 : Int32)) &&& (1431655765 : Int32))) &&& (858993459 : Int32)) + ((z_us (x0 - ((z_us x0 (1 : Int32)) &&& (1431655765 : Int32))) (2 : Int32)) &&& (858993459 : Int32))) + (z_us (((x0 - ((z_us x0 (1 : Int32)) &&& (1431655765 : Int32))) &&& (858993459 : Int32)) + ((z_us (x0 - ((z_us x0 (1 : Int32)) &&& (1431655765 : Int32))) (2 : Int32)) &&& (858993459 : Int32))) (4 : Int32))) &&& (252645135 : Int32)) + (z_us (((((x0 - ((z_us x0 (1 : Int32)) &&& (1431655765 : Int32))) &&& (858993459 : Int32)) + ((z_us (x0 - ((z_us x0 (1 : Int32)) &&& (1431655765 : Int32))) (2 : Int32)) &&& (858993459 : Int32))) + (z_us (((x0 - ((z_us x0 (1 : Int32)) &&& (1431655765 : Int32))) &&& (858993459 : Int32)) + ((z_us (x0 - ((z_us x0 (1 : Int32)) &&& (1431655765 : Int32))) (2 : Int32)) &&& (858993459 : Int32))) (4 : Int32))) &&& (252645135 : Int32)) (8 : Int32))) + (z_us ((((((x0 - ((z_us x0 (1 : Int32)) &&& (1431655765 : Int32))) &&& (858993459 : Int32)) + ((z_us (x0 - ((z_us x0 (1 : Int32)) &&& (1431655765 : Int32))) (2 : Int32)) &&& (858993459 : Int32))) + (z_us (((x0 - ((z_us x0 (1 : Int32)) &&& (1431655765 : Int32))) &&& (858993459 : Int32)) + ((z_us (x0 - ((z_us x0 (1 : Int32)) &&& (1431655765 : Int32))) (2 : Int32)) &&& (858993459 : Int32))) (4 : Int32))) &&& (252645135 : Int32)) + (z_us (((((x0 - ((z_us x0 (1 : Int32)) &&& (1431655765 : Int32))) &&& (858993459 : Int32)) + ((z_us (x0 - ((z_us x0 (1 : Int32)) &&& (1431655765 : Int32))) (2 : Int32)) &&& (858993459 : Int32))) + (z_us (((x0 - ((z_us x0 (1 : Int32)) &&& (1431655765 : Int32))) &&& (858993459 : Int32)) + ((z_us (x0 - ((z_us x0 (1 : Int32)) &&& (1431655765 : Int32))) (2 : Int32)) &&& (858993459 : Int32))) (4 : Int32))) &&& (252645135 : Int32)) (8 : Int32))) (16 : Int32))) &&& (63 : Int32)), h)
theorem d_Integer_bitCount_0 : decode prog_11_method_49_code 0 = .ok (.iload_n (0), 1) := by decide +kernel
theorem d_Integer_bitCount_1 : decode prog_11_method_49_code 1 = .ok (.iload_n (0), 1) := by decide +kernel
theorem d_Integer_bitCount_2 : decode prog_11_method_49_code 2 = .ok (.iconst (1), 1) := by decide +kernel
theorem d_Integer_bitCount_3 : decode prog_11_method_49_code 3 = .ok (.iushr, 1) := by decide +kernel
theorem d_Integer_bitCount_4 : decode prog_11_method_49_code 4 = .ok (.ldc_w (265), 3) := by decide +kernel
theorem d_Integer_bitCount_7 : decode prog_11_method_49_code 7 = .ok (.iand, 1) := by decide +kernel
theorem d_Integer_bitCount_8 : decode prog_11_method_49_code 8 = .ok (.isub, 1) := by decide +kernel
theorem d_Integer_bitCount_9 : decode prog_11_method_49_code 9 = .ok (.istore_n (0), 1) := by decide +kernel
theorem d_Integer_bitCount_10 : decode prog_11_method_49_code 10 = .ok (.iload_n (0), 1) := by decide +kernel
theorem d_Integer_bitCount_11 : decode prog_11_method_49_code 11 = .ok (.ldc_w (266), 3) := by decide +kernel
theorem d_Integer_bitCount_14 : decode prog_11_method_49_code 14 = .ok (.iand, 1) := by decide +kernel
theorem d_Integer_bitCount_15 : decode prog_11_method_49_code 15 = .ok (.iload_n (0), 1) := by decide +kernel
theorem d_Integer_bitCount_16 : decode prog_11_method_49_code 16 = .ok (.iconst (2), 1) := by decide +kernel
theorem d_Integer_bitCount_17 : decode prog_11_method_49_code 17 = .ok (.iushr, 1) := by decide +kernel
theorem d_Integer_bitCount_18 : decode prog_11_method_49_code 18 = .ok (.ldc_w (266), 3) := by decide +kernel
theorem d_Integer_bitCount_21 : decode prog_11_method_49_code 21 = .ok (.iand, 1) := by decide +kernel
theorem d_Integer_bitCount_22 : decode prog_11_method_49_code 22 = .ok (.iadd, 1) := by decide +kernel
theorem d_Integer_bitCount_23 : decode prog_11_method_49_code 23 = .ok (.istore_n (0), 1) := by decide +kernel
theorem d_Integer_bitCount_24 : decode prog_11_method_49_code 24 = .ok (.iload_n (0), 1) := by decide +kernel
theorem d_Integer_bitCount_25 : decode prog_11_method_49_code 25 = .ok (.iload_n (0), 1) := by decide +kernel
theorem d_Integer_bitCount_26 : decode prog_11_method_49_code 26 = .ok (.iconst (4), 1) := by decide +kernel
theorem d_Integer_bitCount_27 : decode prog_11_method_49_code 27 = .ok (.iushr, 1) := by decide +kernel
theorem d_Integer_bitCount_28 : decode prog_11_method_49_code 28 = .ok (.iadd, 1) := by decide +kernel
theorem d_Integer_bitCount_29 : decode prog_11_method_49_code 29 = .ok (.ldc_w (267), 3) := by decide +kernel
theorem d_Integer_bitCount_32 : decode prog_11_method_49_code 32 = .ok (.iand, 1) := by decide +kernel
theorem d_Integer_bitCount_33 : decode prog_11_method_49_code 33 = .ok (.istore_n (0), 1) := by decide +kernel
theorem d_Integer_bitCount_34 : decode prog_11_method_49_code 34 = .ok (.iload_n (0), 1) := by decide +kernel
theorem d_Integer_bitCount_35 : decode prog_11_method_49_code 35 = .ok (.iload_n (0), 1) := by decide +kernel
theorem d_Integer_bitCount_36 : decode prog_11_method_49_code 36 = .ok (.bipush (8), 2) := by decide +kernel
theorem d_Integer_bitCount_38 : decode prog_11_method_49_code 38 = .ok (.iushr, 1) := by decide +kernel
theorem d_Integer_bitCount_39 : decode prog_11_method_49_code 39 = .ok (.iadd, 1) := by decide +kernel
theorem d_Integer_bitCount_40 : decode prog_11_method_49_code 40 = .ok (.istore_n (0), 1) := by decide +kernel
theorem d_Integer_bitCount_41 : decode prog_11_method_49_code 41 = .ok (.iload_n (0), 1) := by decide +kernel
theorem d_Integer_bitCount_42 : decode prog_11_method_49_code 42 = .ok (.iload_n (0), 1) := by decide +kernel
theorem d_Integer_bitCount_43 : decode prog_11_method_49_code 43 = .ok (.bipush (16), 2) := by decide +kernel
theorem d_Integer_bitCount_45 : decode prog_11_method_49_code 45 = .ok (.iushr, 1) := by decide +kernel
theorem d_Integer_bitCount_46 : decode prog_11_method_49_code 46 = .ok (.iadd, 1) := by decide +kernel
theorem d_Integer_bitCount_47 : decode prog_11_method_49_code 47 = .ok (.istore_n (0), 1) := by decide +kernel
theorem d_Integer_bitCount_48 : decode prog_11_method_49_code 48 = .ok (.iload_n (0), 1) := by decide +kernel
theorem d_Integer_bitCount_49 : decode prog_11_method_49_code 49 = .ok (.bipush (63), 2) := by decide +kernel
theorem d_Integer_bitCount_51 : decode prog_11_method_49_code 51 = .ok (.iand, 1) := by decide +kernel
theorem d_Integer_bitCount_52 : decode prog_11_method_49_code 52 = .ok (.ireturn, 1) := by decide +kernel
set_option maxHeartbeats 4000000 in
set_option maxRecDepth 100000 in
theorem k_Integer_bitCount (N : Nat) {X : zX} (C : zB X prog_11_method_49_code 1 R_Integer rm_Integer_bitCount) {h0 : zH} {p : Int32 × zH} (E : zR X (some .int) rm_Integer_bitCount h0 (some (.int p.1)) p.2) : ∀ (x0 : Int32) (h : zH), f_Integer_bitCount N x0 h = some p → Zt X 1 0 0 0 [(0, .int x0)] [] h := by
  intro x0 h hf
  unfold f_Integer_bitCount at hf
  refine z_iload_n C 0 d_Integer_bitCount_0 rfl rfl ?_
  refine z_iload_n C 0 d_Integer_bitCount_1 rfl rfl ?_
  refine z_iconst C (v := (1 : Int32)) d_Integer_bitCount_2 (by decide) ?_
  refine z_iushr C d_Integer_bitCount_3 ?_
  refine z_ldcw C d_Integer_bitCount_4 w_581 ?_
  refine z_iand C d_Integer_bitCount_7 ?_
  refine z_isub C d_Integer_bitCount_8 ?_
  refine z_istore_n C (lv' := [(0, .int (x0 - ((z_us x0 (1 : Int32)) &&& (1431655765 : Int32))))]) d_Integer_bitCount_9 rfl (by decide) rfl ?_
  refine z_iload_n C 0 d_Integer_bitCount_10 rfl rfl ?_
  refine z_ldcw C d_Integer_bitCount_11 w_582 ?_
  refine z_iand C d_Integer_bitCount_14 ?_
  refine z_iload_n C 0 d_Integer_bitCount_15 rfl rfl ?_
  refine z_iconst C (v := (2 : Int32)) d_Integer_bitCount_16 (by decide) ?_
  refine z_iushr C d_Integer_bitCount_17 ?_
  refine z_ldcw C d_Integer_bitCount_18 w_582 ?_
  refine z_iand C d_Integer_bitCount_21 ?_
  refine z_iadd C d_Integer_bitCount_22 ?_
  refine z_istore_n C (lv' := [(0, .int (((x0 - ((z_us x0 (1 : Int32)) &&& (1431655765 : Int32))) &&& (858993459 : Int32)) + ((z_us (x0 - ((z_us x0 (1 : Int32)) &&& (1431655765 : Int32))) (2 : Int32)) &&& (858993459 : Int32))))]) d_Integer_bitCount_23 rfl (by decide) rfl ?_
  refine z_iload_n C 0 d_Integer_bitCount_24 rfl rfl ?_
  refine z_iload_n C 0 d_Integer_bitCount_25 rfl rfl ?_
  refine z_iconst C (v := (4 : Int32)) d_Integer_bitCount_26 (by decide) ?_
  refine z_iushr C d_Integer_bitCount_27 ?_
  refine z_iadd C d_Integer_bitCount_28 ?_
  refine z_ldcw C d_Integer_bitCount_29 w_583 ?_
  refine z_iand C d_Integer_bitCount_32 ?_
  refine z_istore_n C (lv' := [(0, .int (((((x0 - ((z_us x0 (1 : Int32)) &&& (1431655765 : Int32))) &&& (858993459 : Int32)) + ((z_us (x0 - ((z_us x0 (1 : Int32)) &&& (1431655765 : Int32))) (2 : Int32)) &&& (858993459 : Int32))) + (z_us (((x0 - ((z_us x0 (1 : Int32)) &&& (1431655765 : Int32))) &&& (858993459 : Int32)) + ((z_us (x0 - ((z_us x0 (1 : Int32)) &&& (1431655765 : Int32))) (2 : Int32)) &&& (858993459 : Int32))) (4 : Int32))) &&& (252645135 : Int32)))]) d_Integer_bitCount_33 rfl (by decide) rfl ?_
  refine z_iload_n C 0 d_Integer_bitCount_34 rfl rfl ?_
  refine z_iload_n C 0 d_Integer_bitCount_35 rfl rfl ?_
  refine z_bipush C (v := (8 : Int32)) d_Integer_bitCount_36 (by decide) ?_
  refine z_iushr C d_Integer_bitCount_38 ?_
  refine z_iadd C d_Integer_bitCount_39 ?_
  refine z_istore_n C (lv' := [(0, .int ((((((x0 - ((z_us x0 (1 : Int32)) &&& (1431655765 : Int32))) &&& (858993459 : Int32)) + ((z_us (x0 - ((z_us x0 (1 : Int32)) &&& (1431655765 : Int32))) (2 : Int32)) &&& (858993459 : Int32))) + (z_us (((x0 - ((z_us x0 (1 : Int32)) &&& (1431655765 : Int32))) &&& (858993459 : Int32)) + ((z_us (x0 - ((z_us x0 (1 : Int32)) &&& (1431655765 : Int32))) (2 : Int32)) &&& (858993459 : Int32))) (4 : Int32))) &&& (252645135 : Int32)) + (z_us (((((x0 - ((z_us x0 (1 : Int32)) &&& (1431655765 : Int32))) &&& (858993459 : Int32)) + ((z_us (x0 - ((z_us x0 (1 : Int32)) &&& (1431655765 : Int32))) (2 : Int32)) &&& (858993459 : Int32))) + (z_us (((x0 - ((z_us x0 (1 : Int32)) &&& (1431655765 : Int32))) &&& (858993459 : Int32)) + ((z_us (x0 - ((z_us x0 (1 : Int32)) &&& (1431655765 : Int32))) (2 : Int32)) &&& (858993459 : Int32))) (4 : Int32))) &&& (252645135 : Int32)) (8 : Int32))))]) d_Integer_bitCount_40 rfl (by decide) rfl ?_
  refine z_iload_n C 0 d_Integer_bitCount_41 rfl rfl ?_
  refine z_iload_n C 0 d_Integer_bitCount_42 rfl rfl ?_
  refine z_bipush C (v := (16 : Int32)) d_Integer_bitCount_43 (by decide) ?_
  refine z_iushr C d_Integer_bitCount_45 ?_
  refine z_iadd C d_Integer_bitCount_46 ?_
  refine z_istore_n C (lv' := [(0, .int (((((((x0 - ((z_us x0 (1 : Int32)) &&& (1431655765 : Int32))) &&& (858993459 : Int32)) + ((z_us (x0 - ((z_us x0 (1 : Int32)) &&& (1431655765 : Int32))) (2 : Int32)) &&& (858993459 : Int32))) + (z_us (((x0 - ((z_us x0 (1 : Int32)) &&& (1431655765 : Int32))) &&& (858993459 : Int32)) + ((z_us (x0 - ((z_us x0 (1 : Int32)) &&& (1431655765 : Int32))) (2 : Int32)) &&& (858993459 : Int32))) (4 : Int32))) &&& (252645135 : Int32)) + (z_us (((((x0 - ((z_us x0 (1 : Int32)) &&& (1431655765 : Int32))) &&& (858993459 : Int32)) + ((z_us (x0 - ((z_us x0 (1 : Int32)) &&& (1431655765 : Int32))) (2 : Int32)) &&& (858993459 : Int32))) + (z_us (((x0 - ((z_us x0 (1 : Int32)) &&& (1431655765 : Int32))) &&& (858993459 : Int32)) + ((z_us (x0 - ((z_us x0 (1 : Int32)) &&& (1431655765 : Int32))) (2 : Int32)) &&& (858993459 : Int32))) (4 : Int32))) &&& (252645135 : Int32)) (8 : Int32))) + (z_us ((((((x0 - ((z_us x0 (1 : Int32)) &&& (1431655765 : Int32))) &&& (858993459 : Int32)) + ((z_us (x0 - ((z_us x0 (1 : Int32)) &&& (1431655765 : Int32))) (2 : Int32)) &&& (858993459 : Int32))) + (z_us (((x0 - ((z_us x0 (1 : Int32)) &&& (1431655765 : Int32))) &&& (858993459 : Int32)) + ((z_us (x0 - ((z_us x0 (1 : Int32)) &&& (1431655765 : Int32))) (2 : Int32)) &&& (858993459 : Int32))) (4 : Int32))) &&& (252645135 : Int32)) + (z_us (((((x0 - ((z_us x0 (1 : Int32)) &&& (1431655765 : Int32))) &&& (858993459 : Int32)) + ((z_us (x0 - ((z_us x0 (1 : Int32)) &&& (1431655765 : Int32))) (2 : Int32)) &&& (858993459 : Int32))) + (z_us (((x0 - ((z_us x0 (1 : Int32)) &&& (1431655765 : Int32))) &&& (858993459 : Int32)) + ((z_us (x0 - ((z_us x0 (1 : Int32)) &&& (1431655765 : Int32))) (2 : Int32)) &&& (858993459 : Int32))) (4 : Int32))) &&& (252645135 : Int32)) (8 : Int32))) (16 : Int32))))]) d_Integer_bitCount_47 rfl (by decide) rfl ?_
  refine z_iload_n C 0 d_Integer_bitCount_48 rfl rfl ?_
  refine z_bipush C (v := (63 : Int32)) d_Integer_bitCount_49 (by decide) ?_
  refine z_iand C d_Integer_bitCount_51 ?_
  exact z_iret C E (Nat.le_of_ble_eq_true rfl) (Nat.le_of_ble_eq_true rfl) d_Integer_bitCount_52 hf

theorem c_Integer_bitCount (N : Nat) {l : Launch} {D : va_G} {T : List (ClassId × FieldType)} (hT : T.map (fun q => q.2) = ztl) {x0 : Int32} {h : zH} {p : Int32 × zH} (hf : f_Integer_bitCount N x0 h = some p) : zM l y_Integer_bitCount prog_11_method_49_code 1 (some .int) rm_Integer_bitCount D T [.int x0] h (some (.int p.1)) p.2 :=
  z_enter (by decide) hT (Nat.le_of_ble_eq_true rfl) (fun X el eD eT hin C E => k_Integer_bitCount N C E x0 h hf)
