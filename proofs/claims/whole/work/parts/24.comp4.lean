/-! ===== LevelTables.curveRefusal(II)I ===== -/
abbrev y_LT_curveRefusal : MethodName := ⟨R_LT, "curveRefusal", "(II)I"⟩
theorem pd_LT_curveRefusal : y_LT_curveRefusal.cls ≠ "java/lang/invoke/MethodHandle" ∧ y_LT_curveRefusal.cls ≠ "java/lang/invoke/VarHandle" ∧ (parseMethodDescriptor y_LT_curveRefusal.desc).map (fun d => d.parameters.length) = some 2 := ⟨by decide +kernel, by decide +kernel, by decide +kernel⟩
abbrev rm_LT_curveRefusal : Room := { frames := 2, cells := 0, slots := 0, locals := 42 }
def f_LT_curveRefusal_28 (N : Nat)  (h : zH) : Option (Int32 × zH) :=
  some ((-5 : Int32), h)
def f_LT_curveRefusal_72 (N : Nat) (x0 : Nat) (x1 : Int32) (x2 : Int32) (x3 : Int32) (h : zH) : Option (Int32 × zH) :=
  Option.bind (zgI h x0 1 9) fun (v1 : Int32) =>
  (if (x3 * v1) ≤ x2 then
    Option.bind (zgR h x0 1 4) fun (v2 : Nat) =>
    Option.bind (zck (zis h v2 6) (f_Curves_greaterNeighbour N v2 x1 h)) fun (p3 : Int32 × zH) =>
    (if (x2 + p3.1) ≤ (1000 : Int32) then
      some ((0 : Int32), p3.2)
    else
      some ((-3 : Int32), p3.2))
  else
    some ((-2 : Int32), h))
def f_LT_curveRefusal (N : Nat) (x0 : Nat) (x1 : Int32) (x2 : Int32) (h : zH) : Option (Int32 × zH) :=
  Option.bind (zgR h x0 1 3) fun (v4 : Nat) =>
  Option.bind (zgR h v4 5 3) fun (v5 : Nat) =>
  Option.bind (zaI h 0 v5 (x1 - (1 : Int32))) fun (v6 : Int32) =>
  (if v6 = (-1 : Int32) then
    Option.bind (zgR h x0 1 3) fun (v7 : Nat) =>
    Option.bind (zgR h v7 5 3) fun (v8 : Nat) =>
    Option.bind (zaI h 0 v8 x1) fun (v9 : Int32) =>
    (if v9 = (-1 : Int32) then
      Option.bind (zgR h x0 1 3) fun (v10 : Nat) =>
      Option.bind (zck (zis h v10 5) (f_Table_slopeOf N v10 x1 h)) fun (p11 : Int32 × zH) =>
      Option.bind (zgR p11.2 x0 1 3) fun (v12 : Nat) =>
      Option.bind (zck (zis p11.2 v12 5) (f_Table_slopeOf N v12 (x1 - (1 : Int32)) p11.2)) fun (p13 : Int32 × zH) =>
      (if (zabs (p11.1 - p13.1)) = 0 then
        f_LT_curveRefusal_72 N x0 x1 x2 (zabs (p11.1 - p13.1)) p13.2
      else
        Option.bind (zgR p13.2 x0 1 0) fun (v14 : Nat) =>
        Option.bind (zck (zis p13.2 v14 2) (f_Site_isHeld N v14 x1 p13.2)) fun (p15 : Int32 × zH) =>
        (if p15.1 = 0 then
          f_LT_curveRefusal_72 N x0 x1 x2 (zabs (p11.1 - p13.1)) p15.2
        else
          some ((-4 : Int32), p15.2)))
    else
      f_LT_curveRefusal_28 N  h)
  else
    f_LT_curveRefusal_28 N  h)
theorem d_LT_curveRefusal_0 : decode prog_1_method_24_code 0 = .ok (.aload_n (0), 1) := by decide +kernel
theorem d_LT_curveRefusal_1 : decode prog_1_method_24_code 1 = .ok (.getfield (48), 3) := by decide +kernel
theorem d_LT_curveRefusal_4 : decode prog_1_method_24_code 4 = .ok (.getfield (241), 3) := by decide +kernel
theorem d_LT_curveRefusal_7 : decode prog_1_method_24_code 7 = .ok (.iload_n (1), 1) := by decide +kernel
theorem d_LT_curveRefusal_8 : decode prog_1_method_24_code 8 = .ok (.iconst (1), 1) := by decide +kernel
theorem d_LT_curveRefusal_9 : decode prog_1_method_24_code 9 = .ok (.isub, 1) := by decide +kernel
theorem d_LT_curveRefusal_10 : decode prog_1_method_24_code 10 = .ok (.iaload, 1) := by decide +kernel
theorem d_LT_curveRefusal_11 : decode prog_1_method_24_code 11 = .ok (.iconst (-1), 1) := by decide +kernel
theorem d_LT_curveRefusal_12 : decode prog_1_method_24_code 12 = .ok (.if_icmp .ne (16), 3) := by decide +kernel
theorem d_LT_curveRefusal_15 : decode prog_1_method_24_code 15 = .ok (.aload_n (0), 1) := by decide +kernel
theorem d_LT_curveRefusal_16 : decode prog_1_method_24_code 16 = .ok (.getfield (48), 3) := by decide +kernel
theorem d_LT_curveRefusal_19 : decode prog_1_method_24_code 19 = .ok (.getfield (241), 3) := by decide +kernel
theorem d_LT_curveRefusal_22 : decode prog_1_method_24_code 22 = .ok (.iload_n (1), 1) := by decide +kernel
theorem d_LT_curveRefusal_23 : decode prog_1_method_24_code 23 = .ok (.iaload, 1) := by decide +kernel
theorem d_LT_curveRefusal_24 : decode prog_1_method_24_code 24 = .ok (.iconst (-1), 1) := by decide +kernel
theorem d_LT_curveRefusal_25 : decode prog_1_method_24_code 25 = .ok (.if_icmp .eq (6), 3) := by decide +kernel
theorem d_LT_curveRefusal_28 : decode prog_1_method_24_code 28 = .ok (.bipush (-5), 2) := by decide +kernel
theorem d_LT_curveRefusal_30 : decode prog_1_method_24_code 30 = .ok (.ireturn, 1) := by decide +kernel
theorem d_LT_curveRefusal_31 : decode prog_1_method_24_code 31 = .ok (.aload_n (0), 1) := by decide +kernel
theorem d_LT_curveRefusal_32 : decode prog_1_method_24_code 32 = .ok (.getfield (48), 3) := by decide +kernel
theorem d_LT_curveRefusal_35 : decode prog_1_method_24_code 35 = .ok (.iload_n (1), 1) := by decide +kernel
theorem d_LT_curveRefusal_36 : decode prog_1_method_24_code 36 = .ok (.invokevirtual (196), 3) := by decide +kernel
theorem d_LT_curveRefusal_39 : decode prog_1_method_24_code 39 = .ok (.aload_n (0), 1) := by decide +kernel
theorem d_LT_curveRefusal_40 : decode prog_1_method_24_code 40 = .ok (.getfield (48), 3) := by decide +kernel
theorem d_LT_curveRefusal_43 : decode prog_1_method_24_code 43 = .ok (.iload_n (1), 1) := by decide +kernel
theorem d_LT_curveRefusal_44 : decode prog_1_method_24_code 44 = .ok (.iconst (1), 1) := by decide +kernel
theorem d_LT_curveRefusal_45 : decode prog_1_method_24_code 45 = .ok (.isub, 1) := by decide +kernel
theorem d_LT_curveRefusal_46 : decode prog_1_method_24_code 46 = .ok (.invokevirtual (196), 3) := by decide +kernel
theorem d_LT_curveRefusal_49 : decode prog_1_method_24_code 49 = .ok (.isub, 1) := by decide +kernel
theorem d_LT_curveRefusal_50 : decode prog_1_method_24_code 50 = .ok (.invokestatic (244), 3) := by decide +kernel
theorem d_LT_curveRefusal_53 : decode prog_1_method_24_code 53 = .ok (.istore_n (3), 1) := by decide +kernel
theorem d_LT_curveRefusal_54 : decode prog_1_method_24_code 54 = .ok (.iload_n (3), 1) := by decide +kernel
theorem d_LT_curveRefusal_55 : decode prog_1_method_24_code 55 = .ok (.ifCond .eq (17), 3) := by decide +kernel
theorem d_LT_curveRefusal_58 : decode prog_1_method_24_code 58 = .ok (.aload_n (0), 1) := by decide +kernel
theorem d_LT_curveRefusal_59 : decode prog_1_method_24_code 59 = .ok (.getfield (23), 3) := by decide +kernel
theorem d_LT_curveRefusal_62 : decode prog_1_method_24_code 62 = .ok (.iload_n (1), 1) := by decide +kernel
theorem d_LT_curveRefusal_63 : decode prog_1_method_24_code 63 = .ok (.invokevirtual (247), 3) := by decide +kernel
theorem d_LT_curveRefusal_66 : decode prog_1_method_24_code 66 = .ok (.ifCond .eq (6), 3) := by decide +kernel
theorem d_LT_curveRefusal_69 : decode prog_1_method_24_code 69 = .ok (.bipush (-4), 2) := by decide +kernel
theorem d_LT_curveRefusal_71 : decode prog_1_method_24_code 71 = .ok (.ireturn, 1) := by decide +kernel
theorem d_LT_curveRefusal_72 : decode prog_1_method_24_code 72 = .ok (.iload_n (2), 1) := by decide +kernel
theorem d_LT_curveRefusal_73 : decode prog_1_method_24_code 73 = .ok (.iload_n (3), 1) := by decide +kernel
theorem d_LT_curveRefusal_74 : decode prog_1_method_24_code 74 = .ok (.aload_n (0), 1) := by decide +kernel
theorem d_LT_curveRefusal_75 : decode prog_1_method_24_code 75 = .ok (.getfield (180), 3) := by decide +kernel
theorem d_LT_curveRefusal_78 : decode prog_1_method_24_code 78 = .ok (.imul, 1) := by decide +kernel
theorem d_LT_curveRefusal_79 : decode prog_1_method_24_code 79 = .ok (.if_icmp .ge (6), 3) := by decide +kernel
theorem d_LT_curveRefusal_82 : decode prog_1_method_24_code 82 = .ok (.bipush (-2), 2) := by decide +kernel
theorem d_LT_curveRefusal_84 : decode prog_1_method_24_code 84 = .ok (.ireturn, 1) := by decide +kernel
theorem d_LT_curveRefusal_85 : decode prog_1_method_24_code 85 = .ok (.iload_n (2), 1) := by decide +kernel
theorem d_LT_curveRefusal_86 : decode prog_1_method_24_code 86 = .ok (.aload_n (0), 1) := by decide +kernel
theorem d_LT_curveRefusal_87 : decode prog_1_method_24_code 87 = .ok (.getfield (57), 3) := by decide +kernel
theorem d_LT_curveRefusal_90 : decode prog_1_method_24_code 90 = .ok (.iload_n (1), 1) := by decide +kernel
theorem d_LT_curveRefusal_91 : decode prog_1_method_24_code 91 = .ok (.invokevirtual (250), 3) := by decide +kernel
theorem d_LT_curveRefusal_94 : decode prog_1_method_24_code 94 = .ok (.iadd, 1) := by decide +kernel
theorem d_LT_curveRefusal_95 : decode prog_1_method_24_code 95 = .ok (.sipush (1000), 3) := by decide +kernel
theorem d_LT_curveRefusal_98 : decode prog_1_method_24_code 98 = .ok (.if_icmp .le (6), 3) := by decide +kernel
theorem d_LT_curveRefusal_101 : decode prog_1_method_24_code 101 = .ok (.bipush (-3), 2) := by decide +kernel
theorem d_LT_curveRefusal_103 : decode prog_1_method_24_code 103 = .ok (.ireturn, 1) := by decide +kernel
theorem d_LT_curveRefusal_104 : decode prog_1_method_24_code 104 = .ok (.iconst (0), 1) := by decide +kernel
theorem d_LT_curveRefusal_105 : decode prog_1_method_24_code 105 = .ok (.ireturn, 1) := by decide +kernel
set_option maxHeartbeats 4000000 in
set_option maxRecDepth 100000 in
theorem k_LT_curveRefusal_28 (N : Nat) {X : zX} (C : zB X prog_1_method_24_code 4 R_LT rm_LT_curveRefusal) {h0 : zH} {p : Int32 × zH} (E : zR X (some .int) rm_LT_curveRefusal h0 (some (.int p.1)) p.2) : ∀  (h : zH), f_LT_curveRefusal_28 N  h = some p → Zt X 4 0 0 28 [] [] h := by
  intro  h hf
  unfold f_LT_curveRefusal_28 at hf
  refine z_bipush C (v := (-5 : Int32)) d_LT_curveRefusal_28 (by decide) ?_
  exact z_iret C E (Nat.le_of_ble_eq_true rfl) (Nat.le_of_ble_eq_true rfl) d_LT_curveRefusal_30 hf

set_option maxHeartbeats 4000000 in
set_option maxRecDepth 100000 in
theorem k_LT_curveRefusal_72 (N : Nat) {X : zX} (C : zB X prog_1_method_24_code 4 R_LT rm_LT_curveRefusal) {h0 : zH} {p : Int32 × zH} (E : zR X (some .int) rm_LT_curveRefusal h0 (some (.int p.1)) p.2) : ∀ (x0 : Nat) (x1 : Int32) (x2 : Int32) (x3 : Int32) (h : zH), f_LT_curveRefusal_72 N x0 x1 x2 x3 h = some p → Zt X 4 0 0 72 [(0, .ref x0), (1, .int x1), (2, .int x2), (3, .int x3)] [] h := by
  intro x0 x1 x2 x3 h hf
  unfold f_LT_curveRefusal_72 at hf
  refine z_iload_n C 2 d_LT_curveRefusal_72 rfl rfl ?_
  refine z_iload_n C 3 d_LT_curveRefusal_73 rfl rfl ?_
  refine z_aload_n C 0 d_LT_curveRefusal_74 rfl rfl ?_
  refine z_getI C 1 9 rfl in_LT (by decide) w_275 rfl d_LT_curveRefusal_75 hf (fun v1 hf => ?_)
  refine z_imul C d_LT_curveRefusal_78 ?_
  refine z_ic_ge (tgt := 85) C d_LT_curveRefusal_79 (by decide) hf (fun hf => ?_) (fun hf => ?_)
  · refine z_iload_n C 2 d_LT_curveRefusal_85 rfl rfl ?_
    refine z_aload_n C 0 d_LT_curveRefusal_86 rfl rfl ?_
    refine z_getR C 1 4 rfl in_LT (by decide) w_270 rfl d_LT_curveRefusal_87 hf (fun v2 hf => ?_)
    refine z_iload_n C 1 d_LT_curveRefusal_90 rfl rfl ?_
    obtain ⟨p3, hc, hf⟩ := Option.bind_eq_some_iff.mp hf
    obtain ⟨hz, hc⟩ := zck_some hc
    refine z_callV C (ci := 6) (c_Curves_greaterNeighbour N C.2.2.1 hc) rfl hz w_627 w_64 w_624 w_625 w_626 pd_Curves_greaterNeighbour rfl ⟨(Nat.le_of_ble_eq_true rfl), (Nat.le_of_ble_eq_true rfl)⟩ ⟨(Nat.le_of_ble_eq_true rfl), (Nat.le_of_ble_eq_true rfl)⟩ rfl (Nat.le_of_ble_eq_true rfl) d_LT_curveRefusal_91 (k' := 0) (n' := 0) (stk' := [.int p3.1, .int x2]) rfl rfl rfl ?_
    refine z_iadd C d_LT_curveRefusal_94 ?_
    refine z_sipush C (v := (1000 : Int32)) d_LT_curveRefusal_95 (by decide) ?_
    refine z_ic_le (tgt := 104) C d_LT_curveRefusal_98 (by decide) hf (fun hf => ?_) (fun hf => ?_)
    · refine z_iconst C (v := (0 : Int32)) d_LT_curveRefusal_104 (by decide) ?_
      exact z_iret C E (Nat.le_of_ble_eq_true rfl) (Nat.le_of_ble_eq_true rfl) d_LT_curveRefusal_105 hf
    · refine z_bipush C (v := (-3 : Int32)) d_LT_curveRefusal_101 (by decide) ?_
      exact z_iret C E (Nat.le_of_ble_eq_true rfl) (Nat.le_of_ble_eq_true rfl) d_LT_curveRefusal_103 hf
  · refine z_bipush C (v := (-2 : Int32)) d_LT_curveRefusal_82 (by decide) ?_
    exact z_iret C E (Nat.le_of_ble_eq_true rfl) (Nat.le_of_ble_eq_true rfl) d_LT_curveRefusal_84 hf

set_option maxHeartbeats 4000000 in
set_option maxRecDepth 100000 in
theorem k_LT_curveRefusal (N : Nat) {X : zX} (C : zB X prog_1_method_24_code 4 R_LT rm_LT_curveRefusal) {h0 : zH} {p : Int32 × zH} (E : zR X (some .int) rm_LT_curveRefusal h0 (some (.int p.1)) p.2) : ∀ (x0 : Nat) (x1 : Int32) (x2 : Int32) (h : zH), f_LT_curveRefusal N x0 x1 x2 h = some p → Zt X 4 0 0 0 [(0, .ref x0), (1, .int x1), (2, .int x2)] [] h := by
  intro x0 x1 x2 h hf
  unfold f_LT_curveRefusal at hf
  refine z_aload_n C 0 d_LT_curveRefusal_0 rfl rfl ?_
  refine z_getR C 1 3 rfl in_LT (by decide) w_269 rfl d_LT_curveRefusal_1 hf (fun v4 hf => ?_)
  refine z_getR C 5 3 rfl in_Table (by decide) w_203 rfl d_LT_curveRefusal_4 hf (fun v5 hf => ?_)
  refine z_iload_n C 1 d_LT_curveRefusal_7 rfl rfl ?_
  refine z_iconst C (v := (1 : Int32)) d_LT_curveRefusal_8 (by decide) ?_
  refine z_isub C d_LT_curveRefusal_9 ?_
  refine z_iald C d_LT_curveRefusal_10 hf (fun v6 hf => ?_)
  refine z_iconst C (v := (-1 : Int32)) d_LT_curveRefusal_11 (by decide) ?_
  refine z_ic_ne (tgt := 28) C d_LT_curveRefusal_12 (by decide) hf (fun hf => ?_) (fun hf => ?_)
  · refine z_sub [] rfl ?_
    exact k_LT_curveRefusal_28 N C E  _ hf
  · refine z_aload_n C 0 d_LT_curveRefusal_15 rfl rfl ?_
    refine z_getR C 1 3 rfl in_LT (by decide) w_269 rfl d_LT_curveRefusal_16 hf (fun v7 hf => ?_)
    refine z_getR C 5 3 rfl in_Table (by decide) w_203 rfl d_LT_curveRefusal_19 hf (fun v8 hf => ?_)
    refine z_iload_n C 1 d_LT_curveRefusal_22 rfl rfl ?_
    refine z_iald C d_LT_curveRefusal_23 hf (fun v9 hf => ?_)
    refine z_iconst C (v := (-1 : Int32)) d_LT_curveRefusal_24 (by decide) ?_
    refine z_ic_eq (tgt := 31) C d_LT_curveRefusal_25 (by decide) hf (fun hf => ?_) (fun hf => ?_)
    · refine z_aload_n C 0 d_LT_curveRefusal_31 rfl rfl ?_
      refine z_getR C 1 3 rfl in_LT (by decide) w_269 rfl d_LT_curveRefusal_32 hf (fun v10 hf => ?_)
      refine z_iload_n C 1 d_LT_curveRefusal_35 rfl rfl ?_
      obtain ⟨p11, hc, hf⟩ := Option.bind_eq_some_iff.mp hf
      obtain ⟨hz, hc⟩ := zck_some hc
      refine z_callV C (ci := 5) (c_Table_slopeOf N C.2.2.1 hc) rfl hz w_569 w_63 w_618 w_567 w_568 pd_Table_slopeOf rfl ⟨(Nat.le_of_ble_eq_true rfl), (Nat.le_of_ble_eq_true rfl)⟩ ⟨(Nat.le_of_ble_eq_true rfl), (Nat.le_of_ble_eq_true rfl)⟩ rfl (Nat.le_of_ble_eq_true rfl) d_LT_curveRefusal_36 (k' := 0) (n' := 0) (stk' := [.int p11.1]) rfl rfl rfl ?_
      refine z_aload_n C 0 d_LT_curveRefusal_39 rfl rfl ?_
      refine z_getR C 1 3 rfl in_LT (by decide) w_269 rfl d_LT_curveRefusal_40 hf (fun v12 hf => ?_)
      refine z_iload_n C 1 d_LT_curveRefusal_43 rfl rfl ?_
      refine z_iconst C (v := (1 : Int32)) d_LT_curveRefusal_44 (by decide) ?_
      refine z_isub C d_LT_curveRefusal_45 ?_
      obtain ⟨p13, hc, hf⟩ := Option.bind_eq_some_iff.mp hf
      obtain ⟨hz, hc⟩ := zck_some hc
      refine z_callV C (ci := 5) (c_Table_slopeOf N C.2.2.1 hc) rfl hz w_569 w_63 w_618 w_567 w_568 pd_Table_slopeOf rfl ⟨(Nat.le_of_ble_eq_true rfl), (Nat.le_of_ble_eq_true rfl)⟩ ⟨(Nat.le_of_ble_eq_true rfl), (Nat.le_of_ble_eq_true rfl)⟩ rfl (Nat.le_of_ble_eq_true rfl) d_LT_curveRefusal_46 (k' := 0) (n' := 0) (stk' := [.int p13.1, .int p11.1]) rfl rfl rfl ?_
      refine z_isub C d_LT_curveRefusal_49 ?_
      refine z_mabs C w_619 w_407 w_58 w_408 (Nat.le_of_ble_eq_true rfl) (Nat.le_of_ble_eq_true rfl) (Nat.le_of_ble_eq_true rfl) (Nat.le_of_ble_eq_true rfl) d_LT_curveRefusal_50 ?_
      refine z_istore_n C (lv' := [(3, .int (zabs (p11.1 - p13.1))), (0, .ref x0), (1, .int x1), (2, .int x2)]) d_LT_curveRefusal_53 rfl (by decide) rfl ?_
      refine z_iload_n C 0 d_LT_curveRefusal_54 rfl rfl ?_
      refine z_if_eq (tgt := 72) C d_LT_curveRefusal_55 (by decide) hf (fun hf => ?_) (fun hf => ?_)
      · refine z_sub [1, 2, 3, 0] rfl ?_
        exact k_LT_curveRefusal_72 N C E _ _ _ _ _ hf
      · refine z_aload_n C 1 d_LT_curveRefusal_58 rfl rfl ?_
        refine z_getR C 1 0 rfl in_LT (by decide) w_266 rfl d_LT_curveRefusal_59 hf (fun v14 hf => ?_)
        refine z_iload_n C 2 d_LT_curveRefusal_62 rfl rfl ?_
        obtain ⟨p15, hc, hf⟩ := Option.bind_eq_some_iff.mp hf
        obtain ⟨hz, hc⟩ := zck_some hc
        refine z_callV C (ci := 2) (c_Site_isHeld N C.2.2.1 hc) rfl hz w_623 w_59 w_620 w_621 w_622 pd_Site_isHeld rfl ⟨(Nat.le_of_ble_eq_true rfl), (Nat.le_of_ble_eq_true rfl)⟩ ⟨(Nat.le_of_ble_eq_true rfl), (Nat.le_of_ble_eq_true rfl)⟩ rfl (Nat.le_of_ble_eq_true rfl) d_LT_curveRefusal_63 (k' := 0) (n' := 0) (stk' := [.int p15.1]) rfl rfl rfl ?_
        refine z_if_eq (tgt := 72) C d_LT_curveRefusal_66 (by decide) hf (fun hf => ?_) (fun hf => ?_)
        · refine z_sub [1, 2, 3, 0] rfl ?_
          exact k_LT_curveRefusal_72 N C E _ _ _ _ _ hf
        · refine z_bipush C (v := (-4 : Int32)) d_LT_curveRefusal_69 (by decide) ?_
          exact z_iret C E (Nat.le_of_ble_eq_true rfl) (Nat.le_of_ble_eq_true rfl) d_LT_curveRefusal_71 hf
    · refine z_sub [] rfl ?_
      exact k_LT_curveRefusal_28 N C E  _ hf

theorem c_LT_curveRefusal (N : Nat) {l : Launch} {D : va_G} {T : List (ClassId × FieldType)} (hT : T.map (fun q => q.2) = ztl) {x0 : Nat} {x1 : Int32} {x2 : Int32} {h : zH} {p : Int32 × zH} (hf : f_LT_curveRefusal N x0 x1 x2 h = some p) : zM l y_LT_curveRefusal prog_1_method_24_code 4 (some .int) rm_LT_curveRefusal D T [.ref x0, .int x1, .int x2] h (some (.int p.1)) p.2 :=
  z_enter (by decide) hT (Nat.le_of_ble_eq_true rfl) (fun X el eD eT hin C E => k_LT_curveRefusal N C E x0 x1 x2 h hf)
/-! ===== LevelTables$Lorry.laneFact(LLevelTables$Table;II)I ===== -/
abbrev y_Lorry_laneFact : MethodName := ⟨R_Lorry, "laneFact", "(LLevelTables$Table;II)I"⟩
theorem pd_Lorry_laneFact : y_Lorry_laneFact.cls ≠ "java/lang/invoke/MethodHandle" ∧ y_Lorry_laneFact.cls ≠ "java/lang/invoke/VarHandle" ∧ (parseMethodDescriptor y_Lorry_laneFact.desc).map (fun d => d.parameters.length) = some 3 := ⟨by decide +kernel, by decide +kernel, by decide +kernel⟩
abbrev rm_Lorry_laneFact : Room := { frames := 2, cells := 0, slots := 0, locals := 43 }
def f_Lorry_laneFact_143 (N : Nat) (rc24 : Nat → Nat → Int32 → Int32 → Int32 → Int32 → Int32 → Int32 → Int32 → Int32 → Int32 → zH → Option (Int32 × zH)) (x0 : Nat) (x1 : Nat) (x2 : Int32) (x3 : Int32) (x4 : Int32) (x5 : Int32) (x6 : Int32) (x7 : Int32) (x8 : Int32) (x9 : Int32) (x10 : Int32) (h : zH) : Option (Int32 × zH) :=
  rc24 x0 x1 x2 x3 x4 x5 x6 x7 x8 x9 (x10 + (1 : Int32)) h
def f_Lorry_laneFact_141 (N : Nat) (rc24 : Nat → Nat → Int32 → Int32 → Int32 → Int32 → Int32 → Int32 → Int32 → Int32 → Int32 → zH → Option (Int32 × zH)) (x0 : Nat) (x1 : Nat) (x2 : Int32) (x3 : Int32) (x4 : Int32) (x5 : Int32) (x6 : Int32) (x8 : Int32) (x9 : Int32) (x10 : Int32) (s0 : Int32) (h : zH) : Option (Int32 × zH) :=
  f_Lorry_laneFact_143 N rc24 x0 x1 x2 x3 x4 x5 x6 s0 x8 x9 x10 h
def f_Lorry_laneFact_118 (N : Nat) (rc24 : Nat → Nat → Int32 → Int32 → Int32 → Int32 → Int32 → Int32 → Int32 → Int32 → Int32 → zH → Option (Int32 × zH)) (x0 : Nat) (x1 : Nat) (x2 : Int32) (x3 : Int32) (x4 : Int32) (x7 : Int32) (x8 : Int32) (x9 : Int32) (x10 : Int32) (x11 : Int32) (s0 : Int32) (h : zH) : Option (Int32 × zH) :=
  (if x11 = 0 then
    f_Lorry_laneFact_141 N rc24 x0 x1 x2 x3 x4 s0 x10 x8 x9 x10 x8 h
  else
    f_Lorry_laneFact_141 N rc24 x0 x1 x2 x3 x4 s0 x10 x8 x9 x10 (zmin x7 x8) h)
def f_Lorry_laneFact_95 (N : Nat) (rc24 : Nat → Nat → Int32 → Int32 → Int32 → Int32 → Int32 → Int32 → Int32 → Int32 → Int32 → zH → Option (Int32 × zH)) (x0 : Nat) (x1 : Nat) (x2 : Int32) (x3 : Int32) (x4 : Int32) (x5 : Int32) (x6 : Int32) (x7 : Int32) (x8 : Int32) (x9 : Int32) (x10 : Int32) (x11 : Int32) (h : zH) : Option (Int32 × zH) :=
  (if x9 = 0 then
    f_Lorry_laneFact_143 N rc24 x0 x1 x2 x3 x4 x5 x6 x7 x8 x9 x10 h
  else
    (if x4 = x2 then
      (if x11 = 0 then
        f_Lorry_laneFact_118 N rc24 x0 x1 x2 x3 x4 x7 x8 x9 x10 x11 x10 h
      else
        f_Lorry_laneFact_118 N rc24 x0 x1 x2 x3 x4 x7 x8 x9 x10 x11 x5 h)
    else
      f_Lorry_laneFact_143 N rc24 x0 x1 x2 x3 x4 x5 x6 x7 x8 x9 x10 h))
def f_Lorry_laneFact_80 (N : Nat) (rc24 : Nat → Nat → Int32 → Int32 → Int32 → Int32 → Int32 → Int32 → Int32 → Int32 → Int32 → zH → Option (Int32 × zH)) (x0 : Nat) (x1 : Nat) (x2 : Int32) (x3 : Int32) (x4 : Int32) (x5 : Int32) (x6 : Int32) (x7 : Int32) (x8 : Int32) (x10 : Int32) (x11 : Int32) (s0 : Int32) (h : zH) : Option (Int32 × zH) :=
  (if s0 = 0 then
    f_Lorry_laneFact_95 N rc24 x0 x1 x2 x3 x4 x5 x6 x7 x8 s0 x10 x11 h
  else
    (if x11 = 0 then
      f_Lorry_laneFact_95 N rc24 x0 x1 x2 x3 (x4 + (1 : Int32)) x5 x6 x7 x8 s0 x10 x11 h
    else
      f_Lorry_laneFact_95 N rc24 x0 x1 x2 x3 x4 x5 x6 x7 x8 s0 x10 x11 h))
def f_Lorry_laneFact_60 (N : Nat) (rc24 : Nat → Nat → Int32 → Int32 → Int32 → Int32 → Int32 → Int32 → Int32 → Int32 → Int32 → zH → Option (Int32 × zH)) (x0 : Nat) (x1 : Nat) (x2 : Int32) (x3 : Int32) (x4 : Int32) (x5 : Int32) (x6 : Int32) (x7 : Int32) (x9 : Int32) (x10 : Int32) (s0 : Int32) (h : zH) : Option (Int32 × zH) :=
  Option.bind (zgI h x0 7 1) fun (v1 : Int32) =>
  (if v1 ≤ s0 then
    f_Lorry_laneFact_80 N rc24 x0 x1 x2 x3 x4 x5 x6 x7 s0 x10 x9 (0 : Int32) h
  else
    f_Lorry_laneFact_80 N rc24 x0 x1 x2 x3 x4 x5 x6 x7 s0 x10 x9 (1 : Int32) h)
def b_Lorry_laneFact_24 (N : Nat) (rc24 : Nat → Nat → Int32 → Int32 → Int32 → Int32 → Int32 → Int32 → Int32 → Int32 → Int32 → zH → Option (Int32 × zH)) (x0 : Nat) (x1 : Nat) (x2 : Int32) (x3 : Int32) (x4 : Int32) (x5 : Int32) (x6 : Int32) (x7 : Int32) (x8 : Int32) (x9 : Int32) (x10 : Int32) (h : zH) : Option (Int32 × zH) :=
  Option.bind (zgR h x1 5 2) fun (v2 : Nat) =>
  Option.bind (zlen h 0 v2) fun (v3 : Int32) =>
  (if v3 ≤ x10 then
    (if x3 = 0 then
      some (x5, h)
    else
      (if x3 = (1 : Int32) then
        some (x6, h)
      else
        some (x7, h)))
  else
    (if x10 = 0 then
      Option.bind (zgI h x0 7 0) fun (v6 : Int32) =>
      f_Lorry_laneFact_60 N rc24 x0 x1 x2 x3 x4 x5 x6 x7 x9 x10 v6 h
    else
      Option.bind (zck (zis h x1 5) (f_Table_slopeOf N x1 (x10 - (1 : Int32)) h)) fun (p4 : Int32 × zH) =>
      Option.bind (zck (zis p4.2 x0 7) (f_Lorry_speedBehind N x0 x8 p4.1 p4.2)) fun (p5 : Int32 × zH) =>
      f_Lorry_laneFact_60 N rc24 x0 x1 x2 x3 x4 x5 x6 x7 x9 x10 p5.1 p5.2))
def f_Lorry_laneFact_24 (N : Nat) : Nat → Nat → Nat → Int32 → Int32 → Int32 → Int32 → Int32 → Int32 → Int32 → Int32 → Int32 → zH → Option (Int32 × zH)
  | 0 => fun _ _ _ _ _ _ _ _ _ _ _ _ => none
  | n + 1 => fun x0 x1 x2 x3 x4 x5 x6 x7 x8 x9 x10 h => b_Lorry_laneFact_24 N (f_Lorry_laneFact_24 N n) x0 x1 x2 x3 x4 x5 x6 x7 x8 x9 x10 h
def f_Lorry_laneFact (N : Nat) (x0 : Nat) (x1 : Nat) (x2 : Int32) (x3 : Int32) (h : zH) : Option (Int32 × zH) :=
  Option.bind (zgI h x0 7 0) fun (v7 : Int32) =>
  f_Lorry_laneFact_24 N N x0 x1 x2 x3 (-1 : Int32) (-1 : Int32) (-1 : Int32) (-1 : Int32) v7 (0 : Int32) (0 : Int32) h
theorem d_Lorry_laneFact_0 : decode prog_3_method_3_code 0 = .ok (.iconst (-1), 1) := by decide +kernel
theorem d_Lorry_laneFact_1 : decode prog_3_method_3_code 1 = .ok (.istore (4), 2) := by decide +kernel
theorem d_Lorry_laneFact_3 : decode prog_3_method_3_code 3 = .ok (.iconst (-1), 1) := by decide +kernel
theorem d_Lorry_laneFact_4 : decode prog_3_method_3_code 4 = .ok (.istore (5), 2) := by decide +kernel
theorem d_Lorry_laneFact_6 : decode prog_3_method_3_code 6 = .ok (.iconst (-1), 1) := by decide +kernel
theorem d_Lorry_laneFact_7 : decode prog_3_method_3_code 7 = .ok (.istore (6), 2) := by decide +kernel
theorem d_Lorry_laneFact_9 : decode prog_3_method_3_code 9 = .ok (.iconst (-1), 1) := by decide +kernel
theorem d_Lorry_laneFact_10 : decode prog_3_method_3_code 10 = .ok (.istore (7), 2) := by decide +kernel
theorem d_Lorry_laneFact_12 : decode prog_3_method_3_code 12 = .ok (.aload_n (0), 1) := by decide +kernel
theorem d_Lorry_laneFact_13 : decode prog_3_method_3_code 13 = .ok (.getfield (9), 3) := by decide +kernel
theorem d_Lorry_laneFact_16 : decode prog_3_method_3_code 16 = .ok (.istore (8), 2) := by decide +kernel
theorem d_Lorry_laneFact_18 : decode prog_3_method_3_code 18 = .ok (.iconst (0), 1) := by decide +kernel
theorem d_Lorry_laneFact_19 : decode prog_3_method_3_code 19 = .ok (.istore (9), 2) := by decide +kernel
theorem d_Lorry_laneFact_21 : decode prog_3_method_3_code 21 = .ok (.iconst (0), 1) := by decide +kernel
theorem d_Lorry_laneFact_22 : decode prog_3_method_3_code 22 = .ok (.istore (10), 2) := by decide +kernel
theorem d_Lorry_laneFact_24 : decode prog_3_method_3_code 24 = .ok (.iload (10), 2) := by decide +kernel
theorem d_Lorry_laneFact_26 : decode prog_3_method_3_code 26 = .ok (.aload_n (1), 1) := by decide +kernel
theorem d_Lorry_laneFact_27 : decode prog_3_method_3_code 27 = .ok (.getfield (33), 3) := by decide +kernel
theorem d_Lorry_laneFact_30 : decode prog_3_method_3_code 30 = .ok (.arraylength, 1) := by decide +kernel
theorem d_Lorry_laneFact_31 : decode prog_3_method_3_code 31 = .ok (.if_icmp .ge (118), 3) := by decide +kernel
theorem d_Lorry_laneFact_34 : decode prog_3_method_3_code 34 = .ok (.iload (10), 2) := by decide +kernel
theorem d_Lorry_laneFact_36 : decode prog_3_method_3_code 36 = .ok (.ifCond .ne (10), 3) := by decide +kernel
theorem d_Lorry_laneFact_39 : decode prog_3_method_3_code 39 = .ok (.aload_n (0), 1) := by decide +kernel
theorem d_Lorry_laneFact_40 : decode prog_3_method_3_code 40 = .ok (.getfield (9), 3) := by decide +kernel
theorem d_Lorry_laneFact_43 : decode prog_3_method_3_code 43 = .ok (.goto (17), 3) := by decide +kernel
theorem d_Lorry_laneFact_46 : decode prog_3_method_3_code 46 = .ok (.aload_n (0), 1) := by decide +kernel
theorem d_Lorry_laneFact_47 : decode prog_3_method_3_code 47 = .ok (.iload (8), 2) := by decide +kernel
theorem d_Lorry_laneFact_49 : decode prog_3_method_3_code 49 = .ok (.aload_n (1), 1) := by decide +kernel
theorem d_Lorry_laneFact_50 : decode prog_3_method_3_code 50 = .ok (.iload (10), 2) := by decide +kernel
theorem d_Lorry_laneFact_52 : decode prog_3_method_3_code 52 = .ok (.iconst (1), 1) := by decide +kernel
theorem d_Lorry_laneFact_53 : decode prog_3_method_3_code 53 = .ok (.isub, 1) := by decide +kernel
theorem d_Lorry_laneFact_54 : decode prog_3_method_3_code 54 = .ok (.invokevirtual (39), 3) := by decide +kernel
theorem d_Lorry_laneFact_57 : decode prog_3_method_3_code 57 = .ok (.invokevirtual (43), 3) := by decide +kernel
theorem d_Lorry_laneFact_60 : decode prog_3_method_3_code 60 = .ok (.istore (8), 2) := by decide +kernel
theorem d_Lorry_laneFact_62 : decode prog_3_method_3_code 62 = .ok (.iload (9), 2) := by decide +kernel
theorem d_Lorry_laneFact_64 : decode prog_3_method_3_code 64 = .ok (.istore (11), 2) := by decide +kernel
theorem d_Lorry_laneFact_66 : decode prog_3_method_3_code 66 = .ok (.iload (8), 2) := by decide +kernel
theorem d_Lorry_laneFact_68 : decode prog_3_method_3_code 68 = .ok (.aload_n (0), 1) := by decide +kernel
theorem d_Lorry_laneFact_69 : decode prog_3_method_3_code 69 = .ok (.getfield (15), 3) := by decide +kernel
theorem d_Lorry_laneFact_72 : decode prog_3_method_3_code 72 = .ok (.if_icmp .ge (7), 3) := by decide +kernel
theorem d_Lorry_laneFact_75 : decode prog_3_method_3_code 75 = .ok (.iconst (1), 1) := by decide +kernel
theorem d_Lorry_laneFact_76 : decode prog_3_method_3_code 76 = .ok (.goto (4), 3) := by decide +kernel
theorem d_Lorry_laneFact_79 : decode prog_3_method_3_code 79 = .ok (.iconst (0), 1) := by decide +kernel
theorem d_Lorry_laneFact_80 : decode prog_3_method_3_code 80 = .ok (.istore (9), 2) := by decide +kernel
theorem d_Lorry_laneFact_82 : decode prog_3_method_3_code 82 = .ok (.iload (9), 2) := by decide +kernel
theorem d_Lorry_laneFact_84 : decode prog_3_method_3_code 84 = .ok (.ifCond .eq (11), 3) := by decide +kernel
theorem d_Lorry_laneFact_87 : decode prog_3_method_3_code 87 = .ok (.iload (11), 2) := by decide +kernel
theorem d_Lorry_laneFact_89 : decode prog_3_method_3_code 89 = .ok (.ifCond .ne (6), 3) := by decide +kernel
theorem d_Lorry_laneFact_92 : decode prog_3_method_3_code 92 = .ok (.iinc (4) (1), 3) := by decide +kernel
theorem d_Lorry_laneFact_95 : decode prog_3_method_3_code 95 = .ok (.iload (9), 2) := by decide +kernel
theorem d_Lorry_laneFact_97 : decode prog_3_method_3_code 97 = .ok (.ifCond .eq (46), 3) := by decide +kernel
theorem d_Lorry_laneFact_100 : decode prog_3_method_3_code 100 = .ok (.iload (4), 2) := by decide +kernel
theorem d_Lorry_laneFact_102 : decode prog_3_method_3_code 102 = .ok (.iload_n (2), 1) := by decide +kernel
theorem d_Lorry_laneFact_103 : decode prog_3_method_3_code 103 = .ok (.if_icmp .ne (40), 3) := by decide +kernel
theorem d_Lorry_laneFact_106 : decode prog_3_method_3_code 106 = .ok (.iload (11), 2) := by decide +kernel
theorem d_Lorry_laneFact_108 : decode prog_3_method_3_code 108 = .ok (.ifCond .eq (8), 3) := by decide +kernel
theorem d_Lorry_laneFact_111 : decode prog_3_method_3_code 111 = .ok (.iload (5), 2) := by decide +kernel
theorem d_Lorry_laneFact_113 : decode prog_3_method_3_code 113 = .ok (.goto (5), 3) := by decide +kernel
theorem d_Lorry_laneFact_116 : decode prog_3_method_3_code 116 = .ok (.iload (10), 2) := by decide +kernel
theorem d_Lorry_laneFact_118 : decode prog_3_method_3_code 118 = .ok (.istore (5), 2) := by decide +kernel
theorem d_Lorry_laneFact_120 : decode prog_3_method_3_code 120 = .ok (.iload (10), 2) := by decide +kernel
theorem d_Lorry_laneFact_122 : decode prog_3_method_3_code 122 = .ok (.istore (6), 2) := by decide +kernel
theorem d_Lorry_laneFact_124 : decode prog_3_method_3_code 124 = .ok (.iload (11), 2) := by decide +kernel
theorem d_Lorry_laneFact_126 : decode prog_3_method_3_code 126 = .ok (.ifCond .eq (13), 3) := by decide +kernel
theorem d_Lorry_laneFact_129 : decode prog_3_method_3_code 129 = .ok (.iload (7), 2) := by decide +kernel
theorem d_Lorry_laneFact_131 : decode prog_3_method_3_code 131 = .ok (.iload (8), 2) := by decide +kernel
theorem d_Lorry_laneFact_133 : decode prog_3_method_3_code 133 = .ok (.invokestatic (30), 3) := by decide +kernel
theorem d_Lorry_laneFact_136 : decode prog_3_method_3_code 136 = .ok (.goto (5), 3) := by decide +kernel
theorem d_Lorry_laneFact_139 : decode prog_3_method_3_code 139 = .ok (.iload (8), 2) := by decide +kernel
theorem d_Lorry_laneFact_141 : decode prog_3_method_3_code 141 = .ok (.istore (7), 2) := by decide +kernel
theorem d_Lorry_laneFact_143 : decode prog_3_method_3_code 143 = .ok (.iinc (10) (1), 3) := by decide +kernel
theorem d_Lorry_laneFact_146 : decode prog_3_method_3_code 146 = .ok (.goto (-122), 3) := by decide +kernel
theorem d_Lorry_laneFact_149 : decode prog_3_method_3_code 149 = .ok (.iload_n (3), 1) := by decide +kernel
theorem d_Lorry_laneFact_150 : decode prog_3_method_3_code 150 = .ok (.ifCond .ne (6), 3) := by decide +kernel
theorem d_Lorry_laneFact_153 : decode prog_3_method_3_code 153 = .ok (.iload (5), 2) := by decide +kernel
theorem d_Lorry_laneFact_155 : decode prog_3_method_3_code 155 = .ok (.ireturn, 1) := by decide +kernel
theorem d_Lorry_laneFact_156 : decode prog_3_method_3_code 156 = .ok (.iload_n (3), 1) := by decide +kernel
theorem d_Lorry_laneFact_157 : decode prog_3_method_3_code 157 = .ok (.iconst (1), 1) := by decide +kernel
theorem d_Lorry_laneFact_158 : decode prog_3_method_3_code 158 = .ok (.if_icmp .ne (8), 3) := by decide +kernel
theorem d_Lorry_laneFact_161 : decode prog_3_method_3_code 161 = .ok (.iload (6), 2) := by decide +kernel
theorem d_Lorry_laneFact_163 : decode prog_3_method_3_code 163 = .ok (.goto (5), 3) := by decide +kernel
theorem d_Lorry_laneFact_166 : decode prog_3_method_3_code 166 = .ok (.iload (7), 2) := by decide +kernel
theorem d_Lorry_laneFact_168 : decode prog_3_method_3_code 168 = .ok (.ireturn, 1) := by decide +kernel
set_option maxHeartbeats 4000000 in
set_option maxRecDepth 100000 in
theorem k_Lorry_laneFact_143 (N : Nat) {X : zX} (C : zB X prog_3_method_3_code 12 R_Lorry rm_Lorry_laneFact) {h0 : zH} {p : Int32 × zH} (E : zR X (some .int) rm_Lorry_laneFact h0 (some (.int p.1)) p.2) {rc24 : Nat → Nat → Int32 → Int32 → Int32 → Int32 → Int32 → Int32 → Int32 → Int32 → Int32 → zH → Option (Int32 × zH)} (H24 : ∀ (x0 : Nat) (x1 : Nat) (x2 : Int32) (x3 : Int32) (x4 : Int32) (x5 : Int32) (x6 : Int32) (x7 : Int32) (x8 : Int32) (x9 : Int32) (x10 : Int32) (h : zH), rc24 x0 x1 x2 x3 x4 x5 x6 x7 x8 x9 x10 h = some p → Zt X 12 0 0 24 [(0, .ref x0), (1, .ref x1), (2, .int x2), (3, .int x3), (4, .int x4), (5, .int x5), (6, .int x6), (7, .int x7), (8, .int x8), (9, .int x9), (10, .int x10)] [] h) : ∀ (x0 : Nat) (x1 : Nat) (x2 : Int32) (x3 : Int32) (x4 : Int32) (x5 : Int32) (x6 : Int32) (x7 : Int32) (x8 : Int32) (x9 : Int32) (x10 : Int32) (h : zH), f_Lorry_laneFact_143 N rc24 x0 x1 x2 x3 x4 x5 x6 x7 x8 x9 x10 h = some p → Zt X 12 0 0 143 [(0, .ref x0), (1, .ref x1), (2, .int x2), (3, .int x3), (4, .int x4), (5, .int x5), (6, .int x6), (7, .int x7), (8, .int x8), (9, .int x9), (10, .int x10)] [] h := by
  intro x0 x1 x2 x3 x4 x5 x6 x7 x8 x9 x10 h hf
  unfold f_Lorry_laneFact_143 at hf
  refine z_iinc C (v := (x10 + (1 : Int32))) (lv' := [(10, .int (x10 + (1 : Int32))), (0, .ref x0), (1, .ref x1), (2, .int x2), (3, .int x3), (4, .int x4), (5, .int x5), (6, .int x6), (7, .int x7), (8, .int x8), (9, .int x9)]) 10 d_Lorry_laneFact_143 rfl (by rfl) (by decide) rfl ?_
  refine z_goto (tgt := 24) C d_Lorry_laneFact_146 (by decide) ?_
  refine z_sub [1, 2, 3, 4, 5, 6, 7, 8, 9, 10, 0] rfl ?_
  exact H24 _ _ _ _ _ _ _ _ _ _ _ _ hf

set_option maxHeartbeats 4000000 in
set_option maxRecDepth 100000 in
theorem k_Lorry_laneFact_141 (N : Nat) {X : zX} (C : zB X prog_3_method_3_code 12 R_Lorry rm_Lorry_laneFact) {h0 : zH} {p : Int32 × zH} (E : zR X (some .int) rm_Lorry_laneFact h0 (some (.int p.1)) p.2) {rc24 : Nat → Nat → Int32 → Int32 → Int32 → Int32 → Int32 → Int32 → Int32 → Int32 → Int32 → zH → Option (Int32 × zH)} (H24 : ∀ (x0 : Nat) (x1 : Nat) (x2 : Int32) (x3 : Int32) (x4 : Int32) (x5 : Int32) (x6 : Int32) (x7 : Int32) (x8 : Int32) (x9 : Int32) (x10 : Int32) (h : zH), rc24 x0 x1 x2 x3 x4 x5 x6 x7 x8 x9 x10 h = some p → Zt X 12 0 0 24 [(0, .ref x0), (1, .ref x1), (2, .int x2), (3, .int x3), (4, .int x4), (5, .int x5), (6, .int x6), (7, .int x7), (8, .int x8), (9, .int x9), (10, .int x10)] [] h) : ∀ (x0 : Nat) (x1 : Nat) (x2 : Int32) (x3 : Int32) (x4 : Int32) (x5 : Int32) (x6 : Int32) (x8 : Int32) (x9 : Int32) (x10 : Int32) (s0 : Int32) (h : zH), f_Lorry_laneFact_141 N rc24 x0 x1 x2 x3 x4 x5 x6 x8 x9 x10 s0 h = some p → Zt X 12 0 0 141 [(0, .ref x0), (1, .ref x1), (2, .int x2), (3, .int x3), (4, .int x4), (5, .int x5), (6, .int x6), (8, .int x8), (9, .int x9), (10, .int x10)] [.int s0] h := by
  intro x0 x1 x2 x3 x4 x5 x6 x8 x9 x10 s0 h hf
  unfold f_Lorry_laneFact_141 at hf
  refine z_istore C (lv' := [(7, .int s0), (0, .ref x0), (1, .ref x1), (2, .int x2), (3, .int x3), (4, .int x4), (5, .int x5), (6, .int x6), (8, .int x8), (9, .int x9), (10, .int x10)]) d_Lorry_laneFact_141 (by decide) rfl ?_
  refine z_sub [1, 2, 3, 4, 5, 6, 7, 0, 8, 9, 10] rfl ?_
  exact k_Lorry_laneFact_143 N C E H24 _ _ _ _ _ _ _ _ _ _ _ _ hf

set_option maxHeartbeats 4000000 in
set_option maxRecDepth 100000 in
theorem k_Lorry_laneFact_118 (N : Nat) {X : zX} (C : zB X prog_3_method_3_code 12 R_Lorry rm_Lorry_laneFact) {h0 : zH} {p : Int32 × zH} (E : zR X (some .int) rm_Lorry_laneFact h0 (some (.int p.1)) p.2) {rc24 : Nat → Nat → Int32 → Int32 → Int32 → Int32 → Int32 → Int32 → Int32 → Int32 → Int32 → zH → Option (Int32 × zH)} (H24 : ∀ (x0 : Nat) (x1 : Nat) (x2 : Int32) (x3 : Int32) (x4 : Int32) (x5 : Int32) (x6 : Int32) (x7 : Int32) (x8 : Int32) (x9 : Int32) (x10 : Int32) (h : zH), rc24 x0 x1 x2 x3 x4 x5 x6 x7 x8 x9 x10 h = some p → Zt X 12 0 0 24 [(0, .ref x0), (1, .ref x1), (2, .int x2), (3, .int x3), (4, .int x4), (5, .int x5), (6, .int x6), (7, .int x7), (8, .int x8), (9, .int x9), (10, .int x10)] [] h) : ∀ (x0 : Nat) (x1 : Nat) (x2 : Int32) (x3 : Int32) (x4 : Int32) (x7 : Int32) (x8 : Int32) (x9 : Int32) (x10 : Int32) (x11 : Int32) (s0 : Int32) (h : zH), f_Lorry_laneFact_118 N rc24 x0 x1 x2 x3 x4 x7 x8 x9 x10 x11 s0 h = some p → Zt X 12 0 0 118 [(0, .ref x0), (1, .ref x1), (2, .int x2), (3, .int x3), (4, .int x4), (7, .int x7), (8, .int x8), (9, .int x9), (10, .int x10), (11, .int x11)] [.int s0] h := by
  intro x0 x1 x2 x3 x4 x7 x8 x9 x10 x11 s0 h hf
  unfold f_Lorry_laneFact_118 at hf
  refine z_istore C (lv' := [(5, .int s0), (0, .ref x0), (1, .ref x1), (2, .int x2), (3, .int x3), (4, .int x4), (7, .int x7), (8, .int x8), (9, .int x9), (10, .int x10), (11, .int x11)]) d_Lorry_laneFact_118 (by decide) rfl ?_
  refine z_iload C 9 d_Lorry_laneFact_120 rfl ?_
  refine z_istore C (lv' := [(6, .int x10), (5, .int s0), (0, .ref x0), (1, .ref x1), (2, .int x2), (3, .int x3), (4, .int x4), (7, .int x7), (8, .int x8), (9, .int x9), (10, .int x10), (11, .int x11)]) d_Lorry_laneFact_122 (by decide) rfl ?_
  refine z_iload C 11 d_Lorry_laneFact_124 rfl ?_
  refine z_if_eq (tgt := 139) C d_Lorry_laneFact_126 (by decide) hf (fun hf => ?_) (fun hf => ?_)
  · refine z_iload C 8 d_Lorry_laneFact_139 rfl ?_
    refine z_sub [2, 3, 4, 5, 6, 1, 0, 8, 9, 10] rfl ?_
    exact k_Lorry_laneFact_141 N C E H24 _ _ _ _ _ _ _ _ _ _ _ _ hf
  · refine z_iload C 7 d_Lorry_laneFact_129 rfl ?_
    refine z_iload C 8 d_Lorry_laneFact_131 rfl ?_
    refine z_mmin C w_658 w_79 w_58 w_80 (Nat.le_of_ble_eq_true rfl) (Nat.le_of_ble_eq_true rfl) (Nat.le_of_ble_eq_true rfl) (Nat.le_of_ble_eq_true rfl) d_Lorry_laneFact_133 ?_
    refine z_goto (tgt := 141) C d_Lorry_laneFact_136 (by decide) ?_
    refine z_sub [2, 3, 4, 5, 6, 1, 0, 8, 9, 10] rfl ?_
    exact k_Lorry_laneFact_141 N C E H24 _ _ _ _ _ _ _ _ _ _ _ _ hf

set_option maxHeartbeats 4000000 in
set_option maxRecDepth 100000 in
theorem k_Lorry_laneFact_95 (N : Nat) {X : zX} (C : zB X prog_3_method_3_code 12 R_Lorry rm_Lorry_laneFact) {h0 : zH} {p : Int32 × zH} (E : zR X (some .int) rm_Lorry_laneFact h0 (some (.int p.1)) p.2) {rc24 : Nat → Nat → Int32 → Int32 → Int32 → Int32 → Int32 → Int32 → Int32 → Int32 → Int32 → zH → Option (Int32 × zH)} (H24 : ∀ (x0 : Nat) (x1 : Nat) (x2 : Int32) (x3 : Int32) (x4 : Int32) (x5 : Int32) (x6 : Int32) (x7 : Int32) (x8 : Int32) (x9 : Int32) (x10 : Int32) (h : zH), rc24 x0 x1 x2 x3 x4 x5 x6 x7 x8 x9 x10 h = some p → Zt X 12 0 0 24 [(0, .ref x0), (1, .ref x1), (2, .int x2), (3, .int x3), (4, .int x4), (5, .int x5), (6, .int x6), (7, .int x7), (8, .int x8), (9, .int x9), (10, .int x10)] [] h) : ∀ (x0 : Nat) (x1 : Nat) (x2 : Int32) (x3 : Int32) (x4 : Int32) (x5 : Int32) (x6 : Int32) (x7 : Int32) (x8 : Int32) (x9 : Int32) (x10 : Int32) (x11 : Int32) (h : zH), f_Lorry_laneFact_95 N rc24 x0 x1 x2 x3 x4 x5 x6 x7 x8 x9 x10 x11 h = some p → Zt X 12 0 0 95 [(0, .ref x0), (1, .ref x1), (2, .int x2), (3, .int x3), (4, .int x4), (5, .int x5), (6, .int x6), (7, .int x7), (8, .int x8), (9, .int x9), (10, .int x10), (11, .int x11)] [] h := by
  intro x0 x1 x2 x3 x4 x5 x6 x7 x8 x9 x10 x11 h hf
  unfold f_Lorry_laneFact_95 at hf
  refine z_iload C 9 d_Lorry_laneFact_95 rfl ?_
  refine z_if_eq (tgt := 143) C d_Lorry_laneFact_97 (by decide) hf (fun hf => ?_) (fun hf => ?_)
  · refine z_sub [0, 1, 2, 3, 4, 5, 6, 7, 8, 9, 10] rfl ?_
    exact k_Lorry_laneFact_143 N C E H24 _ _ _ _ _ _ _ _ _ _ _ _ hf
  · refine z_iload C 4 d_Lorry_laneFact_100 rfl ?_
    refine z_iload_n C 2 d_Lorry_laneFact_102 rfl rfl ?_
    refine z_ic_ne (tgt := 143) C d_Lorry_laneFact_103 (by decide) hf (fun hf => ?_) (fun hf => ?_)
    · refine z_sub [0, 1, 2, 3, 4, 5, 6, 7, 8, 9, 10] rfl ?_
      exact k_Lorry_laneFact_143 N C E H24 _ _ _ _ _ _ _ _ _ _ _ _ hf
    · refine z_iload C 11 d_Lorry_laneFact_106 rfl ?_
      refine z_if_eq (tgt := 116) C d_Lorry_laneFact_108 (by decide) hf (fun hf => ?_) (fun hf => ?_)
      · refine z_iload C 10 d_Lorry_laneFact_116 rfl ?_
        refine z_sub [0, 1, 2, 3, 4, 7, 8, 9, 10, 11] rfl ?_
        exact k_Lorry_laneFact_118 N C E H24 _ _ _ _ _ _ _ _ _ _ _ _ hf
      · refine z_iload C 5 d_Lorry_laneFact_111 rfl ?_
        refine z_goto (tgt := 118) C d_Lorry_laneFact_113 (by decide) ?_
        refine z_sub [0, 1, 2, 3, 4, 7, 8, 9, 10, 11] rfl ?_
        exact k_Lorry_laneFact_118 N C E H24 _ _ _ _ _ _ _ _ _ _ _ _ hf

set_option maxHeartbeats 4000000 in
set_option maxRecDepth 100000 in
theorem k_Lorry_laneFact_80 (N : Nat) {X : zX} (C : zB X prog_3_method_3_code 12 R_Lorry rm_Lorry_laneFact) {h0 : zH} {p : Int32 × zH} (E : zR X (some .int) rm_Lorry_laneFact h0 (some (.int p.1)) p.2) {rc24 : Nat → Nat → Int32 → Int32 → Int32 → Int32 → Int32 → Int32 → Int32 → Int32 → Int32 → zH → Option (Int32 × zH)} (H24 : ∀ (x0 : Nat) (x1 : Nat) (x2 : Int32) (x3 : Int32) (x4 : Int32) (x5 : Int32) (x6 : Int32) (x7 : Int32) (x8 : Int32) (x9 : Int32) (x10 : Int32) (h : zH), rc24 x0 x1 x2 x3 x4 x5 x6 x7 x8 x9 x10 h = some p → Zt X 12 0 0 24 [(0, .ref x0), (1, .ref x1), (2, .int x2), (3, .int x3), (4, .int x4), (5, .int x5), (6, .int x6), (7, .int x7), (8, .int x8), (9, .int x9), (10, .int x10)] [] h) : ∀ (x0 : Nat) (x1 : Nat) (x2 : Int32) (x3 : Int32) (x4 : Int32) (x5 : Int32) (x6 : Int32) (x7 : Int32) (x8 : Int32) (x10 : Int32) (x11 : Int32) (s0 : Int32) (h : zH), f_Lorry_laneFact_80 N rc24 x0 x1 x2 x3 x4 x5 x6 x7 x8 x10 x11 s0 h = some p → Zt X 12 0 0 80 [(0, .ref x0), (1, .ref x1), (2, .int x2), (3, .int x3), (4, .int x4), (5, .int x5), (6, .int x6), (7, .int x7), (8, .int x8), (10, .int x10), (11, .int x11)] [.int s0] h := by
  intro x0 x1 x2 x3 x4 x5 x6 x7 x8 x10 x11 s0 h hf
  unfold f_Lorry_laneFact_80 at hf
  refine z_istore C (lv' := [(9, .int s0), (0, .ref x0), (1, .ref x1), (2, .int x2), (3, .int x3), (4, .int x4), (5, .int x5), (6, .int x6), (7, .int x7), (8, .int x8), (10, .int x10), (11, .int x11)]) d_Lorry_laneFact_80 (by decide) rfl ?_
  refine z_iload C 0 d_Lorry_laneFact_82 rfl ?_
  refine z_if_eq (tgt := 95) C d_Lorry_laneFact_84 (by decide) hf (fun hf => ?_) (fun hf => ?_)
  · refine z_sub [1, 2, 3, 4, 5, 6, 7, 8, 9, 0, 10, 11] rfl ?_
    exact k_Lorry_laneFact_95 N C E H24 _ _ _ _ _ _ _ _ _ _ _ _ _ hf
  · refine z_iload C 11 d_Lorry_laneFact_87 rfl ?_
    refine z_if_ne (tgt := 95) C d_Lorry_laneFact_89 (by decide) hf (fun hf => ?_) (fun hf => ?_)
    · refine z_sub [1, 2, 3, 4, 5, 6, 7, 8, 9, 0, 10, 11] rfl ?_
      exact k_Lorry_laneFact_95 N C E H24 _ _ _ _ _ _ _ _ _ _ _ _ _ hf
    · refine z_iinc C (v := (x4 + (1 : Int32))) (lv' := [(4, .int (x4 + (1 : Int32))), (9, .int s0), (0, .ref x0), (1, .ref x1), (2, .int x2), (3, .int x3), (5, .int x5), (6, .int x6), (7, .int x7), (8, .int x8), (10, .int x10), (11, .int x11)]) 5 d_Lorry_laneFact_92 rfl (by rfl) (by decide) rfl ?_
      refine z_sub [2, 3, 4, 5, 0, 6, 7, 8, 9, 1, 10, 11] rfl ?_
      exact k_Lorry_laneFact_95 N C E H24 _ _ _ _ _ _ _ _ _ _ _ _ _ hf

set_option maxHeartbeats 4000000 in
set_option maxRecDepth 100000 in
theorem k_Lorry_laneFact_60 (N : Nat) {X : zX} (C : zB X prog_3_method_3_code 12 R_Lorry rm_Lorry_laneFact) {h0 : zH} {p : Int32 × zH} (E : zR X (some .int) rm_Lorry_laneFact h0 (some (.int p.1)) p.2) {rc24 : Nat → Nat → Int32 → Int32 → Int32 → Int32 → Int32 → Int32 → Int32 → Int32 → Int32 → zH → Option (Int32 × zH)} (H24 : ∀ (x0 : Nat) (x1 : Nat) (x2 : Int32) (x3 : Int32) (x4 : Int32) (x5 : Int32) (x6 : Int32) (x7 : Int32) (x8 : Int32) (x9 : Int32) (x10 : Int32) (h : zH), rc24 x0 x1 x2 x3 x4 x5 x6 x7 x8 x9 x10 h = some p → Zt X 12 0 0 24 [(0, .ref x0), (1, .ref x1), (2, .int x2), (3, .int x3), (4, .int x4), (5, .int x5), (6, .int x6), (7, .int x7), (8, .int x8), (9, .int x9), (10, .int x10)] [] h) : ∀ (x0 : Nat) (x1 : Nat) (x2 : Int32) (x3 : Int32) (x4 : Int32) (x5 : Int32) (x6 : Int32) (x7 : Int32) (x9 : Int32) (x10 : Int32) (s0 : Int32) (h : zH), f_Lorry_laneFact_60 N rc24 x0 x1 x2 x3 x4 x5 x6 x7 x9 x10 s0 h = some p → Zt X 12 0 0 60 [(0, .ref x0), (1, .ref x1), (2, .int x2), (3, .int x3), (4, .int x4), (5, .int x5), (6, .int x6), (7, .int x7), (9, .int x9), (10, .int x10)] [.int s0] h := by
  intro x0 x1 x2 x3 x4 x5 x6 x7 x9 x10 s0 h hf
  unfold f_Lorry_laneFact_60 at hf
  refine z_istore C (lv' := [(8, .int s0), (0, .ref x0), (1, .ref x1), (2, .int x2), (3, .int x3), (4, .int x4), (5, .int x5), (6, .int x6), (7, .int x7), (9, .int x9), (10, .int x10)]) d_Lorry_laneFact_60 (by decide) rfl ?_
  refine z_iload C 9 d_Lorry_laneFact_62 rfl ?_
  refine z_istore C (lv' := [(11, .int x9), (8, .int s0), (0, .ref x0), (1, .ref x1), (2, .int x2), (3, .int x3), (4, .int x4), (5, .int x5), (6, .int x6), (7, .int x7), (9, .int x9), (10, .int x10)]) d_Lorry_laneFact_64 (by decide) rfl ?_
  refine z_iload C 1 d_Lorry_laneFact_66 rfl ?_
  refine z_aload_n C 2 d_Lorry_laneFact_68 rfl rfl ?_
  refine z_getI C 7 1 rfl in_Lorry (by decide) w_251 rfl d_Lorry_laneFact_69 hf (fun v1 hf => ?_)
  refine z_ic_ge (tgt := 79) C d_Lorry_laneFact_72 (by decide) hf (fun hf => ?_) (fun hf => ?_)
  · refine z_iconst C (v := (0 : Int32)) d_Lorry_laneFact_79 (by decide) ?_
    refine z_sub [2, 3, 4, 5, 6, 7, 8, 9, 1, 11, 0] rfl ?_
    exact k_Lorry_laneFact_80 N C E H24 _ _ _ _ _ _ _ _ _ _ _ _ _ hf
  · refine z_iconst C (v := (1 : Int32)) d_Lorry_laneFact_75 (by decide) ?_
    refine z_goto (tgt := 80) C d_Lorry_laneFact_76 (by decide) ?_
    refine z_sub [2, 3, 4, 5, 6, 7, 8, 9, 1, 11, 0] rfl ?_
    exact k_Lorry_laneFact_80 N C E H24 _ _ _ _ _ _ _ _ _ _ _ _ _ hf

set_option maxHeartbeats 4000000 in
set_option maxRecDepth 100000 in
theorem k_Lorry_laneFact_24 (N : Nat) {X : zX} (C : zB X prog_3_method_3_code 12 R_Lorry rm_Lorry_laneFact) {h0 : zH} {p : Int32 × zH} (E : zR X (some .int) rm_Lorry_laneFact h0 (some (.int p.1)) p.2) : ∀ n : Nat, ∀ (x0 : Nat) (x1 : Nat) (x2 : Int32) (x3 : Int32) (x4 : Int32) (x5 : Int32) (x6 : Int32) (x7 : Int32) (x8 : Int32) (x9 : Int32) (x10 : Int32) (h : zH), f_Lorry_laneFact_24 N n x0 x1 x2 x3 x4 x5 x6 x7 x8 x9 x10 h = some p → Zt X 12 0 0 24 [(0, .ref x0), (1, .ref x1), (2, .int x2), (3, .int x3), (4, .int x4), (5, .int x5), (6, .int x6), (7, .int x7), (8, .int x8), (9, .int x9), (10, .int x10)] [] h := by
  intro n
  induction n with
  | zero => intro x0 x1 x2 x3 x4 x5 x6 x7 x8 x9 x10 h hf; cases hf
  | succ n ih =>
  intro x0 x1 x2 x3 x4 x5 x6 x7 x8 x9 x10 h hf
  have H24 := ih
  replace hf : b_Lorry_laneFact_24 N (f_Lorry_laneFact_24 N n) x0 x1 x2 x3 x4 x5 x6 x7 x8 x9 x10 h = some p := hf
  unfold b_Lorry_laneFact_24 at hf
  refine z_iload C 10 d_Lorry_laneFact_24 rfl ?_
  refine z_aload_n C 1 d_Lorry_laneFact_26 rfl rfl ?_
  refine z_getR C 5 2 rfl in_Table (by decide) w_198 rfl d_Lorry_laneFact_27 hf (fun v2 hf => ?_)
  refine z_alen C 0 d_Lorry_laneFact_30 hf (fun v3 hf => ?_)
  refine z_ic_ge (tgt := 149) C d_Lorry_laneFact_31 (by decide) hf (fun hf => ?_) (fun hf => ?_)
  · refine z_iload_n C 3 d_Lorry_laneFact_149 rfl rfl ?_
    refine z_if_ne (tgt := 156) C d_Lorry_laneFact_150 (by decide) hf (fun hf => ?_) (fun hf => ?_)
    · refine z_iload_n C 3 d_Lorry_laneFact_156 rfl rfl ?_
      refine z_iconst C (v := (1 : Int32)) d_Lorry_laneFact_157 (by decide) ?_
      refine z_ic_ne (tgt := 166) C d_Lorry_laneFact_158 (by decide) hf (fun hf => ?_) (fun hf => ?_)
      · refine z_iload C 7 d_Lorry_laneFact_166 rfl ?_
        exact z_iret C E (Nat.le_of_ble_eq_true rfl) (Nat.le_of_ble_eq_true rfl) d_Lorry_laneFact_168 hf
      · refine z_iload C 6 d_Lorry_laneFact_161 rfl ?_
        refine z_goto (tgt := 168) C d_Lorry_laneFact_163 (by decide) ?_
        exact z_iret C E (Nat.le_of_ble_eq_true rfl) (Nat.le_of_ble_eq_true rfl) d_Lorry_laneFact_168 hf
    · refine z_iload C 5 d_Lorry_laneFact_153 rfl ?_
      exact z_iret C E (Nat.le_of_ble_eq_true rfl) (Nat.le_of_ble_eq_true rfl) d_Lorry_laneFact_155 hf
  · refine z_iload C 10 d_Lorry_laneFact_34 rfl ?_
    refine z_if_ne (tgt := 46) C d_Lorry_laneFact_36 (by decide) hf (fun hf => ?_) (fun hf => ?_)
    · refine z_aload_n C 0 d_Lorry_laneFact_46 rfl rfl ?_
      refine z_iload C 8 d_Lorry_laneFact_47 rfl ?_
      refine z_aload_n C 1 d_Lorry_laneFact_49 rfl rfl ?_
      refine z_iload C 10 d_Lorry_laneFact_50 rfl ?_
      refine z_iconst C (v := (1 : Int32)) d_Lorry_laneFact_52 (by decide) ?_
      refine z_isub C d_Lorry_laneFact_53 ?_
      obtain ⟨p4, hc, hf⟩ := Option.bind_eq_some_iff.mp hf
      obtain ⟨hz, hc⟩ := zck_some hc
      refine z_callV C (ci := 5) (c_Table_slopeOf N C.2.2.1 hc) rfl hz w_569 w_63 w_652 w_567 w_568 pd_Table_slopeOf rfl ⟨(Nat.le_of_ble_eq_true rfl), (Nat.le_of_ble_eq_true rfl)⟩ ⟨(Nat.le_of_ble_eq_true rfl), (Nat.le_of_ble_eq_true rfl)⟩ rfl (Nat.le_of_ble_eq_true rfl) d_Lorry_laneFact_54 (k' := 0) (n' := 0) (stk' := [.int p4.1, .int x8, .ref x0]) rfl rfl rfl ?_
      obtain ⟨p5, hc, hf⟩ := Option.bind_eq_some_iff.mp hf
      obtain ⟨hz, hc⟩ := zck_some hc
      refine z_callV C (ci := 7) (c_Lorry_speedBehind N C.2.2.1 hc) rfl hz w_656 w_65 w_653 w_655 w_26 pd_Lorry_speedBehind rfl ⟨(Nat.le_of_ble_eq_true rfl), (Nat.le_of_ble_eq_true rfl)⟩ ⟨(Nat.le_of_ble_eq_true rfl), (Nat.le_of_ble_eq_true rfl)⟩ rfl (Nat.le_of_ble_eq_true rfl) d_Lorry_laneFact_57 (k' := 0) (n' := 0) (stk' := [.int p5.1]) rfl rfl rfl ?_
      refine z_sub [0, 1, 2, 3, 4, 5, 6, 7, 9, 10] rfl ?_
      exact k_Lorry_laneFact_60 N C E H24 _ _ _ _ _ _ _ _ _ _ _ _ hf
    · refine z_aload_n C 0 d_Lorry_laneFact_39 rfl rfl ?_
      refine z_getI C 7 0 rfl in_Lorry (by decide) w_249 rfl d_Lorry_laneFact_40 hf (fun v6 hf => ?_)
      refine z_goto (tgt := 60) C d_Lorry_laneFact_43 (by decide) ?_
      refine z_sub [0, 1, 2, 3, 4, 5, 6, 7, 9, 10] rfl ?_
      exact k_Lorry_laneFact_60 N C E H24 _ _ _ _ _ _ _ _ _ _ _ _ hf

set_option maxHeartbeats 4000000 in
set_option maxRecDepth 100000 in
theorem k_Lorry_laneFact (N : Nat) {X : zX} (C : zB X prog_3_method_3_code 12 R_Lorry rm_Lorry_laneFact) {h0 : zH} {p : Int32 × zH} (E : zR X (some .int) rm_Lorry_laneFact h0 (some (.int p.1)) p.2) : ∀ (x0 : Nat) (x1 : Nat) (x2 : Int32) (x3 : Int32) (h : zH), f_Lorry_laneFact N x0 x1 x2 x3 h = some p → Zt X 12 0 0 0 [(0, .ref x0), (1, .ref x1), (2, .int x2), (3, .int x3)] [] h := by
  intro x0 x1 x2 x3 h hf
  unfold f_Lorry_laneFact at hf
  refine z_iconst C (v := (-1 : Int32)) d_Lorry_laneFact_0 (by decide) ?_
  refine z_istore C (lv' := [(4, .int (-1 : Int32)), (0, .ref x0), (1, .ref x1), (2, .int x2), (3, .int x3)]) d_Lorry_laneFact_1 (by decide) rfl ?_
  refine z_iconst C (v := (-1 : Int32)) d_Lorry_laneFact_3 (by decide) ?_
  refine z_istore C (lv' := [(5, .int (-1 : Int32)), (4, .int (-1 : Int32)), (0, .ref x0), (1, .ref x1), (2, .int x2), (3, .int x3)]) d_Lorry_laneFact_4 (by decide) rfl ?_
  refine z_iconst C (v := (-1 : Int32)) d_Lorry_laneFact_6 (by decide) ?_
  refine z_istore C (lv' := [(6, .int (-1 : Int32)), (5, .int (-1 : Int32)), (4, .int (-1 : Int32)), (0, .ref x0), (1, .ref x1), (2, .int x2), (3, .int x3)]) d_Lorry_laneFact_7 (by decide) rfl ?_
  refine z_iconst C (v := (-1 : Int32)) d_Lorry_laneFact_9 (by decide) ?_
  refine z_istore C (lv' := [(7, .int (-1 : Int32)), (6, .int (-1 : Int32)), (5, .int (-1 : Int32)), (4, .int (-1 : Int32)), (0, .ref x0), (1, .ref x1), (2, .int x2), (3, .int x3)]) d_Lorry_laneFact_10 (by decide) rfl ?_
  refine z_aload_n C 4 d_Lorry_laneFact_12 rfl rfl ?_
  refine z_getI C 7 0 rfl in_Lorry (by decide) w_249 rfl d_Lorry_laneFact_13 hf (fun v7 hf => ?_)
  refine z_istore C (lv' := [(8, .int v7), (7, .int (-1 : Int32)), (6, .int (-1 : Int32)), (5, .int (-1 : Int32)), (4, .int (-1 : Int32)), (0, .ref x0), (1, .ref x1), (2, .int x2), (3, .int x3)]) d_Lorry_laneFact_16 (by decide) rfl ?_
  refine z_iconst C (v := (0 : Int32)) d_Lorry_laneFact_18 (by decide) ?_
  refine z_istore C (lv' := [(9, .int (0 : Int32)), (8, .int v7), (7, .int (-1 : Int32)), (6, .int (-1 : Int32)), (5, .int (-1 : Int32)), (4, .int (-1 : Int32)), (0, .ref x0), (1, .ref x1), (2, .int x2), (3, .int x3)]) d_Lorry_laneFact_19 (by decide) rfl ?_
  refine z_iconst C (v := (0 : Int32)) d_Lorry_laneFact_21 (by decide) ?_
  refine z_istore C (lv' := [(10, .int (0 : Int32)), (9, .int (0 : Int32)), (8, .int v7), (7, .int (-1 : Int32)), (6, .int (-1 : Int32)), (5, .int (-1 : Int32)), (4, .int (-1 : Int32)), (0, .ref x0), (1, .ref x1), (2, .int x2), (3, .int x3)]) d_Lorry_laneFact_22 (by decide) rfl ?_
  refine z_sub [7, 8, 9, 10, 6, 5, 4, 3, 2, 1, 0] rfl ?_
  exact k_Lorry_laneFact_24 N C E N _ _ _ _ _ _ _ _ _ _ _ _ hf

theorem c_Lorry_laneFact (N : Nat) {l : Launch} {D : va_G} {T : List (ClassId × FieldType)} (hT : T.map (fun q => q.2) = ztl) {x0 : Nat} {x1 : Nat} {x2 : Int32} {x3 : Int32} {h : zH} {p : Int32 × zH} (hf : f_Lorry_laneFact N x0 x1 x2 x3 h = some p) : zM l y_Lorry_laneFact prog_3_method_3_code 12 (some .int) rm_Lorry_laneFact D T [.ref x0, .ref x1, .int x2, .int x3] h (some (.int p.1)) p.2 :=
  z_enter (by decide) hT (Nat.le_of_ble_eq_true rfl) (fun X el eD eT hin C E => k_Lorry_laneFact N C E x0 x1 x2 x3 h hf)
/-! ===== LevelTables$Table.filledAt(I)I ===== -/
abbrev y_Table_filledAt : MethodName := ⟨R_Table, "filledAt", "(I)I"⟩
theorem pd_Table_filledAt : y_Table_filledAt.cls ≠ "java/lang/invoke/MethodHandle" ∧ y_Table_filledAt.cls ≠ "java/lang/invoke/VarHandle" ∧ (parseMethodDescriptor y_Table_filledAt.desc).map (fun d => d.parameters.length) = some 1 := ⟨by decide +kernel, by decide +kernel, by decide +kernel⟩
abbrev rm_Table_filledAt : Room := { frames := 1, cells := 0, slots := 0, locals := 21 }
def f_Table_filledAt (N : Nat) (x0 : Nat) (x1 : Int32) (h : zH) : Option (Int32 × zH) :=
  Option.bind (zck (zis h x0 5) (f_Table_isBetween N x0 x1 h)) fun (p1 : Int32 × zH) =>
  (if p1.1 = 0 then
    Option.bind (zgR p1.2 x0 5 2) fun (v2 : Nat) =>
    Option.bind (zaI p1.2 0 v2 x1) fun (v3 : Int32) =>
    Option.bind (zgR p1.2 x0 5 0) fun (v4 : Nat) =>
    Option.bind (zgR p1.2 v4 2 2) fun (v5 : Nat) =>
    Option.bind (zaI p1.2 0 v5 x1) fun (v6 : Int32) =>
    some ((v3 - v6), p1.2)
  else
    some ((0 : Int32), p1.2))
theorem d_Table_filledAt_0 : decode prog_8_method_4_code 0 = .ok (.aload_n (0), 1) := by decide +kernel
theorem d_Table_filledAt_1 : decode prog_8_method_4_code 1 = .ok (.iload_n (1), 1) := by decide +kernel
theorem d_Table_filledAt_2 : decode prog_8_method_4_code 2 = .ok (.invokevirtual (43), 3) := by decide +kernel
theorem d_Table_filledAt_5 : decode prog_8_method_4_code 5 = .ok (.ifCond .eq (7), 3) := by decide +kernel
theorem d_Table_filledAt_8 : decode prog_8_method_4_code 8 = .ok (.iconst (0), 1) := by decide +kernel
theorem d_Table_filledAt_9 : decode prog_8_method_4_code 9 = .ok (.goto (19), 3) := by decide +kernel
theorem d_Table_filledAt_12 : decode prog_8_method_4_code 12 = .ok (.aload_n (0), 1) := by decide +kernel
theorem d_Table_filledAt_13 : decode prog_8_method_4_code 13 = .ok (.getfield (36), 3) := by decide +kernel
theorem d_Table_filledAt_16 : decode prog_8_method_4_code 16 = .ok (.iload_n (1), 1) := by decide +kernel
theorem d_Table_filledAt_17 : decode prog_8_method_4_code 17 = .ok (.iaload, 1) := by decide +kernel
theorem d_Table_filledAt_18 : decode prog_8_method_4_code 18 = .ok (.aload_n (0), 1) := by decide +kernel
theorem d_Table_filledAt_19 : decode prog_8_method_4_code 19 = .ok (.getfield (23), 3) := by decide +kernel
theorem d_Table_filledAt_22 : decode prog_8_method_4_code 22 = .ok (.getfield (47), 3) := by decide +kernel
theorem d_Table_filledAt_25 : decode prog_8_method_4_code 25 = .ok (.iload_n (1), 1) := by decide +kernel
theorem d_Table_filledAt_26 : decode prog_8_method_4_code 26 = .ok (.iaload, 1) := by decide +kernel
theorem d_Table_filledAt_27 : decode prog_8_method_4_code 27 = .ok (.isub, 1) := by decide +kernel
theorem d_Table_filledAt_28 : decode prog_8_method_4_code 28 = .ok (.ireturn, 1) := by decide +kernel
set_option maxHeartbeats 4000000 in
set_option maxRecDepth 100000 in
theorem k_Table_filledAt (N : Nat) {X : zX} (C : zB X prog_8_method_4_code 2 R_Table rm_Table_filledAt) {h0 : zH} {p : Int32 × zH} (E : zR X (some .int) rm_Table_filledAt h0 (some (.int p.1)) p.2) : ∀ (x0 : Nat) (x1 : Int32) (h : zH), f_Table_filledAt N x0 x1 h = some p → Zt X 2 0 0 0 [(0, .ref x0), (1, .int x1)] [] h := by
  intro x0 x1 h hf
  unfold f_Table_filledAt at hf
  refine z_aload_n C 0 d_Table_filledAt_0 rfl rfl ?_
  refine z_iload_n C 1 d_Table_filledAt_1 rfl rfl ?_
  obtain ⟨p1, hc, hf⟩ := Option.bind_eq_some_iff.mp hf
  obtain ⟨hz, hc⟩ := zck_some hc
  refine z_callV C (ci := 5) (c_Table_isBetween N C.2.2.1 hc) rfl hz w_674 w_63 w_671 w_672 w_673 pd_Table_isBetween rfl ⟨(Nat.le_of_ble_eq_true rfl), (Nat.le_of_ble_eq_true rfl)⟩ ⟨(Nat.le_of_ble_eq_true rfl), (Nat.le_of_ble_eq_true rfl)⟩ rfl (Nat.le_of_ble_eq_true rfl) d_Table_filledAt_2 (k' := 0) (n' := 0) (stk' := [.int p1.1]) rfl rfl rfl ?_
  refine z_if_eq (tgt := 12) C d_Table_filledAt_5 (by decide) hf (fun hf => ?_) (fun hf => ?_)
  · refine z_aload_n C 0 d_Table_filledAt_12 rfl rfl ?_
    refine z_getR C 5 2 rfl in_Table (by decide) w_197 rfl d_Table_filledAt_13 hf (fun v2 hf => ?_)
    refine z_iload_n C 1 d_Table_filledAt_16 rfl rfl ?_
    refine z_iald C d_Table_filledAt_17 hf (fun v3 hf => ?_)
    refine z_aload_n C 0 d_Table_filledAt_18 rfl rfl ?_
    refine z_getR C 5 0 rfl in_Table (by decide) w_195 rfl d_Table_filledAt_19 hf (fun v4 hf => ?_)
    refine z_getR C 2 2 rfl in_Site (by decide) w_103 rfl d_Table_filledAt_22 hf (fun v5 hf => ?_)
    refine z_iload_n C 1 d_Table_filledAt_25 rfl rfl ?_
    refine z_iald C d_Table_filledAt_26 hf (fun v6 hf => ?_)
    refine z_isub C d_Table_filledAt_27 ?_
    exact z_iret C E (Nat.le_of_ble_eq_true rfl) (Nat.le_of_ble_eq_true rfl) d_Table_filledAt_28 hf
  · refine z_iconst C (v := (0 : Int32)) d_Table_filledAt_8 (by decide) ?_
    refine z_goto (tgt := 28) C d_Table_filledAt_9 (by decide) ?_
    exact z_iret C E (Nat.le_of_ble_eq_true rfl) (Nat.le_of_ble_eq_true rfl) d_Table_filledAt_28 hf

theorem c_Table_filledAt (N : Nat) {l : Launch} {D : va_G} {T : List (ClassId × FieldType)} (hT : T.map (fun q => q.2) = ztl) {x0 : Nat} {x1 : Int32} {h : zH} {p : Int32 × zH} (hf : f_Table_filledAt N x0 x1 h = some p) : zM l y_Table_filledAt prog_8_method_4_code 2 (some .int) rm_Table_filledAt D T [.ref x0, .int x1] h (some (.int p.1)) p.2 :=
  z_enter (by decide) hT (Nat.le_of_ble_eq_true rfl) (fun X el eD eT hin C E => k_Table_filledAt N C E x0 x1 h hf)
/-! ===== LevelTables$Table.levelsCut()I ===== -/
abbrev y_Table_levelsCut : MethodName := ⟨R_Table, "levelsCut", "()I"⟩
theorem pd_Table_levelsCut : y_Table_levelsCut.cls ≠ "java/lang/invoke/MethodHandle" ∧ y_Table_levelsCut.cls ≠ "java/lang/invoke/VarHandle" ∧ (parseMethodDescriptor y_Table_levelsCut.desc).map (fun d => d.parameters.length) = some 0 := ⟨by decide +kernel, by decide +kernel, by decide +kernel⟩
abbrev rm_Table_levelsCut : Room := { frames := 2, cells := 0, slots := 0, locals := 42 }
def b_Table_levelsCut_4 (N : Nat) (rc4 : Nat → Int32 → Int32 → zH → Option (Int32 × zH)) (x0 : Nat) (x1 : Int32) (x2 : Int32) (h : zH) : Option (Int32 × zH) :=
  Option.bind (zgR h x0 5 0) fun (v1 : Nat) =>
  Option.bind (zgI h v1 2 0) fun (v2 : Int32) =>
  (if v2 < x2 then
    some (x1, h)
  else
    Option.bind (zck (zis h x0 5) (f_Table_filledAt N x0 x2 h)) fun (p3 : Int32 × zH) =>
    rc4 x0 (x1 + (zmax (0 : Int32) (-p3.1))) (x2 + (1 : Int32)) p3.2)
def f_Table_levelsCut_4 (N : Nat) : Nat → Nat → Int32 → Int32 → zH → Option (Int32 × zH)
  | 0 => fun _ _ _ _ => none
  | n + 1 => fun x0 x1 x2 h => b_Table_levelsCut_4 N (f_Table_levelsCut_4 N n) x0 x1 x2 h
def f_Table_levelsCut (N : Nat) (x0 : Nat) (h : zH) : Option (Int32 × zH) :=
  f_Table_levelsCut_4 N N x0 (0 : Int32) (0 : Int32) h
theorem d_Table_levelsCut_0 : decode prog_8_method_6_code 0 = .ok (.iconst (0), 1) := by decide +kernel
theorem d_Table_levelsCut_1 : decode prog_8_method_6_code 1 = .ok (.istore_n (1), 1) := by decide +kernel
theorem d_Table_levelsCut_2 : decode prog_8_method_6_code 2 = .ok (.iconst (0), 1) := by decide +kernel
theorem d_Table_levelsCut_3 : decode prog_8_method_6_code 3 = .ok (.istore_n (2), 1) := by decide +kernel
theorem d_Table_levelsCut_4 : decode prog_8_method_6_code 4 = .ok (.iload_n (2), 1) := by decide +kernel
theorem d_Table_levelsCut_5 : decode prog_8_method_6_code 5 = .ok (.aload_n (0), 1) := by decide +kernel
theorem d_Table_levelsCut_6 : decode prog_8_method_6_code 6 = .ok (.getfield (23), 3) := by decide +kernel
theorem d_Table_levelsCut_9 : decode prog_8_method_6_code 9 = .ok (.getfield (31), 3) := by decide +kernel
theorem d_Table_levelsCut_12 : decode prog_8_method_6_code 12 = .ok (.if_icmp .gt (22), 3) := by decide +kernel
theorem d_Table_levelsCut_15 : decode prog_8_method_6_code 15 = .ok (.iload_n (1), 1) := by decide +kernel
theorem d_Table_levelsCut_16 : decode prog_8_method_6_code 16 = .ok (.iconst (0), 1) := by decide +kernel
theorem d_Table_levelsCut_17 : decode prog_8_method_6_code 17 = .ok (.aload_n (0), 1) := by decide +kernel
theorem d_Table_levelsCut_18 : decode prog_8_method_6_code 18 = .ok (.iload_n (2), 1) := by decide +kernel
theorem d_Table_levelsCut_19 : decode prog_8_method_6_code 19 = .ok (.invokevirtual (50), 3) := by decide +kernel
theorem d_Table_levelsCut_22 : decode prog_8_method_6_code 22 = .ok (.ineg, 1) := by decide +kernel
theorem d_Table_levelsCut_23 : decode prog_8_method_6_code 23 = .ok (.invokestatic (54), 3) := by decide +kernel
theorem d_Table_levelsCut_26 : decode prog_8_method_6_code 26 = .ok (.iadd, 1) := by decide +kernel
theorem d_Table_levelsCut_27 : decode prog_8_method_6_code 27 = .ok (.istore_n (1), 1) := by decide +kernel
theorem d_Table_levelsCut_28 : decode prog_8_method_6_code 28 = .ok (.iinc (2) (1), 3) := by decide +kernel
theorem d_Table_levelsCut_31 : decode prog_8_method_6_code 31 = .ok (.goto (-27), 3) := by decide +kernel
theorem d_Table_levelsCut_34 : decode prog_8_method_6_code 34 = .ok (.iload_n (1), 1) := by decide +kernel
theorem d_Table_levelsCut_35 : decode prog_8_method_6_code 35 = .ok (.ireturn, 1) := by decide +kernel
set_option maxHeartbeats 4000000 in
set_option maxRecDepth 100000 in
theorem k_Table_levelsCut_4 (N : Nat) {X : zX} (C : zB X prog_8_method_6_code 3 R_Table rm_Table_levelsCut) {h0 : zH} {p : Int32 × zH} (E : zR X (some .int) rm_Table_levelsCut h0 (some (.int p.1)) p.2) : ∀ n : Nat, ∀ (x0 : Nat) (x1 : Int32) (x2 : Int32) (h : zH), f_Table_levelsCut_4 N n x0 x1 x2 h = some p → Zt X 3 0 0 4 [(0, .ref x0), (1, .int x1), (2, .int x2)] [] h := by
  intro n
  induction n with
  | zero => intro x0 x1 x2 h hf; cases hf
  | succ n ih =>
  intro x0 x1 x2 h hf
  have H4 := ih
  replace hf : b_Table_levelsCut_4 N (f_Table_levelsCut_4 N n) x0 x1 x2 h = some p := hf
  unfold b_Table_levelsCut_4 at hf
  refine z_iload_n C 2 d_Table_levelsCut_4 rfl rfl ?_
  refine z_aload_n C 0 d_Table_levelsCut_5 rfl rfl ?_
  refine z_getR C 5 0 rfl in_Table (by decide) w_195 rfl d_Table_levelsCut_6 hf (fun v1 hf => ?_)
  refine z_getI C 2 0 rfl in_Site (by decide) w_94 rfl d_Table_levelsCut_9 hf (fun v2 hf => ?_)
  refine z_ic_gt (tgt := 34) C d_Table_levelsCut_12 (by decide) hf (fun hf => ?_) (fun hf => ?_)
  · refine z_iload_n C 1 d_Table_levelsCut_34 rfl rfl ?_
    exact z_iret C E (Nat.le_of_ble_eq_true rfl) (Nat.le_of_ble_eq_true rfl) d_Table_levelsCut_35 hf
  · refine z_iload_n C 1 d_Table_levelsCut_15 rfl rfl ?_
    refine z_iconst C (v := (0 : Int32)) d_Table_levelsCut_16 (by decide) ?_
    refine z_aload_n C 0 d_Table_levelsCut_17 rfl rfl ?_
    refine z_iload_n C 2 d_Table_levelsCut_18 rfl rfl ?_
    obtain ⟨p3, hc, hf⟩ := Option.bind_eq_some_iff.mp hf
    obtain ⟨hz, hc⟩ := zck_some hc
    refine z_callV C (ci := 5) (c_Table_filledAt N C.2.2.1 hc) rfl hz w_670 w_63 w_667 w_668 w_669 pd_Table_filledAt rfl ⟨(Nat.le_of_ble_eq_true rfl), (Nat.le_of_ble_eq_true rfl)⟩ ⟨(Nat.le_of_ble_eq_true rfl), (Nat.le_of_ble_eq_true rfl)⟩ rfl (Nat.le_of_ble_eq_true rfl) d_Table_levelsCut_19 (k' := 0) (n' := 0) (stk' := [.int p3.1, .int (0 : Int32), .int x1]) rfl rfl rfl ?_
    refine z_ineg C d_Table_levelsCut_22 ?_
    refine z_mmax C w_697 w_82 w_58 w_83 (Nat.le_of_ble_eq_true rfl) (Nat.le_of_ble_eq_true rfl) (Nat.le_of_ble_eq_true rfl) (Nat.le_of_ble_eq_true rfl) d_Table_levelsCut_23 ?_
    refine z_iadd C d_Table_levelsCut_26 ?_
    refine z_istore_n C (lv' := [(1, .int (x1 + (zmax (0 : Int32) (-p3.1)))), (0, .ref x0), (2, .int x2)]) d_Table_levelsCut_27 rfl (by decide) rfl ?_
    refine z_iinc C (v := (x2 + (1 : Int32))) (lv' := [(2, .int (x2 + (1 : Int32))), (1, .int (x1 + (zmax (0 : Int32) (-p3.1)))), (0, .ref x0)]) 2 d_Table_levelsCut_28 rfl (by rfl) (by decide) rfl ?_
    refine z_goto (tgt := 4) C d_Table_levelsCut_31 (by decide) ?_
    refine z_sub [2, 1, 0] rfl ?_
    exact H4 _ _ _ _ hf

set_option maxHeartbeats 4000000 in
set_option maxRecDepth 100000 in
theorem k_Table_levelsCut (N : Nat) {X : zX} (C : zB X prog_8_method_6_code 3 R_Table rm_Table_levelsCut) {h0 : zH} {p : Int32 × zH} (E : zR X (some .int) rm_Table_levelsCut h0 (some (.int p.1)) p.2) : ∀ (x0 : Nat) (h : zH), f_Table_levelsCut N x0 h = some p → Zt X 3 0 0 0 [(0, .ref x0)] [] h := by
  intro x0 h hf
  unfold f_Table_levelsCut at hf
  refine z_iconst C (v := (0 : Int32)) d_Table_levelsCut_0 (by decide) ?_
  refine z_istore_n C (lv' := [(1, .int (0 : Int32)), (0, .ref x0)]) d_Table_levelsCut_1 rfl (by decide) rfl ?_
  refine z_iconst C (v := (0 : Int32)) d_Table_levelsCut_2 (by decide) ?_
  refine z_istore_n C (lv' := [(2, .int (0 : Int32)), (1, .int (0 : Int32)), (0, .ref x0)]) d_Table_levelsCut_3 rfl (by decide) rfl ?_
  refine z_sub [2, 1, 0] rfl ?_
  exact k_Table_levelsCut_4 N C E N _ _ _ _ hf

theorem c_Table_levelsCut (N : Nat) {l : Launch} {D : va_G} {T : List (ClassId × FieldType)} (hT : T.map (fun q => q.2) = ztl) {x0 : Nat} {h : zH} {p : Int32 × zH} (hf : f_Table_levelsCut N x0 h = some p) : zM l y_Table_levelsCut prog_8_method_6_code 3 (some .int) rm_Table_levelsCut D T [.ref x0] h (some (.int p.1)) p.2 :=
  z_enter (by decide) hT (Nat.le_of_ble_eq_true rfl) (fun X el eD eT hin C E => k_Table_levelsCut N C E x0 h hf)
/-! ===== LevelTables$Table.levelsFilled()I ===== -/
abbrev y_Table_levelsFilled : MethodName := ⟨R_Table, "levelsFilled", "()I"⟩
theorem pd_Table_levelsFilled : y_Table_levelsFilled.cls ≠ "java/lang/invoke/MethodHandle" ∧ y_Table_levelsFilled.cls ≠ "java/lang/invoke/VarHandle" ∧ (parseMethodDescriptor y_Table_levelsFilled.desc).map (fun d => d.parameters.length) = some 0 := ⟨by decide +kernel, by decide +kernel, by decide +kernel⟩
abbrev rm_Table_levelsFilled : Room := { frames := 2, cells := 0, slots := 0, locals := 42 }
def b_Table_levelsFilled_4 (N : Nat) (rc4 : Nat → Int32 → Int32 → zH → Option (Int32 × zH)) (x0 : Nat) (x1 : Int32) (x2 : Int32) (h : zH) : Option (Int32 × zH) :=
  Option.bind (zgR h x0 5 0) fun (v1 : Nat) =>
  Option.bind (zgI h v1 2 0) fun (v2 : Int32) =>
  (if v2 < x2 then
    some (x1, h)
  else
    Option.bind (zck (zis h x0 5) (f_Table_filledAt N x0 x2 h)) fun (p3 : Int32 × zH) =>
    rc4 x0 (x1 + (zmax (0 : Int32) p3.1)) (x2 + (1 : Int32)) p3.2)
def f_Table_levelsFilled_4 (N : Nat) : Nat → Nat → Int32 → Int32 → zH → Option (Int32 × zH)
  | 0 => fun _ _ _ _ => none
  | n + 1 => fun x0 x1 x2 h => b_Table_levelsFilled_4 N (f_Table_levelsFilled_4 N n) x0 x1 x2 h
def f_Table_levelsFilled (N : Nat) (x0 : Nat) (h : zH) : Option (Int32 × zH) :=
  f_Table_levelsFilled_4 N N x0 (0 : Int32) (0 : Int32) h
theorem d_Table_levelsFilled_0 : decode prog_8_method_5_code 0 = .ok (.iconst (0), 1) := by decide +kernel
theorem d_Table_levelsFilled_1 : decode prog_8_method_5_code 1 = .ok (.istore_n (1), 1) := by decide +kernel
theorem d_Table_levelsFilled_2 : decode prog_8_method_5_code 2 = .ok (.iconst (0), 1) := by decide +kernel
theorem d_Table_levelsFilled_3 : decode prog_8_method_5_code 3 = .ok (.istore_n (2), 1) := by decide +kernel
theorem d_Table_levelsFilled_4 : decode prog_8_method_5_code 4 = .ok (.iload_n (2), 1) := by decide +kernel
theorem d_Table_levelsFilled_5 : decode prog_8_method_5_code 5 = .ok (.aload_n (0), 1) := by decide +kernel
theorem d_Table_levelsFilled_6 : decode prog_8_method_5_code 6 = .ok (.getfield (23), 3) := by decide +kernel
theorem d_Table_levelsFilled_9 : decode prog_8_method_5_code 9 = .ok (.getfield (31), 3) := by decide +kernel
theorem d_Table_levelsFilled_12 : decode prog_8_method_5_code 12 = .ok (.if_icmp .gt (21), 3) := by decide +kernel
theorem d_Table_levelsFilled_15 : decode prog_8_method_5_code 15 = .ok (.iload_n (1), 1) := by decide +kernel
theorem d_Table_levelsFilled_16 : decode prog_8_method_5_code 16 = .ok (.iconst (0), 1) := by decide +kernel
theorem d_Table_levelsFilled_17 : decode prog_8_method_5_code 17 = .ok (.aload_n (0), 1) := by decide +kernel
theorem d_Table_levelsFilled_18 : decode prog_8_method_5_code 18 = .ok (.iload_n (2), 1) := by decide +kernel
theorem d_Table_levelsFilled_19 : decode prog_8_method_5_code 19 = .ok (.invokevirtual (50), 3) := by decide +kernel
theorem d_Table_levelsFilled_22 : decode prog_8_method_5_code 22 = .ok (.invokestatic (54), 3) := by decide +kernel
theorem d_Table_levelsFilled_25 : decode prog_8_method_5_code 25 = .ok (.iadd, 1) := by decide +kernel
theorem d_Table_levelsFilled_26 : decode prog_8_method_5_code 26 = .ok (.istore_n (1), 1) := by decide +kernel
theorem d_Table_levelsFilled_27 : decode prog_8_method_5_code 27 = .ok (.iinc (2) (1), 3) := by decide +kernel
theorem d_Table_levelsFilled_30 : decode prog_8_method_5_code 30 = .ok (.goto (-26), 3) := by decide +kernel
theorem d_Table_levelsFilled_33 : decode prog_8_method_5_code 33 = .ok (.iload_n (1), 1) := by decide +kernel
theorem d_Table_levelsFilled_34 : decode prog_8_method_5_code 34 = .ok (.ireturn, 1) := by decide +kernel
set_option maxHeartbeats 4000000 in
set_option maxRecDepth 100000 in
theorem k_Table_levelsFilled_4 (N : Nat) {X : zX} (C : zB X prog_8_method_5_code 3 R_Table rm_Table_levelsFilled) {h0 : zH} {p : Int32 × zH} (E : zR X (some .int) rm_Table_levelsFilled h0 (some (.int p.1)) p.2) : ∀ n : Nat, ∀ (x0 : Nat) (x1 : Int32) (x2 : Int32) (h : zH), f_Table_levelsFilled_4 N n x0 x1 x2 h = some p → Zt X 3 0 0 4 [(0, .ref x0), (1, .int x1), (2, .int x2)] [] h := by
  intro n
  induction n with
  | zero => intro x0 x1 x2 h hf; cases hf
  | succ n ih =>
  intro x0 x1 x2 h hf
  have H4 := ih
  replace hf : b_Table_levelsFilled_4 N (f_Table_levelsFilled_4 N n) x0 x1 x2 h = some p := hf
  unfold b_Table_levelsFilled_4 at hf
  refine z_iload_n C 2 d_Table_levelsFilled_4 rfl rfl ?_
  refine z_aload_n C 0 d_Table_levelsFilled_5 rfl rfl ?_
  refine z_getR C 5 0 rfl in_Table (by decide) w_195 rfl d_Table_levelsFilled_6 hf (fun v1 hf => ?_)
  refine z_getI C 2 0 rfl in_Site (by decide) w_94 rfl d_Table_levelsFilled_9 hf (fun v2 hf => ?_)
  refine z_ic_gt (tgt := 33) C d_Table_levelsFilled_12 (by decide) hf (fun hf => ?_) (fun hf => ?_)
  · refine z_iload_n C 1 d_Table_levelsFilled_33 rfl rfl ?_
    exact z_iret C E (Nat.le_of_ble_eq_true rfl) (Nat.le_of_ble_eq_true rfl) d_Table_levelsFilled_34 hf
  · refine z_iload_n C 1 d_Table_levelsFilled_15 rfl rfl ?_
    refine z_iconst C (v := (0 : Int32)) d_Table_levelsFilled_16 (by decide) ?_
    refine z_aload_n C 0 d_Table_levelsFilled_17 rfl rfl ?_
    refine z_iload_n C 2 d_Table_levelsFilled_18 rfl rfl ?_
    obtain ⟨p3, hc, hf⟩ := Option.bind_eq_some_iff.mp hf
    obtain ⟨hz, hc⟩ := zck_some hc
    refine z_callV C (ci := 5) (c_Table_filledAt N C.2.2.1 hc) rfl hz w_670 w_63 w_667 w_668 w_669 pd_Table_filledAt rfl ⟨(Nat.le_of_ble_eq_true rfl), (Nat.le_of_ble_eq_true rfl)⟩ ⟨(Nat.le_of_ble_eq_true rfl), (Nat.le_of_ble_eq_true rfl)⟩ rfl (Nat.le_of_ble_eq_true rfl) d_Table_levelsFilled_19 (k' := 0) (n' := 0) (stk' := [.int p3.1, .int (0 : Int32), .int x1]) rfl rfl rfl ?_
    refine z_mmax C w_697 w_82 w_58 w_83 (Nat.le_of_ble_eq_true rfl) (Nat.le_of_ble_eq_true rfl) (Nat.le_of_ble_eq_true rfl) (Nat.le_of_ble_eq_true rfl) d_Table_levelsFilled_22 ?_
    refine z_iadd C d_Table_levelsFilled_25 ?_
    refine z_istore_n C (lv' := [(1, .int (x1 + (zmax (0 : Int32) p3.1))), (0, .ref x0), (2, .int x2)]) d_Table_levelsFilled_26 rfl (by decide) rfl ?_
    refine z_iinc C (v := (x2 + (1 : Int32))) (lv' := [(2, .int (x2 + (1 : Int32))), (1, .int (x1 + (zmax (0 : Int32) p3.1))), (0, .ref x0)]) 2 d_Table_levelsFilled_27 rfl (by rfl) (by decide) rfl ?_
    refine z_goto (tgt := 4) C d_Table_levelsFilled_30 (by decide) ?_
    refine z_sub [2, 1, 0] rfl ?_
    exact H4 _ _ _ _ hf

set_option maxHeartbeats 4000000 in
set_option maxRecDepth 100000 in
theorem k_Table_levelsFilled (N : Nat) {X : zX} (C : zB X prog_8_method_5_code 3 R_Table rm_Table_levelsFilled) {h0 : zH} {p : Int32 × zH} (E : zR X (some .int) rm_Table_levelsFilled h0 (some (.int p.1)) p.2) : ∀ (x0 : Nat) (h : zH), f_Table_levelsFilled N x0 h = some p → Zt X 3 0 0 0 [(0, .ref x0)] [] h := by
  intro x0 h hf
  unfold f_Table_levelsFilled at hf
  refine z_iconst C (v := (0 : Int32)) d_Table_levelsFilled_0 (by decide) ?_
  refine z_istore_n C (lv' := [(1, .int (0 : Int32)), (0, .ref x0)]) d_Table_levelsFilled_1 rfl (by decide) rfl ?_
  refine z_iconst C (v := (0 : Int32)) d_Table_levelsFilled_2 (by decide) ?_
  refine z_istore_n C (lv' := [(2, .int (0 : Int32)), (1, .int (0 : Int32)), (0, .ref x0)]) d_Table_levelsFilled_3 rfl (by decide) rfl ?_
  refine z_sub [2, 1, 0] rfl ?_
  exact k_Table_levelsFilled_4 N C E N _ _ _ _ hf

theorem c_Table_levelsFilled (N : Nat) {l : Launch} {D : va_G} {T : List (ClassId × FieldType)} (hT : T.map (fun q => q.2) = ztl) {x0 : Nat} {h : zH} {p : Int32 × zH} (hf : f_Table_levelsFilled N x0 h = some p) : zM l y_Table_levelsFilled prog_8_method_5_code 3 (some .int) rm_Table_levelsFilled D T [.ref x0] h (some (.int p.1)) p.2 :=
  z_enter (by decide) hT (Nat.le_of_ble_eq_true rfl) (fun X el eD eT hin C E => k_Table_levelsFilled N C E x0 h hf)
/-! ===== LevelTables$Table.spansHold()Z ===== -/
abbrev y_Table_spansHold : MethodName := ⟨R_Table, "spansHold", "()Z"⟩
theorem pd_Table_spansHold : y_Table_spansHold.cls ≠ "java/lang/invoke/MethodHandle" ∧ y_Table_spansHold.cls ≠ "java/lang/invoke/VarHandle" ∧ (parseMethodDescriptor y_Table_spansHold.desc).map (fun d => d.parameters.length) = some 0 := ⟨by decide +kernel, by decide +kernel, by decide +kernel⟩
abbrev rm_Table_spansHold : Room := { frames := 3, cells := 0, slots := 0, locals := 75 }
def f_Table_spansHold_35 (N : Nat) (rc2 : Nat → Int32 → zH → Option (Int32 × zH)) (x0 : Nat) (x1 : Int32) (h : zH) : Option (Int32 × zH) :=
  rc2 x0 (x1 + (1 : Int32)) h
def b_Table_spansHold_2 (N : Nat) (rc2 : Nat → Int32 → zH → Option (Int32 × zH)) (x0 : Nat) (x1 : Int32) (h : zH) : Option (Int32 × zH) :=
  Option.bind (zgR h x0 5 1) fun (v1 : Nat) =>
  Option.bind (zgI h v1 3 0) fun (v2 : Int32) =>
  (if v2 ≤ x1 then
    zrb (1 : Int32) h
  else
    Option.bind (zgI h x0 5 5) fun (v3 : Int32) =>
    (if ((v3 >>> (x1 &&& 31)) &&& (1 : Int32)) = (1 : Int32) then
      Option.bind (zck (zis h x0 5) (f_Table_spanHolds N x0 x1 h)) fun (p4 : Int32 × zH) =>
      (if p4.1 = 0 then
        zrb (0 : Int32) p4.2
      else
        f_Table_spansHold_35 N rc2 x0 x1 p4.2)
    else
      f_Table_spansHold_35 N rc2 x0 x1 h))
def f_Table_spansHold_2 (N : Nat) : Nat → Nat → Int32 → zH → Option (Int32 × zH)
  | 0 => fun _ _ _ => none
  | n + 1 => fun x0 x1 h => b_Table_spansHold_2 N (f_Table_spansHold_2 N n) x0 x1 h
def f_Table_spansHold (N : Nat) (x0 : Nat) (h : zH) : Option (Int32 × zH) :=
  f_Table_spansHold_2 N N x0 (0 : Int32) h
theorem d_Table_spansHold_0 : decode prog_8_method_12_code 0 = .ok (.iconst (0), 1) := by decide +kernel
theorem d_Table_spansHold_1 : decode prog_8_method_12_code 1 = .ok (.istore_n (1), 1) := by decide +kernel
theorem d_Table_spansHold_2 : decode prog_8_method_12_code 2 = .ok (.iload_n (1), 1) := by decide +kernel
theorem d_Table_spansHold_3 : decode prog_8_method_12_code 3 = .ok (.aload_n (0), 1) := by decide +kernel
theorem d_Table_spansHold_4 : decode prog_8_method_12_code 4 = .ok (.getfield (27), 3) := by decide +kernel
theorem d_Table_spansHold_7 : decode prog_8_method_12_code 7 = .ok (.getfield (89), 3) := by decide +kernel
theorem d_Table_spansHold_10 : decode prog_8_method_12_code 10 = .ok (.if_icmp .ge (31), 3) := by decide +kernel
theorem d_Table_spansHold_13 : decode prog_8_method_12_code 13 = .ok (.aload_n (0), 1) := by decide +kernel
theorem d_Table_spansHold_14 : decode prog_8_method_12_code 14 = .ok (.getfield (15), 3) := by decide +kernel
theorem d_Table_spansHold_17 : decode prog_8_method_12_code 17 = .ok (.iload_n (1), 1) := by decide +kernel
theorem d_Table_spansHold_18 : decode prog_8_method_12_code 18 = .ok (.ishr, 1) := by decide +kernel
theorem d_Table_spansHold_19 : decode prog_8_method_12_code 19 = .ok (.iconst (1), 1) := by decide +kernel
theorem d_Table_spansHold_20 : decode prog_8_method_12_code 20 = .ok (.iand, 1) := by decide +kernel
theorem d_Table_spansHold_21 : decode prog_8_method_12_code 21 = .ok (.iconst (1), 1) := by decide +kernel
theorem d_Table_spansHold_22 : decode prog_8_method_12_code 22 = .ok (.if_icmp .ne (13), 3) := by decide +kernel
theorem d_Table_spansHold_25 : decode prog_8_method_12_code 25 = .ok (.aload_n (0), 1) := by decide +kernel
theorem d_Table_spansHold_26 : decode prog_8_method_12_code 26 = .ok (.iload_n (1), 1) := by decide +kernel
theorem d_Table_spansHold_27 : decode prog_8_method_12_code 27 = .ok (.invokevirtual (94), 3) := by decide +kernel
theorem d_Table_spansHold_30 : decode prog_8_method_12_code 30 = .ok (.ifCond .ne (5), 3) := by decide +kernel
theorem d_Table_spansHold_33 : decode prog_8_method_12_code 33 = .ok (.iconst (0), 1) := by decide +kernel
theorem d_Table_spansHold_34 : decode prog_8_method_12_code 34 = .ok (.ireturn, 1) := by decide +kernel
theorem d_Table_spansHold_35 : decode prog_8_method_12_code 35 = .ok (.iinc (1) (1), 3) := by decide +kernel
theorem d_Table_spansHold_38 : decode prog_8_method_12_code 38 = .ok (.goto (-36), 3) := by decide +kernel
theorem d_Table_spansHold_41 : decode prog_8_method_12_code 41 = .ok (.iconst (1), 1) := by decide +kernel
theorem d_Table_spansHold_42 : decode prog_8_method_12_code 42 = .ok (.ireturn, 1) := by decide +kernel
set_option maxHeartbeats 4000000 in
set_option maxRecDepth 100000 in
theorem k_Table_spansHold_35 (N : Nat) {X : zX} (C : zB X prog_8_method_12_code 2 R_Table rm_Table_spansHold) {h0 : zH} {p : Int32 × zH} (E : zR X (some .boolean) rm_Table_spansHold h0 (some (.int p.1)) p.2) {rc2 : Nat → Int32 → zH → Option (Int32 × zH)} (H2 : ∀ (x0 : Nat) (x1 : Int32) (h : zH), rc2 x0 x1 h = some p → Zt X 2 0 0 2 [(0, .ref x0), (1, .int x1)] [] h) : ∀ (x0 : Nat) (x1 : Int32) (h : zH), f_Table_spansHold_35 N rc2 x0 x1 h = some p → Zt X 2 0 0 35 [(0, .ref x0), (1, .int x1)] [] h := by
  intro x0 x1 h hf
  unfold f_Table_spansHold_35 at hf
  refine z_iinc C (v := (x1 + (1 : Int32))) (lv' := [(1, .int (x1 + (1 : Int32))), (0, .ref x0)]) 1 d_Table_spansHold_35 rfl (by rfl) (by decide) rfl ?_
  refine z_goto (tgt := 2) C d_Table_spansHold_38 (by decide) ?_
  refine z_sub [1, 0] rfl ?_
  exact H2 _ _ _ hf

set_option maxHeartbeats 4000000 in
set_option maxRecDepth 100000 in
theorem k_Table_spansHold_2 (N : Nat) {X : zX} (C : zB X prog_8_method_12_code 2 R_Table rm_Table_spansHold) {h0 : zH} {p : Int32 × zH} (E : zR X (some .boolean) rm_Table_spansHold h0 (some (.int p.1)) p.2) : ∀ n : Nat, ∀ (x0 : Nat) (x1 : Int32) (h : zH), f_Table_spansHold_2 N n x0 x1 h = some p → Zt X 2 0 0 2 [(0, .ref x0), (1, .int x1)] [] h := by
  intro n
  induction n with
  | zero => intro x0 x1 h hf; cases hf
  | succ n ih =>
  intro x0 x1 h hf
  have H2 := ih
  replace hf : b_Table_spansHold_2 N (f_Table_spansHold_2 N n) x0 x1 h = some p := hf
  unfold b_Table_spansHold_2 at hf
  refine z_iload_n C 1 d_Table_spansHold_2 rfl rfl ?_
  refine z_aload_n C 0 d_Table_spansHold_3 rfl rfl ?_
  refine z_getR C 5 1 rfl in_Table (by decide) w_196 rfl d_Table_spansHold_4 hf (fun v1 hf => ?_)
  refine z_getI C 3 0 rfl in_Spans (by decide) w_151 rfl d_Table_spansHold_7 hf (fun v2 hf => ?_)
  refine z_ic_ge (tgt := 41) C d_Table_spansHold_10 (by decide) hf (fun hf => ?_) (fun hf => ?_)
  · refine z_iconst C (v := (1 : Int32)) d_Table_spansHold_41 (by decide) ?_
    exact z_zret C E (Nat.le_of_ble_eq_true rfl) (Nat.le_of_ble_eq_true rfl) d_Table_spansHold_42 hf
  · refine z_aload_n C 0 d_Table_spansHold_13 rfl rfl ?_
    refine z_getI C 5 5 rfl in_Table (by decide) w_207 rfl d_Table_spansHold_14 hf (fun v3 hf => ?_)
    refine z_iload_n C 1 d_Table_spansHold_17 rfl rfl ?_
    refine z_ishr C d_Table_spansHold_18 ?_
    refine z_iconst C (v := (1 : Int32)) d_Table_spansHold_19 (by decide) ?_
    refine z_iand C d_Table_spansHold_20 ?_
    refine z_iconst C (v := (1 : Int32)) d_Table_spansHold_21 (by decide) ?_
    refine z_ic_ne (tgt := 35) C d_Table_spansHold_22 (by decide) hf (fun hf => ?_) (fun hf => ?_)
    · refine z_sub [0, 1] rfl ?_
      exact k_Table_spansHold_35 N C E H2 _ _ _ hf
    · refine z_aload_n C 0 d_Table_spansHold_25 rfl rfl ?_
      refine z_iload_n C 1 d_Table_spansHold_26 rfl rfl ?_
      obtain ⟨p4, hc, hf⟩ := Option.bind_eq_some_iff.mp hf
      obtain ⟨hz, hc⟩ := zck_some hc
      refine z_callV C (ci := 5) (c_Table_spanHolds N C.2.2.1 hc) rfl hz w_729 w_63 w_726 w_728 w_31 pd_Table_spanHolds rfl ⟨(Nat.le_of_ble_eq_true rfl), (Nat.le_of_ble_eq_true rfl)⟩ ⟨(Nat.le_of_ble_eq_true rfl), (Nat.le_of_ble_eq_true rfl)⟩ rfl (Nat.le_of_ble_eq_true rfl) d_Table_spansHold_27 (k' := 0) (n' := 0) (stk' := [.int p4.1]) rfl rfl rfl ?_
      refine z_if_ne (tgt := 35) C d_Table_spansHold_30 (by decide) hf (fun hf => ?_) (fun hf => ?_)
      · refine z_sub [0, 1] rfl ?_
        exact k_Table_spansHold_35 N C E H2 _ _ _ hf
      · refine z_iconst C (v := (0 : Int32)) d_Table_spansHold_33 (by decide) ?_
        exact z_zret C E (Nat.le_of_ble_eq_true rfl) (Nat.le_of_ble_eq_true rfl) d_Table_spansHold_34 hf

set_option maxHeartbeats 4000000 in
set_option maxRecDepth 100000 in
theorem k_Table_spansHold (N : Nat) {X : zX} (C : zB X prog_8_method_12_code 2 R_Table rm_Table_spansHold) {h0 : zH} {p : Int32 × zH} (E : zR X (some .boolean) rm_Table_spansHold h0 (some (.int p.1)) p.2) : ∀ (x0 : Nat) (h : zH), f_Table_spansHold N x0 h = some p → Zt X 2 0 0 0 [(0, .ref x0)] [] h := by
  intro x0 h hf
  unfold f_Table_spansHold at hf
  refine z_iconst C (v := (0 : Int32)) d_Table_spansHold_0 (by decide) ?_
  refine z_istore_n C (lv' := [(1, .int (0 : Int32)), (0, .ref x0)]) d_Table_spansHold_1 rfl (by decide) rfl ?_
  refine z_sub [1, 0] rfl ?_
  exact k_Table_spansHold_2 N C E N _ _ _ hf

theorem c_Table_spansHold (N : Nat) {l : Launch} {D : va_G} {T : List (ClassId × FieldType)} (hT : T.map (fun q => q.2) = ztl) {x0 : Nat} {h : zH} {p : Int32 × zH} (hf : f_Table_spansHold N x0 h = some p) : zM l y_Table_spansHold prog_8_method_12_code 2 (some .boolean) rm_Table_spansHold D T [.ref x0] h (some (.int p.1)) p.2 :=
  z_enter (by decide) hT (Nat.le_of_ble_eq_true rfl) (fun X el eD eT hin C E => k_Table_spansHold N C E x0 h hf)
/-! ===== LevelTables.<init>(II)V ===== -/
abbrev y_LT_init : MethodName := ⟨R_LT, "<init>", "(II)V"⟩
theorem pd_LT_init : y_LT_init.cls ≠ "java/lang/invoke/MethodHandle" ∧ y_LT_init.cls ≠ "java/lang/invoke/VarHandle" ∧ (parseMethodDescriptor y_LT_init.desc).map (fun d => d.parameters.length) = some 2 := ⟨by decide +kernel, by decide +kernel, by decide +kernel⟩
abbrev rm_LT_init : Room := { frames := 2, cells := 20, slots := 305, locals := 45 }
def f_LT_init (N : Nat) (x0 : Nat) (x1 : Int32) (x2 : Int32) (h : zH) : Option (Unit × zH) :=
  Option.bind (znO h 2 df_Site) fun (q1 : Nat × zH) =>
  Option.bind (f_Site_init N q1.1 (zmax (2 : Int32) (zmin (24 : Int32) x1)) (zmax (1 : Int32) (zmin (24 : Int32) x2)) q1.2) fun (p2 : Unit × zH) =>
  Option.bind (zp p2.2 x0 1 0 (.ref q1.1)) fun (h3 : zH) =>
  Option.bind (znO h3 3 df_Spans) fun (q4 : Nat × zH) =>
  Option.bind (f_Spans_init N q4.1  q4.2) fun (p5 : Unit × zH) =>
  Option.bind (zp p5.2 x0 1 1 (.ref q4.1)) fun (h6 : zH) =>
  Option.bind (znO h6 4 df_Reach) fun (q7 : Nat × zH) =>
  Option.bind (zgR q7.2 x0 1 0) fun (v8 : Nat) =>
  Option.bind (f_Reach_init N q7.1 v8 q7.2) fun (p9 : Unit × zH) =>
  Option.bind (zp p9.2 x0 1 2 (.ref q7.1)) fun (h10 : zH) =>
  Option.bind (znO h10 5 df_Table) fun (q11 : Nat × zH) =>
  Option.bind (zgR q11.2 x0 1 0) fun (v12 : Nat) =>
  Option.bind (zgR q11.2 x0 1 1) fun (v13 : Nat) =>
  Option.bind (f_Table_init N q11.1 v12 v13 q11.2) fun (p14 : Unit × zH) =>
  Option.bind (zp p14.2 x0 1 3 (.ref q11.1)) fun (h15 : zH) =>
  Option.bind (znO h15 6 df_Curves) fun (q16 : Nat × zH) =>
  Option.bind (f_Curves_init N q16.1 (zmax (2 : Int32) (zmin (24 : Int32) x1)) q16.2) fun (p17 : Unit × zH) =>
  Option.bind (zp p17.2 x0 1 4 (.ref q16.1)) fun (h18 : zH) =>
  Option.bind (znO h18 7 df_Lorry) fun (q19 : Nat × zH) =>
  Option.bind (f_Lorry_init N q19.1  q19.2) fun (p20 : Unit × zH) =>
  Option.bind (zp p20.2 x0 1 5 (.ref q19.1)) fun (h21 : zH) =>
  some ((), h21)
theorem d_LT_init_0 : decode prog_1_method_1_code 0 = .ok (.aload_n (0), 1) := by decide +kernel
theorem d_LT_init_1 : decode prog_1_method_1_code 1 = .ok (.invokespecial (1), 3) := by decide +kernel
theorem d_LT_init_4 : decode prog_1_method_1_code 4 = .ok (.iconst (2), 1) := by decide +kernel
theorem d_LT_init_5 : decode prog_1_method_1_code 5 = .ok (.bipush (24), 2) := by decide +kernel
theorem d_LT_init_7 : decode prog_1_method_1_code 7 = .ok (.iload_n (1), 1) := by decide +kernel
theorem d_LT_init_8 : decode prog_1_method_1_code 8 = .ok (.invokestatic (9), 3) := by decide +kernel
theorem d_LT_init_11 : decode prog_1_method_1_code 11 = .ok (.invokestatic (15), 3) := by decide +kernel
theorem d_LT_init_14 : decode prog_1_method_1_code 14 = .ok (.istore_n (3), 1) := by decide +kernel
theorem d_LT_init_15 : decode prog_1_method_1_code 15 = .ok (.iconst (1), 1) := by decide +kernel
theorem d_LT_init_16 : decode prog_1_method_1_code 16 = .ok (.bipush (24), 2) := by decide +kernel
theorem d_LT_init_18 : decode prog_1_method_1_code 18 = .ok (.iload_n (2), 1) := by decide +kernel
theorem d_LT_init_19 : decode prog_1_method_1_code 19 = .ok (.invokestatic (9), 3) := by decide +kernel
theorem d_LT_init_22 : decode prog_1_method_1_code 22 = .ok (.invokestatic (15), 3) := by decide +kernel
theorem d_LT_init_25 : decode prog_1_method_1_code 25 = .ok (.istore (4), 2) := by decide +kernel
theorem d_LT_init_27 : decode prog_1_method_1_code 27 = .ok (.aload_n (0), 1) := by decide +kernel
theorem d_LT_init_28 : decode prog_1_method_1_code 28 = .ok (.new (18), 3) := by decide +kernel
theorem d_LT_init_31 : decode prog_1_method_1_code 31 = .ok (.dup, 1) := by decide +kernel
theorem d_LT_init_32 : decode prog_1_method_1_code 32 = .ok (.iload_n (3), 1) := by decide +kernel
theorem d_LT_init_33 : decode prog_1_method_1_code 33 = .ok (.iload (4), 2) := by decide +kernel
theorem d_LT_init_35 : decode prog_1_method_1_code 35 = .ok (.invokespecial (20), 3) := by decide +kernel
theorem d_LT_init_38 : decode prog_1_method_1_code 38 = .ok (.putfield (23), 3) := by decide +kernel
theorem d_LT_init_41 : decode prog_1_method_1_code 41 = .ok (.aload_n (0), 1) := by decide +kernel
theorem d_LT_init_42 : decode prog_1_method_1_code 42 = .ok (.new (27), 3) := by decide +kernel
theorem d_LT_init_45 : decode prog_1_method_1_code 45 = .ok (.dup, 1) := by decide +kernel
theorem d_LT_init_46 : decode prog_1_method_1_code 46 = .ok (.invokespecial (29), 3) := by decide +kernel
theorem d_LT_init_49 : decode prog_1_method_1_code 49 = .ok (.putfield (30), 3) := by decide +kernel
theorem d_LT_init_52 : decode prog_1_method_1_code 52 = .ok (.aload_n (0), 1) := by decide +kernel
theorem d_LT_init_53 : decode prog_1_method_1_code 53 = .ok (.new (34), 3) := by decide +kernel
theorem d_LT_init_56 : decode prog_1_method_1_code 56 = .ok (.dup, 1) := by decide +kernel
theorem d_LT_init_57 : decode prog_1_method_1_code 57 = .ok (.aload_n (0), 1) := by decide +kernel
theorem d_LT_init_58 : decode prog_1_method_1_code 58 = .ok (.getfield (23), 3) := by decide +kernel
theorem d_LT_init_61 : decode prog_1_method_1_code 61 = .ok (.invokespecial (36), 3) := by decide +kernel
theorem d_LT_init_64 : decode prog_1_method_1_code 64 = .ok (.putfield (39), 3) := by decide +kernel
theorem d_LT_init_67 : decode prog_1_method_1_code 67 = .ok (.aload_n (0), 1) := by decide +kernel
theorem d_LT_init_68 : decode prog_1_method_1_code 68 = .ok (.new (43), 3) := by decide +kernel
theorem d_LT_init_71 : decode prog_1_method_1_code 71 = .ok (.dup, 1) := by decide +kernel
theorem d_LT_init_72 : decode prog_1_method_1_code 72 = .ok (.aload_n (0), 1) := by decide +kernel
theorem d_LT_init_73 : decode prog_1_method_1_code 73 = .ok (.getfield (23), 3) := by decide +kernel
theorem d_LT_init_76 : decode prog_1_method_1_code 76 = .ok (.aload_n (0), 1) := by decide +kernel
theorem d_LT_init_77 : decode prog_1_method_1_code 77 = .ok (.getfield (30), 3) := by decide +kernel
theorem d_LT_init_80 : decode prog_1_method_1_code 80 = .ok (.invokespecial (45), 3) := by decide +kernel
theorem d_LT_init_83 : decode prog_1_method_1_code 83 = .ok (.putfield (48), 3) := by decide +kernel
theorem d_LT_init_86 : decode prog_1_method_1_code 86 = .ok (.aload_n (0), 1) := by decide +kernel
theorem d_LT_init_87 : decode prog_1_method_1_code 87 = .ok (.new (52), 3) := by decide +kernel
theorem d_LT_init_90 : decode prog_1_method_1_code 90 = .ok (.dup, 1) := by decide +kernel
theorem d_LT_init_91 : decode prog_1_method_1_code 91 = .ok (.iload_n (3), 1) := by decide +kernel
theorem d_LT_init_92 : decode prog_1_method_1_code 92 = .ok (.invokespecial (54), 3) := by decide +kernel
theorem d_LT_init_95 : decode prog_1_method_1_code 95 = .ok (.putfield (57), 3) := by decide +kernel
theorem d_LT_init_98 : decode prog_1_method_1_code 98 = .ok (.aload_n (0), 1) := by decide +kernel
theorem d_LT_init_99 : decode prog_1_method_1_code 99 = .ok (.new (61), 3) := by decide +kernel
theorem d_LT_init_102 : decode prog_1_method_1_code 102 = .ok (.dup, 1) := by decide +kernel
theorem d_LT_init_103 : decode prog_1_method_1_code 103 = .ok (.invokespecial (63), 3) := by decide +kernel
theorem d_LT_init_106 : decode prog_1_method_1_code 106 = .ok (.putfield (64), 3) := by decide +kernel
theorem d_LT_init_109 : decode prog_1_method_1_code 109 = .ok (.return_, 1) := by decide +kernel
set_option maxHeartbeats 4000000 in
set_option maxRecDepth 100000 in
theorem k_LT_init (N : Nat) {X : zX} (C : zB X prog_1_method_1_code 5 R_LT rm_LT_init) {h0 : zH} {p : Unit × zH} (E : zR X none rm_LT_init h0 none p.2) (hin : (x_t X).name = "<init>") : ∀ (x0 : Nat) (x1 : Int32) (x2 : Int32) (h : zH), f_LT_init N x0 x1 x2 h = some p → Zt X 5 0 0 0 [(0, .ref x0), (1, .int x1), (2, .int x2)] [] h := by
  intro x0 x1 x2 h hf
  unfold f_LT_init at hf
  refine z_aload_n C 0 d_LT_init_0 rfl rfl ?_
  refine z_objInit C w_75 w_76 w_77 (Nat.le_of_ble_eq_true rfl) (Nat.le_of_ble_eq_true rfl) d_LT_init_1 ?_
  refine z_iconst C (v := (2 : Int32)) d_LT_init_4 (by decide) ?_
  refine z_bipush C (v := (24 : Int32)) d_LT_init_5 (by decide) ?_
  refine z_iload_n C 1 d_LT_init_7 rfl rfl ?_
  refine z_mmin C w_78 w_79 w_58 w_80 (Nat.le_of_ble_eq_true rfl) (Nat.le_of_ble_eq_true rfl) (Nat.le_of_ble_eq_true rfl) (Nat.le_of_ble_eq_true rfl) d_LT_init_8 ?_
  refine z_mmax C w_81 w_82 w_58 w_83 (Nat.le_of_ble_eq_true rfl) (Nat.le_of_ble_eq_true rfl) (Nat.le_of_ble_eq_true rfl) (Nat.le_of_ble_eq_true rfl) d_LT_init_11 ?_
  refine z_istore_n C (lv' := [(3, .int (zmax (2 : Int32) (zmin (24 : Int32) x1))), (0, .ref x0), (1, .int x1), (2, .int x2)]) d_LT_init_14 rfl (by decide) rfl ?_
  refine z_iconst C (v := (1 : Int32)) d_LT_init_15 (by decide) ?_
  refine z_bipush C (v := (24 : Int32)) d_LT_init_16 (by decide) ?_
  refine z_iload_n C 3 d_LT_init_18 rfl rfl ?_
  refine z_mmin C w_78 w_79 w_58 w_80 (Nat.le_of_ble_eq_true rfl) (Nat.le_of_ble_eq_true rfl) (Nat.le_of_ble_eq_true rfl) (Nat.le_of_ble_eq_true rfl) d_LT_init_19 ?_
  refine z_mmax C w_81 w_82 w_58 w_83 (Nat.le_of_ble_eq_true rfl) (Nat.le_of_ble_eq_true rfl) (Nat.le_of_ble_eq_true rfl) (Nat.le_of_ble_eq_true rfl) d_LT_init_22 ?_
  refine z_istore C (lv' := [(4, .int (zmax (1 : Int32) (zmin (24 : Int32) x2))), (3, .int (zmax (2 : Int32) (zmin (24 : Int32) x1))), (0, .ref x0), (1, .int x1), (2, .int x2)]) d_LT_init_25 (by decide) rfl ?_
  refine z_aload_n C 2 d_LT_init_27 rfl rfl ?_
  refine z_newO C 2 ty_Site rfl in_Site tyok_Site w_84 w_85 w_59 df_Site_ok (Nat.le_of_ble_eq_true rfl) (Nat.le_of_ble_eq_true rfl) d_LT_init_28 hf (fun q1 hf => ?_)
  refine z_dup C d_LT_init_31 rfl ?_
  refine z_iload_n C 1 d_LT_init_32 rfl rfl ?_
  refine z_iload C 0 d_LT_init_33 rfl ?_
  obtain ⟨p2, hc, hf⟩ := Option.bind_eq_some_iff.mp hf
  refine z_callI C (c_Site_init N C.2.2.1 hc) w_88 w_59 w_86 w_87 rfl pd_Site_init rfl ⟨(Nat.le_of_ble_eq_true rfl), (Nat.le_of_ble_eq_true rfl)⟩ ⟨(Nat.le_of_ble_eq_true rfl), (Nat.le_of_ble_eq_true rfl)⟩ rfl (Nat.le_of_ble_eq_true rfl) d_LT_init_35 (k' := 6) (n' := 135) rfl rfl ?_
  refine z_put C 1 0 ty_LT rfl in_LT tyok_LT nm_LT (by decide) w_266 rfl (Or.inr ⟨rfl, hin, rfl⟩) rfl rfl rfl d_LT_init_38 hf (fun h3 hf => ?_)
  refine z_aload_n C 2 d_LT_init_41 rfl rfl ?_
  refine z_newO C 3 ty_Spans rfl in_Spans tyok_Spans w_143 w_144 w_61 df_Spans_ok (Nat.le_of_ble_eq_true rfl) (Nat.le_of_ble_eq_true rfl) d_LT_init_42 hf (fun q4 hf => ?_)
  refine z_dup C d_LT_init_45 rfl ?_
  obtain ⟨p5, hc, hf⟩ := Option.bind_eq_some_iff.mp hf
  refine z_callIN C (c_Spans_init N C.2.2.1 hc) w_147 w_61 nw_LT_29 w_146 rfl pd_Spans_init rfl ⟨(Nat.le_of_ble_eq_true rfl), (Nat.le_of_ble_eq_true rfl)⟩ ⟨(Nat.le_of_ble_eq_true rfl), (Nat.le_of_ble_eq_true rfl)⟩ rfl (Nat.le_of_ble_eq_true rfl) d_LT_init_46 (k' := 11) (n' := 164) rfl rfl ?_
  refine z_put C 1 1 ty_LT rfl in_LT tyok_LT nm_LT (by decide) w_267 rfl (Or.inr ⟨rfl, hin, rfl⟩) rfl rfl rfl d_LT_init_49 hf (fun h6 hf => ?_)
  refine z_aload_n C 2 d_LT_init_52 rfl rfl ?_
  refine z_newO C 4 ty_Reach rfl in_Reach tyok_Reach w_173 w_174 w_62 df_Reach_ok (Nat.le_of_ble_eq_true rfl) (Nat.le_of_ble_eq_true rfl) d_LT_init_53 hf (fun q7 hf => ?_)
  refine z_dup C d_LT_init_56 rfl ?_
  refine z_aload_n C 2 d_LT_init_57 rfl rfl ?_
  refine z_getR C 1 0 rfl in_LT (by decide) w_266 rfl d_LT_init_58 hf (fun v8 hf => ?_)
  obtain ⟨p9, hc, hf⟩ := Option.bind_eq_some_iff.mp hf
  refine z_callI C (c_Reach_init N C.2.2.1 hc) w_177 w_62 w_175 w_176 rfl pd_Reach_init rfl ⟨(Nat.le_of_ble_eq_true rfl), (Nat.le_of_ble_eq_true rfl)⟩ ⟨(Nat.le_of_ble_eq_true rfl), (Nat.le_of_ble_eq_true rfl)⟩ rfl (Nat.le_of_ble_eq_true rfl) d_LT_init_61 (k' := 14) (n' := 217) rfl rfl ?_
  refine z_put C 1 2 ty_LT rfl in_LT tyok_LT nm_LT (by decide) w_268 rfl (Or.inr ⟨rfl, hin, rfl⟩) rfl rfl rfl d_LT_init_64 hf (fun h10 hf => ?_)
  refine z_aload_n C 2 d_LT_init_67 rfl rfl ?_
  refine z_newO C 5 ty_Table rfl in_Table tyok_Table w_189 w_190 w_63 df_Table_ok (Nat.le_of_ble_eq_true rfl) (Nat.le_of_ble_eq_true rfl) d_LT_init_68 hf (fun q11 hf => ?_)
  refine z_dup C d_LT_init_71 rfl ?_
  refine z_aload_n C 2 d_LT_init_72 rfl rfl ?_
  refine z_getR C 1 0 rfl in_LT (by decide) w_266 rfl d_LT_init_73 hf (fun v12 hf => ?_)
  refine z_aload_n C 2 d_LT_init_76 rfl rfl ?_
  refine z_getR C 1 1 rfl in_LT (by decide) w_267 rfl d_LT_init_77 hf (fun v13 hf => ?_)
  obtain ⟨p14, hc, hf⟩ := Option.bind_eq_some_iff.mp hf
  refine z_callI C (c_Table_init N C.2.2.1 hc) w_193 w_63 w_191 w_192 rfl pd_Table_init rfl ⟨(Nat.le_of_ble_eq_true rfl), (Nat.le_of_ble_eq_true rfl)⟩ ⟨(Nat.le_of_ble_eq_true rfl), (Nat.le_of_ble_eq_true rfl)⟩ rfl (Nat.le_of_ble_eq_true rfl) d_LT_init_80 (k' := 17) (n' := 274) rfl rfl ?_
  refine z_put C 1 3 ty_LT rfl in_LT tyok_LT nm_LT (by decide) w_269 rfl (Or.inr ⟨rfl, hin, rfl⟩) rfl rfl rfl d_LT_init_83 hf (fun h15 hf => ?_)
  refine z_aload_n C 2 d_LT_init_86 rfl rfl ?_
  refine z_newO C 6 ty_Curves rfl in_Curves tyok_Curves w_228 w_229 w_64 df_Curves_ok (Nat.le_of_ble_eq_true rfl) (Nat.le_of_ble_eq_true rfl) d_LT_init_87 hf (fun q16 hf => ?_)
  refine z_dup C d_LT_init_90 rfl ?_
  refine z_iload_n C 1 d_LT_init_91 rfl rfl ?_
  obtain ⟨p17, hc, hf⟩ := Option.bind_eq_some_iff.mp hf
  refine z_callI C (c_Curves_init N C.2.2.1 hc) w_232 w_64 w_230 w_231 rfl pd_Curves_init rfl ⟨(Nat.le_of_ble_eq_true rfl), (Nat.le_of_ble_eq_true rfl)⟩ ⟨(Nat.le_of_ble_eq_true rfl), (Nat.le_of_ble_eq_true rfl)⟩ rfl (Nat.le_of_ble_eq_true rfl) d_LT_init_92 (k' := 19) (n' := 301) rfl rfl ?_
  refine z_put C 1 4 ty_LT rfl in_LT tyok_LT nm_LT (by decide) w_270 rfl (Or.inr ⟨rfl, hin, rfl⟩) rfl rfl rfl d_LT_init_95 hf (fun h18 hf => ?_)
  refine z_aload_n C 2 d_LT_init_98 rfl rfl ?_
  refine z_newO C 7 ty_Lorry rfl in_Lorry tyok_Lorry w_243 w_244 w_65 df_Lorry_ok (Nat.le_of_ble_eq_true rfl) (Nat.le_of_ble_eq_true rfl) d_LT_init_99 hf (fun q19 hf => ?_)
  refine z_dup C d_LT_init_102 rfl ?_
  obtain ⟨p20, hc, hf⟩ := Option.bind_eq_some_iff.mp hf
  refine z_callIN C (c_Lorry_init N C.2.2.1 hc) w_247 w_65 nw_LT_63 w_246 rfl pd_Lorry_init rfl ⟨(Nat.le_of_ble_eq_true rfl), (Nat.le_of_ble_eq_true rfl)⟩ ⟨(Nat.le_of_ble_eq_true rfl), (Nat.le_of_ble_eq_true rfl)⟩ rfl (Nat.le_of_ble_eq_true rfl) d_LT_init_103 (k' := 20) (n' := 305) rfl rfl ?_
  refine z_put C 1 5 ty_LT rfl in_LT tyok_LT nm_LT (by decide) w_271 rfl (Or.inr ⟨rfl, hin, rfl⟩) rfl rfl rfl d_LT_init_106 hf (fun h21 hf => ?_)
  exact z_vret C E (Nat.le_of_ble_eq_true rfl) (Nat.le_of_ble_eq_true rfl) d_LT_init_109 hf

theorem c_LT_init (N : Nat) {l : Launch} {D : va_G} {T : List (ClassId × FieldType)} (hT : T.map (fun q => q.2) = ztl) {x0 : Nat} {x1 : Int32} {x2 : Int32} {h : zH} {p : Unit × zH} (hf : f_LT_init N x0 x1 x2 h = some p) : zM l y_LT_init prog_1_method_1_code 5 none rm_LT_init D T [.ref x0, .int x1, .int x2] h none p.2 :=
  z_enter (by decide) hT (Nat.le_of_ble_eq_true rfl) (fun X el eD eT hin C E => k_LT_init N C E (hin rfl) x0 x1 x2 h hf)
/-! ===== LevelTables.ground(II)Z ===== -/
abbrev y_LT_ground : MethodName := ⟨R_LT, "ground", "(II)Z"⟩
theorem pd_LT_ground : y_LT_ground.cls ≠ "java/lang/invoke/MethodHandle" ∧ y_LT_ground.cls ≠ "java/lang/invoke/VarHandle" ∧ (parseMethodDescriptor y_LT_ground.desc).map (fun d => d.parameters.length) = some 2 := ⟨by decide +kernel, by decide +kernel, by decide +kernel⟩
abbrev rm_LT_ground : Room := { frames := 3, cells := 0, slots := 0, locals := 63 }
def f_LT_ground (N : Nat) (x0 : Nat) (x1 : Int32) (x2 : Int32) (h : zH) : Option (Int32 × zH) :=
  Option.bind (zgR h x0 1 0) fun (v1 : Nat) =>
  Option.bind (zck (zis h v1 2) (f_Site_isPlace N v1 x1 h)) fun (p2 : Int32 × zH) =>
  (if p2.1 = 0 then
    zrb (0 : Int32) p2.2
  else
    Option.bind (zgR p2.2 x0 1 0) fun (v3 : Nat) =>
    Option.bind (zck (zis p2.2 v3 2) (f_Site_isLevel N v3 x2 p2.2)) fun (p4 : Int32 × zH) =>
    (if p4.1 = 0 then
      zrb (0 : Int32) p4.2
    else
      Option.bind (zgR p4.2 x0 1 0) fun (v5 : Nat) =>
      Option.bind (zgR p4.2 v5 2 2) fun (v6 : Nat) =>
      Option.bind (zsI p4.2 0 v6 x1 x2) fun (h7 : zH) =>
      Option.bind (zck (zis h7 x0 1) (f_LT_forget N x0  h7)) fun (p8 : Unit × zH) =>
      zrb (1 : Int32) p8.2))
theorem d_LT_ground_0 : decode prog_1_method_2_code 0 = .ok (.aload_n (0), 1) := by decide +kernel
theorem d_LT_ground_1 : decode prog_1_method_2_code 1 = .ok (.getfield (23), 3) := by decide +kernel
theorem d_LT_ground_4 : decode prog_1_method_2_code 4 = .ok (.iload_n (1), 1) := by decide +kernel
theorem d_LT_ground_5 : decode prog_1_method_2_code 5 = .ok (.invokevirtual (68), 3) := by decide +kernel
theorem d_LT_ground_8 : decode prog_1_method_2_code 8 = .ok (.ifCond .eq (14), 3) := by decide +kernel
theorem d_LT_ground_11 : decode prog_1_method_2_code 11 = .ok (.aload_n (0), 1) := by decide +kernel
theorem d_LT_ground_12 : decode prog_1_method_2_code 12 = .ok (.getfield (23), 3) := by decide +kernel
theorem d_LT_ground_15 : decode prog_1_method_2_code 15 = .ok (.iload_n (2), 1) := by decide +kernel
theorem d_LT_ground_16 : decode prog_1_method_2_code 16 = .ok (.invokevirtual (72), 3) := by decide +kernel
theorem d_LT_ground_19 : decode prog_1_method_2_code 19 = .ok (.ifCond .ne (5), 3) := by decide +kernel
theorem d_LT_ground_22 : decode prog_1_method_2_code 22 = .ok (.iconst (0), 1) := by decide +kernel
theorem d_LT_ground_23 : decode prog_1_method_2_code 23 = .ok (.ireturn, 1) := by decide +kernel
theorem d_LT_ground_24 : decode prog_1_method_2_code 24 = .ok (.aload_n (0), 1) := by decide +kernel
theorem d_LT_ground_25 : decode prog_1_method_2_code 25 = .ok (.getfield (23), 3) := by decide +kernel
theorem d_LT_ground_28 : decode prog_1_method_2_code 28 = .ok (.getfield (75), 3) := by decide +kernel
theorem d_LT_ground_31 : decode prog_1_method_2_code 31 = .ok (.iload_n (1), 1) := by decide +kernel
theorem d_LT_ground_32 : decode prog_1_method_2_code 32 = .ok (.iload_n (2), 1) := by decide +kernel
theorem d_LT_ground_33 : decode prog_1_method_2_code 33 = .ok (.iastore, 1) := by decide +kernel
theorem d_LT_ground_34 : decode prog_1_method_2_code 34 = .ok (.aload_n (0), 1) := by decide +kernel
theorem d_LT_ground_35 : decode prog_1_method_2_code 35 = .ok (.invokevirtual (79), 3) := by decide +kernel
theorem d_LT_ground_38 : decode prog_1_method_2_code 38 = .ok (.iconst (1), 1) := by decide +kernel
theorem d_LT_ground_39 : decode prog_1_method_2_code 39 = .ok (.ireturn, 1) := by decide +kernel
set_option maxHeartbeats 4000000 in
set_option maxRecDepth 100000 in
theorem k_LT_ground (N : Nat) {X : zX} (C : zB X prog_1_method_2_code 3 R_LT rm_LT_ground) {h0 : zH} {p : Int32 × zH} (E : zR X (some .boolean) rm_LT_ground h0 (some (.int p.1)) p.2) : ∀ (x0 : Nat) (x1 : Int32) (x2 : Int32) (h : zH), f_LT_ground N x0 x1 x2 h = some p → Zt X 3 0 0 0 [(0, .ref x0), (1, .int x1), (2, .int x2)] [] h := by
  intro x0 x1 x2 h hf
  unfold f_LT_ground at hf
  refine z_aload_n C 0 d_LT_ground_0 rfl rfl ?_
  refine z_getR C 1 0 rfl in_LT (by decide) w_266 rfl d_LT_ground_1 hf (fun v1 hf => ?_)
  refine z_iload_n C 1 d_LT_ground_4 rfl rfl ?_
  obtain ⟨p2, hc, hf⟩ := Option.bind_eq_some_iff.mp hf
  obtain ⟨hz, hc⟩ := zck_some hc
  refine z_callV C (ci := 2) (c_Site_isPlace N C.2.2.1 hc) rfl hz w_304 w_59 w_301 w_302 w_303 pd_Site_isPlace rfl ⟨(Nat.le_of_ble_eq_true rfl), (Nat.le_of_ble_eq_true rfl)⟩ ⟨(Nat.le_of_ble_eq_true rfl), (Nat.le_of_ble_eq_true rfl)⟩ rfl (Nat.le_of_ble_eq_true rfl) d_LT_ground_5 (k' := 0) (n' := 0) (stk' := [.int p2.1]) rfl rfl rfl ?_
  refine z_if_eq (tgt := 22) C d_LT_ground_8 (by decide) hf (fun hf => ?_) (fun hf => ?_)
  · refine z_iconst C (v := (0 : Int32)) d_LT_ground_22 (by decide) ?_
    exact z_zret C E (Nat.le_of_ble_eq_true rfl) (Nat.le_of_ble_eq_true rfl) d_LT_ground_23 hf
  · refine z_aload_n C 0 d_LT_ground_11 rfl rfl ?_
    refine z_getR C 1 0 rfl in_LT (by decide) w_266 rfl d_LT_ground_12 hf (fun v3 hf => ?_)
    refine z_iload_n C 2 d_LT_ground_15 rfl rfl ?_
    obtain ⟨p4, hc, hf⟩ := Option.bind_eq_some_iff.mp hf
    obtain ⟨hz, hc⟩ := zck_some hc
    refine z_callV C (ci := 2) (c_Site_isLevel N C.2.2.1 hc) rfl hz w_308 w_59 w_305 w_306 w_307 pd_Site_isLevel rfl ⟨(Nat.le_of_ble_eq_true rfl), (Nat.le_of_ble_eq_true rfl)⟩ ⟨(Nat.le_of_ble_eq_true rfl), (Nat.le_of_ble_eq_true rfl)⟩ rfl (Nat.le_of_ble_eq_true rfl) d_LT_ground_16 (k' := 0) (n' := 0) (stk' := [.int p4.1]) rfl rfl rfl ?_
    refine z_if_ne (tgt := 24) C d_LT_ground_19 (by decide) hf (fun hf => ?_) (fun hf => ?_)
    · refine z_aload_n C 0 d_LT_ground_24 rfl rfl ?_
      refine z_getR C 1 0 rfl in_LT (by decide) w_266 rfl d_LT_ground_25 hf (fun v5 hf => ?_)
      refine z_getR C 2 2 rfl in_Site (by decide) w_102 rfl d_LT_ground_28 hf (fun v6 hf => ?_)
      refine z_iload_n C 1 d_LT_ground_31 rfl rfl ?_
      refine z_iload_n C 2 d_LT_ground_32 rfl rfl ?_
      refine z_iast C d_LT_ground_33 hf (fun h7 hf => ?_)
      refine z_aload_n C 0 d_LT_ground_34 rfl rfl ?_
      obtain ⟨p8, hc, hf⟩ := Option.bind_eq_some_iff.mp hf
      obtain ⟨hz, hc⟩ := zck_some hc
      refine z_callV C (ci := 1) (c_LT_forget N C.2.2.1 hc) rfl hz w_312 w_57 w_309 w_311 w_0 pd_LT_forget rfl ⟨(Nat.le_of_ble_eq_true rfl), (Nat.le_of_ble_eq_true rfl)⟩ ⟨(Nat.le_of_ble_eq_true rfl), (Nat.le_of_ble_eq_true rfl)⟩ rfl (Nat.le_of_ble_eq_true rfl) d_LT_ground_35 (k' := 0) (n' := 0) (stk' := []) rfl rfl rfl ?_
      refine z_iconst C (v := (1 : Int32)) d_LT_ground_38 (by decide) ?_
      exact z_zret C E (Nat.le_of_ble_eq_true rfl) (Nat.le_of_ble_eq_true rfl) d_LT_ground_39 hf
    · refine z_iconst C (v := (0 : Int32)) d_LT_ground_22 (by decide) ?_
      exact z_zret C E (Nat.le_of_ble_eq_true rfl) (Nat.le_of_ble_eq_true rfl) d_LT_ground_23 hf

theorem c_LT_ground (N : Nat) {l : Launch} {D : va_G} {T : List (ClassId × FieldType)} (hT : T.map (fun q => q.2) = ztl) {x0 : Nat} {x1 : Int32} {x2 : Int32} {h : zH} {p : Int32 × zH} (hf : f_LT_ground N x0 x1 x2 h = some p) : zM l y_LT_ground prog_1_method_2_code 3 (some .boolean) rm_LT_ground D T [.ref x0, .int x1, .int x2] h (some (.int p.1)) p.2 :=
  z_enter (by decide) hT (Nat.le_of_ble_eq_true rfl) (fun X el eD eT hin C E => k_LT_ground N C E x0 x1 x2 h hf)
/-! ===== LevelTables$Reach.advance(I)Z ===== -/
abbrev y_Reach_advance : MethodName := ⟨R_Reach, "advance", "(I)Z"⟩
theorem pd_Reach_advance : y_Reach_advance.cls ≠ "java/lang/invoke/MethodHandle" ∧ y_Reach_advance.cls ≠ "java/lang/invoke/VarHandle" ∧ (parseMethodDescriptor y_Reach_advance.desc).map (fun d => d.parameters.length) = some 1 := ⟨by decide +kernel, by decide +kernel, by decide +kernel⟩
abbrev rm_Reach_advance : Room := { frames := 3, cells := 0, slots := 0, locals := 66 }
def f_Reach_advance_123 (N : Nat) (rc12 : Nat → Int32 → Int32 → Int32 → zH → Option (Int32 × zH)) (rc70 : Nat → Int32 → Int32 → Int32 → Int64 → Int32 → Int32 → zH → Option (Int32 × zH)) (x0 : Nat) (x1 : Int32) (x2 : Int32) (x3 : Int32) (x4 : Int64) (x6 : Int32) (x7 : Int32) (h : zH) : Option (Int32 × zH) :=
  rc70 x0 x1 x2 x3 x4 x6 (x7 + (1 : Int32)) h
def b_Reach_advance_70 (N : Nat) (rc12 : Nat → Int32 → Int32 → Int32 → zH → Option (Int32 × zH)) (rc70 : Nat → Int32 → Int32 → Int32 → Int64 → Int32 → Int32 → zH → Option (Int32 × zH)) (x0 : Nat) (x1 : Int32) (x2 : Int32) (x3 : Int32) (x4 : Int64) (x6 : Int32) (x7 : Int32) (h : zH) : Option (Int32 × zH) :=
  (if x6 < x7 then
    rc12 x0 x1 x2 (x3 + (1 : Int32)) h
  else
    (if (lg_cmp (x4 &&& (z_sl (1 : Int64) ((x7 - x3) + (24 : Int32)))) (0 : Int64)) = 0 then
      f_Reach_advance_123 N rc12 rc70 x0 x1 x2 x3 x4 x6 x7 h
    else
      Option.bind (zck (zis h x0 4) (f_Reach_canStep N x0 x1 x3 x7 h)) fun (p1 : Int32 × zH) =>
      (if p1.1 = 0 then
        f_Reach_advance_123 N rc12 rc70 x0 x1 x2 x3 x4 x6 x7 p1.2
      else
        Option.bind (zgR p1.2 x0 4 2) fun (v2 : Nat) =>
        Option.bind (zaJ p1.2 1 v2 x7) fun (v3 : Int64) =>
        Option.bind (zsJ p1.2 1 v2 x7 (v3 ||| (z_sl (1 : Int64) ((x7 - x3) + (24 : Int32))))) fun (h4 : zH) =>
        f_Reach_advance_123 N rc12 rc70 x0 x1 (1 : Int32) x3 x4 x6 x7 h4)))
def f_Reach_advance_70 (N : Nat) (rc12 : Nat → Int32 → Int32 → Int32 → zH → Option (Int32 × zH)) : Nat → Nat → Int32 → Int32 → Int32 → Int64 → Int32 → Int32 → zH → Option (Int32 × zH)
  | 0 => fun _ _ _ _ _ _ _ _ => none
  | n + 1 => fun x0 x1 x2 x3 x4 x6 x7 h => b_Reach_advance_70 N rc12 (f_Reach_advance_70 N rc12 n) x0 x1 x2 x3 x4 x6 x7 h
def f_Reach_advance_48 (N : Nat) (rc12 : Nat → Int32 → Int32 → Int32 → zH → Option (Int32 × zH)) (x0 : Nat) (x1 : Int32) (x2 : Int32) (x3 : Int32) (s0 : Int64) (h : zH) : Option (Int32 × zH) :=
  Option.bind (zgR h x0 4 0) fun (v5 : Nat) =>
  Option.bind (zck (zis h v5 2) (f_Site_highestNear N v5 x3 h)) fun (p6 : Int32 × zH) =>
  Option.bind (zgR p6.2 x0 4 0) fun (v7 : Nat) =>
  Option.bind (zck (zis p6.2 v7 2) (f_Site_lowestNear N v7 x3 p6.2)) fun (p8 : Int32 × zH) =>
  f_Reach_advance_70 N rc12 N x0 x1 x2 x3 s0 p6.1 p8.1 p8.2
def b_Reach_advance_12 (N : Nat) (rc12 : Nat → Int32 → Int32 → Int32 → zH → Option (Int32 × zH)) (x0 : Nat) (x1 : Int32) (x2 : Int32) (x3 : Int32) (h : zH) : Option (Int32 × zH) :=
  Option.bind (zgR h x0 4 0) fun (v9 : Nat) =>
  Option.bind (zgI h v9 2 1) fun (v10 : Int32) =>
  (if v10 < x3 then
    Option.bind (zgR h x0 4 1) fun (v11 : Nat) =>
    Option.bind (zgR h x0 4 2) fun (v12 : Nat) =>
    Option.bind (zp h x0 4 1 (.ref v12)) fun (h13 : zH) =>
    Option.bind (zp h13 x0 4 2 (.ref v11)) fun (h14 : zH) =>
    zrb x2 h14
  else
    Option.bind (zgR h x0 4 1) fun (v15 : Nat) =>
    Option.bind (zaJ h 1 v15 x3) fun (v16 : Int64) =>
    (if (lg_cmp v16 (0 : Int64)) = 0 then
      f_Reach_advance_48 N rc12 x0 x1 x2 x3 (0 : Int64) h
    else
      Option.bind (zgR h x0 4 1) fun (v17 : Nat) =>
      Option.bind (zaJ h 1 v17 x3) fun (v18 : Int64) =>
      Option.bind (zck (zis h x0 4) (f_Reach_widened N x0 v18 h)) fun (p19 : Int64 × zH) =>
      f_Reach_advance_48 N rc12 x0 x1 x2 x3 p19.1 p19.2))
def f_Reach_advance_12 (N : Nat) : Nat → Nat → Int32 → Int32 → Int32 → zH → Option (Int32 × zH)
  | 0 => fun _ _ _ _ _ => none
  | n + 1 => fun x0 x1 x2 x3 h => b_Reach_advance_12 N (f_Reach_advance_12 N n) x0 x1 x2 x3 h
def f_Reach_advance (N : Nat) (x0 : Nat) (x1 : Int32) (h : zH) : Option (Int32 × zH) :=
  Option.bind (zgR h x0 4 2) fun (v20 : Nat) =>
  Option.bind (f_Arrays_fill_AJJV N v20 (0 : Int64) h) fun (p21 : Unit × zH) =>
  f_Reach_advance_12 N N x0 x1 (0 : Int32) (0 : Int32) p21.2
theorem d_Reach_advance_0 : decode prog_4_method_4_code 0 = .ok (.aload_n (0), 1) := by decide +kernel
theorem d_Reach_advance_1 : decode prog_4_method_4_code 1 = .ok (.getfield (25), 3) := by decide +kernel
theorem d_Reach_advance_4 : decode prog_4_method_4_code 4 = .ok (.lconst (0), 1) := by decide +kernel
theorem d_Reach_advance_5 : decode prog_4_method_4_code 5 = .ok (.invokestatic (45), 3) := by decide +kernel
theorem d_Reach_advance_8 : decode prog_4_method_4_code 8 = .ok (.iconst (0), 1) := by decide +kernel
theorem d_Reach_advance_9 : decode prog_4_method_4_code 9 = .ok (.istore_n (2), 1) := by decide +kernel
theorem d_Reach_advance_10 : decode prog_4_method_4_code 10 = .ok (.iconst (0), 1) := by decide +kernel
theorem d_Reach_advance_11 : decode prog_4_method_4_code 11 = .ok (.istore_n (3), 1) := by decide +kernel
theorem d_Reach_advance_12 : decode prog_4_method_4_code 12 = .ok (.iload_n (3), 1) := by decide +kernel
theorem d_Reach_advance_13 : decode prog_4_method_4_code 13 = .ok (.aload_n (0), 1) := by decide +kernel
theorem d_Reach_advance_14 : decode prog_4_method_4_code 14 = .ok (.getfield (9), 3) := by decide +kernel
theorem d_Reach_advance_17 : decode prog_4_method_4_code 17 = .ok (.getfield (15), 3) := by decide +kernel
theorem d_Reach_advance_20 : decode prog_4_method_4_code 20 = .ok (.if_icmp .gt (115), 3) := by decide +kernel
theorem d_Reach_advance_23 : decode prog_4_method_4_code 23 = .ok (.aload_n (0), 1) := by decide +kernel
theorem d_Reach_advance_24 : decode prog_4_method_4_code 24 = .ok (.getfield (21), 3) := by decide +kernel
theorem d_Reach_advance_27 : decode prog_4_method_4_code 27 = .ok (.iload_n (3), 1) := by decide +kernel
theorem d_Reach_advance_28 : decode prog_4_method_4_code 28 = .ok (.laload, 1) := by decide +kernel
theorem d_Reach_advance_29 : decode prog_4_method_4_code 29 = .ok (.lconst (0), 1) := by decide +kernel
theorem d_Reach_advance_30 : decode prog_4_method_4_code 30 = .ok (.lcmp, 1) := by decide +kernel
theorem d_Reach_advance_31 : decode prog_4_method_4_code 31 = .ok (.ifCond .ne (7), 3) := by decide +kernel
theorem d_Reach_advance_34 : decode prog_4_method_4_code 34 = .ok (.lconst (0), 1) := by decide +kernel
theorem d_Reach_advance_35 : decode prog_4_method_4_code 35 = .ok (.goto (13), 3) := by decide +kernel
theorem d_Reach_advance_38 : decode prog_4_method_4_code 38 = .ok (.aload_n (0), 1) := by decide +kernel
theorem d_Reach_advance_39 : decode prog_4_method_4_code 39 = .ok (.aload_n (0), 1) := by decide +kernel
theorem d_Reach_advance_40 : decode prog_4_method_4_code 40 = .ok (.getfield (21), 3) := by decide +kernel
theorem d_Reach_advance_43 : decode prog_4_method_4_code 43 = .ok (.iload_n (3), 1) := by decide +kernel
theorem d_Reach_advance_44 : decode prog_4_method_4_code 44 = .ok (.laload, 1) := by decide +kernel
theorem d_Reach_advance_45 : decode prog_4_method_4_code 45 = .ok (.invokevirtual (51), 3) := by decide +kernel
theorem d_Reach_advance_48 : decode prog_4_method_4_code 48 = .ok (.lstore (4), 2) := by decide +kernel
theorem d_Reach_advance_50 : decode prog_4_method_4_code 50 = .ok (.aload_n (0), 1) := by decide +kernel
theorem d_Reach_advance_51 : decode prog_4_method_4_code 51 = .ok (.getfield (9), 3) := by decide +kernel
theorem d_Reach_advance_54 : decode prog_4_method_4_code 54 = .ok (.iload_n (3), 1) := by decide +kernel
theorem d_Reach_advance_55 : decode prog_4_method_4_code 55 = .ok (.invokevirtual (55), 3) := by decide +kernel
theorem d_Reach_advance_58 : decode prog_4_method_4_code 58 = .ok (.istore (6), 2) := by decide +kernel
theorem d_Reach_advance_60 : decode prog_4_method_4_code 60 = .ok (.aload_n (0), 1) := by decide +kernel
theorem d_Reach_advance_61 : decode prog_4_method_4_code 61 = .ok (.getfield (9), 3) := by decide +kernel
theorem d_Reach_advance_64 : decode prog_4_method_4_code 64 = .ok (.iload_n (3), 1) := by decide +kernel
theorem d_Reach_advance_65 : decode prog_4_method_4_code 65 = .ok (.invokevirtual (59), 3) := by decide +kernel
theorem d_Reach_advance_68 : decode prog_4_method_4_code 68 = .ok (.istore (7), 2) := by decide +kernel
theorem d_Reach_advance_70 : decode prog_4_method_4_code 70 = .ok (.iload (7), 2) := by decide +kernel
theorem d_Reach_advance_72 : decode prog_4_method_4_code 72 = .ok (.iload (6), 2) := by decide +kernel
theorem d_Reach_advance_74 : decode prog_4_method_4_code 74 = .ok (.if_icmp .gt (55), 3) := by decide +kernel
theorem d_Reach_advance_77 : decode prog_4_method_4_code 77 = .ok (.lconst (1), 1) := by decide +kernel
theorem d_Reach_advance_78 : decode prog_4_method_4_code 78 = .ok (.iload (7), 2) := by decide +kernel
theorem d_Reach_advance_80 : decode prog_4_method_4_code 80 = .ok (.iload_n (3), 1) := by decide +kernel
theorem d_Reach_advance_81 : decode prog_4_method_4_code 81 = .ok (.isub, 1) := by decide +kernel
theorem d_Reach_advance_82 : decode prog_4_method_4_code 82 = .ok (.bipush (24), 2) := by decide +kernel
theorem d_Reach_advance_84 : decode prog_4_method_4_code 84 = .ok (.iadd, 1) := by decide +kernel
theorem d_Reach_advance_85 : decode prog_4_method_4_code 85 = .ok (.lshl, 1) := by decide +kernel
theorem d_Reach_advance_86 : decode prog_4_method_4_code 86 = .ok (.lstore (8), 2) := by decide +kernel
theorem d_Reach_advance_88 : decode prog_4_method_4_code 88 = .ok (.lload (4), 2) := by decide +kernel
theorem d_Reach_advance_90 : decode prog_4_method_4_code 90 = .ok (.lload (8), 2) := by decide +kernel
theorem d_Reach_advance_92 : decode prog_4_method_4_code 92 = .ok (.land, 1) := by decide +kernel
theorem d_Reach_advance_93 : decode prog_4_method_4_code 93 = .ok (.lconst (0), 1) := by decide +kernel
theorem d_Reach_advance_94 : decode prog_4_method_4_code 94 = .ok (.lcmp, 1) := by decide +kernel
theorem d_Reach_advance_95 : decode prog_4_method_4_code 95 = .ok (.ifCond .eq (28), 3) := by decide +kernel
theorem d_Reach_advance_98 : decode prog_4_method_4_code 98 = .ok (.aload_n (0), 1) := by decide +kernel
theorem d_Reach_advance_99 : decode prog_4_method_4_code 99 = .ok (.iload_n (1), 1) := by decide +kernel
theorem d_Reach_advance_100 : decode prog_4_method_4_code 100 = .ok (.iload_n (3), 1) := by decide +kernel
theorem d_Reach_advance_101 : decode prog_4_method_4_code 101 = .ok (.iload (7), 2) := by decide +kernel
theorem d_Reach_advance_103 : decode prog_4_method_4_code 103 = .ok (.invokevirtual (62), 3) := by decide +kernel
theorem d_Reach_advance_106 : decode prog_4_method_4_code 106 = .ok (.ifCond .eq (17), 3) := by decide +kernel
theorem d_Reach_advance_109 : decode prog_4_method_4_code 109 = .ok (.aload_n (0), 1) := by decide +kernel
theorem d_Reach_advance_110 : decode prog_4_method_4_code 110 = .ok (.getfield (25), 3) := by decide +kernel
theorem d_Reach_advance_113 : decode prog_4_method_4_code 113 = .ok (.iload (7), 2) := by decide +kernel
theorem d_Reach_advance_115 : decode prog_4_method_4_code 115 = .ok (.dup2, 1) := by decide +kernel
theorem d_Reach_advance_116 : decode prog_4_method_4_code 116 = .ok (.laload, 1) := by decide +kernel
theorem d_Reach_advance_117 : decode prog_4_method_4_code 117 = .ok (.lload (8), 2) := by decide +kernel
theorem d_Reach_advance_119 : decode prog_4_method_4_code 119 = .ok (.lor, 1) := by decide +kernel
theorem d_Reach_advance_120 : decode prog_4_method_4_code 120 = .ok (.lastore, 1) := by decide +kernel
theorem d_Reach_advance_121 : decode prog_4_method_4_code 121 = .ok (.iconst (1), 1) := by decide +kernel
theorem d_Reach_advance_122 : decode prog_4_method_4_code 122 = .ok (.istore_n (2), 1) := by decide +kernel
theorem d_Reach_advance_123 : decode prog_4_method_4_code 123 = .ok (.iinc (7) (1), 3) := by decide +kernel
theorem d_Reach_advance_126 : decode prog_4_method_4_code 126 = .ok (.goto (-56), 3) := by decide +kernel
theorem d_Reach_advance_129 : decode prog_4_method_4_code 129 = .ok (.iinc (3) (1), 3) := by decide +kernel
theorem d_Reach_advance_132 : decode prog_4_method_4_code 132 = .ok (.goto (-120), 3) := by decide +kernel
theorem d_Reach_advance_135 : decode prog_4_method_4_code 135 = .ok (.aload_n (0), 1) := by decide +kernel
theorem d_Reach_advance_136 : decode prog_4_method_4_code 136 = .ok (.getfield (21), 3) := by decide +kernel
theorem d_Reach_advance_139 : decode prog_4_method_4_code 139 = .ok (.astore_n (3), 1) := by decide +kernel
theorem d_Reach_advance_140 : decode prog_4_method_4_code 140 = .ok (.aload_n (0), 1) := by decide +kernel
theorem d_Reach_advance_141 : decode prog_4_method_4_code 141 = .ok (.aload_n (0), 1) := by decide +kernel
theorem d_Reach_advance_142 : decode prog_4_method_4_code 142 = .ok (.getfield (25), 3) := by decide +kernel
theorem d_Reach_advance_145 : decode prog_4_method_4_code 145 = .ok (.putfield (21), 3) := by decide +kernel
theorem d_Reach_advance_148 : decode prog_4_method_4_code 148 = .ok (.aload_n (0), 1) := by decide +kernel
theorem d_Reach_advance_149 : decode prog_4_method_4_code 149 = .ok (.aload_n (3), 1) := by decide +kernel
theorem d_Reach_advance_150 : decode prog_4_method_4_code 150 = .ok (.putfield (25), 3) := by decide +kernel
theorem d_Reach_advance_153 : decode prog_4_method_4_code 153 = .ok (.iload_n (2), 1) := by decide +kernel
theorem d_Reach_advance_154 : decode prog_4_method_4_code 154 = .ok (.ireturn, 1) := by decide +kernel
set_option maxHeartbeats 4000000 in
set_option maxRecDepth 100000 in
theorem k_Reach_advance_123 (N : Nat) {X : zX} (C : zB X prog_4_method_4_code 10 R_Reach rm_Reach_advance) {h0 : zH} {p : Int32 × zH} (E : zR X (some .boolean) rm_Reach_advance h0 (some (.int p.1)) p.2) {rc12 : Nat → Int32 → Int32 → Int32 → zH → Option (Int32 × zH)} (H12 : ∀ (x0 : Nat) (x1 : Int32) (x2 : Int32) (x3 : Int32) (h : zH), rc12 x0 x1 x2 x3 h = some p → Zt X 10 0 0 12 [(0, .ref x0), (1, .int x1), (2, .int x2), (3, .int x3)] [] h) {rc70 : Nat → Int32 → Int32 → Int32 → Int64 → Int32 → Int32 → zH → Option (Int32 × zH)} (H70 : ∀ (x0 : Nat) (x1 : Int32) (x2 : Int32) (x3 : Int32) (x4 : Int64) (x6 : Int32) (x7 : Int32) (h : zH), rc70 x0 x1 x2 x3 x4 x6 x7 h = some p → Zt X 10 0 0 70 [(0, .ref x0), (1, .int x1), (2, .int x2), (3, .int x3), (4, .long x4), (6, .int x6), (7, .int x7)] [] h) : ∀ (x0 : Nat) (x1 : Int32) (x2 : Int32) (x3 : Int32) (x4 : Int64) (x6 : Int32) (x7 : Int32) (h : zH), f_Reach_advance_123 N rc12 rc70 x0 x1 x2 x3 x4 x6 x7 h = some p → Zt X 10 0 0 123 [(0, .ref x0), (1, .int x1), (2, .int x2), (3, .int x3), (4, .long x4), (6, .int x6), (7, .int x7)] [] h := by
  intro x0 x1 x2 x3 x4 x6 x7 h hf
  unfold f_Reach_advance_123 at hf
  refine z_iinc C (v := (x7 + (1 : Int32))) (lv' := [(7, .int (x7 + (1 : Int32))), (0, .ref x0), (1, .int x1), (2, .int x2), (3, .int x3), (4, .long x4), (6, .int x6)]) 6 d_Reach_advance_123 rfl (by rfl) (by decide) rfl ?_
  refine z_goto (tgt := 70) C d_Reach_advance_126 (by decide) ?_
  refine z_sub [1, 2, 3, 4, 5, 6, 0] rfl ?_
  exact H70 _ _ _ _ _ _ _ _ hf

set_option maxHeartbeats 4000000 in
set_option maxRecDepth 100000 in
theorem k_Reach_advance_70 (N : Nat) {X : zX} (C : zB X prog_4_method_4_code 10 R_Reach rm_Reach_advance) {h0 : zH} {p : Int32 × zH} (E : zR X (some .boolean) rm_Reach_advance h0 (some (.int p.1)) p.2) {rc12 : Nat → Int32 → Int32 → Int32 → zH → Option (Int32 × zH)} (H12 : ∀ (x0 : Nat) (x1 : Int32) (x2 : Int32) (x3 : Int32) (h : zH), rc12 x0 x1 x2 x3 h = some p → Zt X 10 0 0 12 [(0, .ref x0), (1, .int x1), (2, .int x2), (3, .int x3)] [] h) : ∀ n : Nat, ∀ (x0 : Nat) (x1 : Int32) (x2 : Int32) (x3 : Int32) (x4 : Int64) (x6 : Int32) (x7 : Int32) (h : zH), f_Reach_advance_70 N rc12 n x0 x1 x2 x3 x4 x6 x7 h = some p → Zt X 10 0 0 70 [(0, .ref x0), (1, .int x1), (2, .int x2), (3, .int x3), (4, .long x4), (6, .int x6), (7, .int x7)] [] h := by
  intro n
  induction n with
  | zero => intro x0 x1 x2 x3 x4 x6 x7 h hf; cases hf
  | succ n ih =>
  intro x0 x1 x2 x3 x4 x6 x7 h hf
  have H70 := ih
  replace hf : b_Reach_advance_70 N rc12 (f_Reach_advance_70 N rc12 n) x0 x1 x2 x3 x4 x6 x7 h = some p := hf
  unfold b_Reach_advance_70 at hf
  refine z_iload C 6 d_Reach_advance_70 rfl ?_
  refine z_iload C 5 d_Reach_advance_72 rfl ?_
  refine z_ic_gt (tgt := 129) C d_Reach_advance_74 (by decide) hf (fun hf => ?_) (fun hf => ?_)
  · refine z_iinc C (v := (x3 + (1 : Int32))) (lv' := [(3, .int (x3 + (1 : Int32))), (0, .ref x0), (1, .int x1), (2, .int x2), (4, .long x4), (6, .int x6), (7, .int x7)]) 3 d_Reach_advance_129 rfl (by rfl) (by decide) rfl ?_
    refine z_goto (tgt := 12) C d_Reach_advance_132 (by decide) ?_
    refine z_sub [1, 2, 3, 0] rfl ?_
    exact H12 _ _ _ _ _ hf
  · refine z_lconst C (v := (1 : Int64)) d_Reach_advance_77 (by decide) ?_
    refine z_iload C 6 d_Reach_advance_78 rfl ?_
    refine z_iload_n C 3 d_Reach_advance_80 rfl rfl ?_
    refine z_isub C d_Reach_advance_81 ?_
    refine z_bipush C (v := (24 : Int32)) d_Reach_advance_82 (by decide) ?_
    refine z_iadd C d_Reach_advance_84 ?_
    refine z_lshl C d_Reach_advance_85 ?_
    refine z_lstore C (lv' := [(8, .long (z_sl (1 : Int64) ((x7 - x3) + (24 : Int32)))), (0, .ref x0), (1, .int x1), (2, .int x2), (3, .int x3), (4, .long x4), (6, .int x6), (7, .int x7)]) d_Reach_advance_86 (by decide) rfl ?_
    refine z_lload C 5 d_Reach_advance_88 rfl ?_
    refine z_lload C 0 d_Reach_advance_90 rfl ?_
    refine z_land C d_Reach_advance_92 ?_
    refine z_lconst C (v := (0 : Int64)) d_Reach_advance_93 (by decide) ?_
    refine z_lcmp C d_Reach_advance_94 ?_
    refine z_if_eq (tgt := 123) C d_Reach_advance_95 (by decide) hf (fun hf => ?_) (fun hf => ?_)
    · refine z_sub [1, 2, 3, 4, 5, 6, 7] rfl ?_
      exact k_Reach_advance_123 N C E H12 H70 _ _ _ _ _ _ _ _ hf
    · refine z_aload_n C 1 d_Reach_advance_98 rfl rfl ?_
      refine z_iload_n C 2 d_Reach_advance_99 rfl rfl ?_
      refine z_iload_n C 4 d_Reach_advance_100 rfl rfl ?_
      refine z_iload C 7 d_Reach_advance_101 rfl ?_
      obtain ⟨p1, hc, hf⟩ := Option.bind_eq_some_iff.mp hf
      obtain ⟨hz, hc⟩ := zck_some hc
      refine z_callV C (ci := 4) (c_Reach_canStep N C.2.2.1 hc) rfl hz w_401 w_62 w_398 w_400 w_4 pd_Reach_canStep rfl ⟨(Nat.le_of_ble_eq_true rfl), (Nat.le_of_ble_eq_true rfl)⟩ ⟨(Nat.le_of_ble_eq_true rfl), (Nat.le_of_ble_eq_true rfl)⟩ rfl (Nat.le_of_ble_eq_true rfl) d_Reach_advance_103 (k' := 0) (n' := 0) (stk' := [.int p1.1]) rfl rfl rfl ?_
      refine z_if_eq (tgt := 123) C d_Reach_advance_106 (by decide) hf (fun hf => ?_) (fun hf => ?_)
      · refine z_sub [1, 2, 3, 4, 5, 6, 7] rfl ?_
        exact k_Reach_advance_123 N C E H12 H70 _ _ _ _ _ _ _ _ hf
      · refine z_aload_n C 1 d_Reach_advance_109 rfl rfl ?_
        refine z_getR C 4 2 rfl in_Reach (by decide) w_181 rfl d_Reach_advance_110 hf (fun v2 hf => ?_)
        refine z_iload C 7 d_Reach_advance_113 rfl ?_
        refine z_dup2 C d_Reach_advance_115 rfl rfl ?_
        refine z_lald C d_Reach_advance_116 hf (fun v3 hf => ?_)
        refine z_lload C 0 d_Reach_advance_117 rfl ?_
        refine z_lor C d_Reach_advance_119 ?_
        refine z_last C d_Reach_advance_120 hf (fun h4 hf => ?_)
        refine z_iconst C (v := (1 : Int32)) d_Reach_advance_121 (by decide) ?_
        refine z_istore_n C (lv' := [(2, .int (1 : Int32)), (8, .long (z_sl (1 : Int64) ((x7 - x3) + (24 : Int32)))), (0, .ref x0), (1, .int x1), (3, .int x3), (4, .long x4), (6, .int x6), (7, .int x7)]) d_Reach_advance_122 rfl (by decide) rfl ?_
        refine z_sub [2, 3, 0, 4, 5, 6, 7] rfl ?_
        exact k_Reach_advance_123 N C E H12 H70 _ _ _ _ _ _ _ _ hf

set_option maxHeartbeats 4000000 in
set_option maxRecDepth 100000 in
theorem k_Reach_advance_48 (N : Nat) {X : zX} (C : zB X prog_4_method_4_code 10 R_Reach rm_Reach_advance) {h0 : zH} {p : Int32 × zH} (E : zR X (some .boolean) rm_Reach_advance h0 (some (.int p.1)) p.2) {rc12 : Nat → Int32 → Int32 → Int32 → zH → Option (Int32 × zH)} (H12 : ∀ (x0 : Nat) (x1 : Int32) (x2 : Int32) (x3 : Int32) (h : zH), rc12 x0 x1 x2 x3 h = some p → Zt X 10 0 0 12 [(0, .ref x0), (1, .int x1), (2, .int x2), (3, .int x3)] [] h) : ∀ (x0 : Nat) (x1 : Int32) (x2 : Int32) (x3 : Int32) (s0 : Int64) (h : zH), f_Reach_advance_48 N rc12 x0 x1 x2 x3 s0 h = some p → Zt X 10 0 0 48 [(0, .ref x0), (1, .int x1), (2, .int x2), (3, .int x3)] [.long s0] h := by
  intro x0 x1 x2 x3 s0 h hf
  unfold f_Reach_advance_48 at hf
  refine z_lstore C (lv' := [(4, .long s0), (0, .ref x0), (1, .int x1), (2, .int x2), (3, .int x3)]) d_Reach_advance_48 (by decide) rfl ?_
  refine z_aload_n C 1 d_Reach_advance_50 rfl rfl ?_
  refine z_getR C 4 0 rfl in_Reach (by decide) w_179 rfl d_Reach_advance_51 hf (fun v5 hf => ?_)
  refine z_iload_n C 4 d_Reach_advance_54 rfl rfl ?_
  obtain ⟨p6, hc, hf⟩ := Option.bind_eq_some_iff.mp hf
  obtain ⟨hz, hc⟩ := zck_some hc
  refine z_callV C (ci := 2) (c_Site_highestNear N C.2.2.1 hc) rfl hz w_391 w_59 w_388 w_389 w_390 pd_Site_highestNear rfl ⟨(Nat.le_of_ble_eq_true rfl), (Nat.le_of_ble_eq_true rfl)⟩ ⟨(Nat.le_of_ble_eq_true rfl), (Nat.le_of_ble_eq_true rfl)⟩ rfl (Nat.le_of_ble_eq_true rfl) d_Reach_advance_55 (k' := 0) (n' := 0) (stk' := [.int p6.1]) rfl rfl rfl ?_
  refine z_istore C (lv' := [(6, .int p6.1), (4, .long s0), (0, .ref x0), (1, .int x1), (2, .int x2), (3, .int x3)]) d_Reach_advance_58 (by decide) rfl ?_
  refine z_aload_n C 2 d_Reach_advance_60 rfl rfl ?_
  refine z_getR C 4 0 rfl in_Reach (by decide) w_179 rfl d_Reach_advance_61 hf (fun v7 hf => ?_)
  refine z_iload_n C 5 d_Reach_advance_64 rfl rfl ?_
  obtain ⟨p8, hc, hf⟩ := Option.bind_eq_some_iff.mp hf
  obtain ⟨hz, hc⟩ := zck_some hc
  refine z_callV C (ci := 2) (c_Site_lowestNear N C.2.2.1 hc) rfl hz w_396 w_59 w_393 w_394 w_395 pd_Site_lowestNear rfl ⟨(Nat.le_of_ble_eq_true rfl), (Nat.le_of_ble_eq_true rfl)⟩ ⟨(Nat.le_of_ble_eq_true rfl), (Nat.le_of_ble_eq_true rfl)⟩ rfl (Nat.le_of_ble_eq_true rfl) d_Reach_advance_65 (k' := 0) (n' := 0) (stk' := [.int p8.1]) rfl rfl rfl ?_
  refine z_istore C (lv' := [(7, .int p8.1), (6, .int p6.1), (4, .long s0), (0, .ref x0), (1, .int x1), (2, .int x2), (3, .int x3)]) d_Reach_advance_68 (by decide) rfl ?_
  refine z_sub [3, 4, 5, 6, 2, 1, 0] rfl ?_
  exact k_Reach_advance_70 N C E H12 N _ _ _ _ _ _ _ _ hf

set_option maxHeartbeats 4000000 in
set_option maxRecDepth 100000 in
theorem k_Reach_advance_12 (N : Nat) {X : zX} (C : zB X prog_4_method_4_code 10 R_Reach rm_Reach_advance) {h0 : zH} {p : Int32 × zH} (E : zR X (some .boolean) rm_Reach_advance h0 (some (.int p.1)) p.2) : ∀ n : Nat, ∀ (x0 : Nat) (x1 : Int32) (x2 : Int32) (x3 : Int32) (h : zH), f_Reach_advance_12 N n x0 x1 x2 x3 h = some p → Zt X 10 0 0 12 [(0, .ref x0), (1, .int x1), (2, .int x2), (3, .int x3)] [] h := by
  intro n
  induction n with
  | zero => intro x0 x1 x2 x3 h hf; cases hf
  | succ n ih =>
  intro x0 x1 x2 x3 h hf
  have H12 := ih
  replace hf : b_Reach_advance_12 N (f_Reach_advance_12 N n) x0 x1 x2 x3 h = some p := hf
  unfold b_Reach_advance_12 at hf
  refine z_iload_n C 3 d_Reach_advance_12 rfl rfl ?_
  refine z_aload_n C 0 d_Reach_advance_13 rfl rfl ?_
  refine z_getR C 4 0 rfl in_Reach (by decide) w_179 rfl d_Reach_advance_14 hf (fun v9 hf => ?_)
  refine z_getI C 2 1 rfl in_Site (by decide) w_98 rfl d_Reach_advance_17 hf (fun v10 hf => ?_)
  refine z_ic_gt (tgt := 135) C d_Reach_advance_20 (by decide) hf (fun hf => ?_) (fun hf => ?_)
  · refine z_aload_n C 0 d_Reach_advance_135 rfl rfl ?_
    refine z_getR C 4 1 rfl in_Reach (by decide) w_180 rfl d_Reach_advance_136 hf (fun v11 hf => ?_)
    refine z_astore_n C (lv' := [(3, .ref v11), (0, .ref x0), (1, .int x1), (2, .int x2)]) d_Reach_advance_139 rfl (by decide) rfl ?_
    refine z_aload_n C 1 d_Reach_advance_140 rfl rfl ?_
    refine z_aload_n C 1 d_Reach_advance_141 rfl rfl ?_
    refine z_getR C 4 2 rfl in_Reach (by decide) w_181 rfl d_Reach_advance_142 hf (fun v12 hf => ?_)
    refine z_put C 4 1 ty_Reach rfl in_Reach tyok_Reach nm_Reach (by decide) w_180 rfl (Or.inl rfl) rfl rfl rfl d_Reach_advance_145 hf (fun h13 hf => ?_)
    refine z_aload_n C 1 d_Reach_advance_148 rfl rfl ?_
    refine z_aload_n C 0 d_Reach_advance_149 rfl rfl ?_
    refine z_put C 4 2 ty_Reach rfl in_Reach tyok_Reach nm_Reach (by decide) w_181 rfl (Or.inl rfl) rfl rfl rfl d_Reach_advance_150 hf (fun h14 hf => ?_)
    refine z_iload_n C 3 d_Reach_advance_153 rfl rfl ?_
    exact z_zret C E (Nat.le_of_ble_eq_true rfl) (Nat.le_of_ble_eq_true rfl) d_Reach_advance_154 hf
  · refine z_aload_n C 0 d_Reach_advance_23 rfl rfl ?_
    refine z_getR C 4 1 rfl in_Reach (by decide) w_180 rfl d_Reach_advance_24 hf (fun v15 hf => ?_)
    refine z_iload_n C 3 d_Reach_advance_27 rfl rfl ?_
    refine z_lald C d_Reach_advance_28 hf (fun v16 hf => ?_)
    refine z_lconst C (v := (0 : Int64)) d_Reach_advance_29 (by decide) ?_
    refine z_lcmp C d_Reach_advance_30 ?_
    refine z_if_ne (tgt := 38) C d_Reach_advance_31 (by decide) hf (fun hf => ?_) (fun hf => ?_)
    · refine z_aload_n C 0 d_Reach_advance_38 rfl rfl ?_
      refine z_aload_n C 0 d_Reach_advance_39 rfl rfl ?_
      refine z_getR C 4 1 rfl in_Reach (by decide) w_180 rfl d_Reach_advance_40 hf (fun v17 hf => ?_)
      refine z_iload_n C 3 d_Reach_advance_43 rfl rfl ?_
      refine z_lald C d_Reach_advance_44 hf (fun v18 hf => ?_)
      obtain ⟨p19, hc, hf⟩ := Option.bind_eq_some_iff.mp hf
      obtain ⟨hz, hc⟩ := zck_some hc
      refine z_callV C (ci := 4) (c_Reach_widened N C.2.2.1 hc) rfl hz w_387 w_62 w_384 w_386 w_3 pd_Reach_widened rfl ⟨(Nat.le_of_ble_eq_true rfl), (Nat.le_of_ble_eq_true rfl)⟩ ⟨(Nat.le_of_ble_eq_true rfl), (Nat.le_of_ble_eq_true rfl)⟩ rfl (Nat.le_of_ble_eq_true rfl) d_Reach_advance_45 (k' := 0) (n' := 0) (stk' := [.long p19.1]) rfl rfl rfl ?_
      refine z_sub [0, 1, 2, 3] rfl ?_
      exact k_Reach_advance_48 N C E H12 _ _ _ _ _ _ hf
    · refine z_lconst C (v := (0 : Int64)) d_Reach_advance_34 (by decide) ?_
      refine z_goto (tgt := 48) C d_Reach_advance_35 (by decide) ?_
      refine z_sub [0, 1, 2, 3] rfl ?_
      exact k_Reach_advance_48 N C E H12 _ _ _ _ _ _ hf

set_option maxHeartbeats 4000000 in
set_option maxRecDepth 100000 in
theorem k_Reach_advance (N : Nat) {X : zX} (C : zB X prog_4_method_4_code 10 R_Reach rm_Reach_advance) {h0 : zH} {p : Int32 × zH} (E : zR X (some .boolean) rm_Reach_advance h0 (some (.int p.1)) p.2) : ∀ (x0 : Nat) (x1 : Int32) (h : zH), f_Reach_advance N x0 x1 h = some p → Zt X 10 0 0 0 [(0, .ref x0), (1, .int x1)] [] h := by
  intro x0 x1 h hf
  unfold f_Reach_advance at hf
  refine z_aload_n C 0 d_Reach_advance_0 rfl rfl ?_
  refine z_getR C 4 2 rfl in_Reach (by decide) w_181 rfl d_Reach_advance_1 hf (fun v20 hf => ?_)
  refine z_lconst C (v := (0 : Int64)) d_Reach_advance_4 (by decide) ?_
  obtain ⟨p21, hc, hf⟩ := Option.bind_eq_some_iff.mp hf
  refine z_callS C (c_Arrays_fill_AJJV N C.2.2.1 hc) w_383 w_60 w_381 w_382 pd_Arrays_fill_AJJV rfl ⟨(Nat.le_of_ble_eq_true rfl), (Nat.le_of_ble_eq_true rfl)⟩ ⟨(Nat.le_of_ble_eq_true rfl), (Nat.le_of_ble_eq_true rfl)⟩ rfl (Nat.le_of_ble_eq_true rfl) d_Reach_advance_5 (k' := 0) (n' := 0) (stk' := []) rfl rfl rfl ?_
  refine z_iconst C (v := (0 : Int32)) d_Reach_advance_8 (by decide) ?_
  refine z_istore_n C (lv' := [(2, .int (0 : Int32)), (0, .ref x0), (1, .int x1)]) d_Reach_advance_9 rfl (by decide) rfl ?_
  refine z_iconst C (v := (0 : Int32)) d_Reach_advance_10 (by decide) ?_
  refine z_istore_n C (lv' := [(3, .int (0 : Int32)), (2, .int (0 : Int32)), (0, .ref x0), (1, .int x1)]) d_Reach_advance_11 rfl (by decide) rfl ?_
  refine z_sub [2, 3, 1, 0] rfl ?_
  exact k_Reach_advance_12 N C E N _ _ _ _ _ hf

theorem c_Reach_advance (N : Nat) {l : Launch} {D : va_G} {T : List (ClassId × FieldType)} (hT : T.map (fun q => q.2) = ztl) {x0 : Nat} {x1 : Int32} {h : zH} {p : Int32 × zH} (hf : f_Reach_advance N x0 x1 h = some p) : zM l y_Reach_advance prog_4_method_4_code 10 (some .boolean) rm_Reach_advance D T [.ref x0, .int x1] h (some (.int p.1)) p.2 :=
  z_enter (by decide) hT (Nat.le_of_ble_eq_true rfl) (fun X el eD eT hin C E => k_Reach_advance N C E x0 x1 h hf)
