/-! ===== LevelTablesModel.isInside(I)Z ===== -/
abbrev y_Model_isInside : MethodName := ⟨R_Model, "isInside", "(I)Z"⟩
theorem pd_Model_isInside : y_Model_isInside.cls ≠ "java/lang/invoke/MethodHandle" ∧ y_Model_isInside.cls ≠ "java/lang/invoke/VarHandle" ∧ (parseMethodDescriptor y_Model_isInside.desc).map (fun d => d.parameters.length) = some 1 := ⟨by decide +kernel, by decide +kernel, by decide +kernel⟩
abbrev rm_Model_isInside : Room := { frames := 1, cells := 0, slots := 0, locals := 23 }
def f_Model_isInside (N : Nat) (x0 : Nat) (x1 : Int32) (h : zH) : Option (Int32 × zH) :=
  (if x1 ≤ 0 then
    zrb (0 : Int32) h
  else
    Option.bind (zgI h x0 0 0) fun (v1 : Int32) =>
    (if v1 ≤ x1 then
      zrb (0 : Int32) h
    else
      Option.bind (zck (zis h x0 0) (f_Model_isSpanned N x0 (x1 - (1 : Int32)) h)) fun (p2 : Int32 × zH) =>
      (if p2.1 = 0 then
        zrb (0 : Int32) p2.2
      else
        Option.bind (zck (zis p2.2 x0 0) (f_Model_isSpanned N x0 x1 p2.2)) fun (p3 : Int32 × zH) =>
        (if p3.1 = 0 then
          zrb (0 : Int32) p3.2
        else
          Option.bind (zck (zis p3.2 x0 0) (f_Model_spanOf N x0 (x1 - (1 : Int32)) p3.2)) fun (p4 : Int32 × zH) =>
          Option.bind (zck (zis p4.2 x0 0) (f_Model_spanOf N x0 x1 p4.2)) fun (p5 : Int32 × zH) =>
          (if p4.1 = p5.1 then
            zrb (1 : Int32) p5.2
          else
            zrb (0 : Int32) p5.2)))))
theorem d_Model_isInside_0 : decode prog_10_method_43_code 0 = .ok (.iload_n (1), 1) := by decide +kernel
theorem d_Model_isInside_1 : decode prog_10_method_43_code 1 = .ok (.ifCond .le (48), 3) := by decide +kernel
theorem d_Model_isInside_4 : decode prog_10_method_43_code 4 = .ok (.iload_n (1), 1) := by decide +kernel
theorem d_Model_isInside_5 : decode prog_10_method_43_code 5 = .ok (.aload_n (0), 1) := by decide +kernel
theorem d_Model_isInside_6 : decode prog_10_method_43_code 6 = .ok (.getfield (89), 3) := by decide +kernel
theorem d_Model_isInside_9 : decode prog_10_method_43_code 9 = .ok (.if_icmp .ge (40), 3) := by decide +kernel
theorem d_Model_isInside_12 : decode prog_10_method_43_code 12 = .ok (.aload_n (0), 1) := by decide +kernel
theorem d_Model_isInside_13 : decode prog_10_method_43_code 13 = .ok (.iload_n (1), 1) := by decide +kernel
theorem d_Model_isInside_14 : decode prog_10_method_43_code 14 = .ok (.iconst (1), 1) := by decide +kernel
theorem d_Model_isInside_15 : decode prog_10_method_43_code 15 = .ok (.isub, 1) := by decide +kernel
theorem d_Model_isInside_16 : decode prog_10_method_43_code 16 = .ok (.invokevirtual (209), 3) := by decide +kernel
theorem d_Model_isInside_19 : decode prog_10_method_43_code 19 = .ok (.ifCond .eq (30), 3) := by decide +kernel
theorem d_Model_isInside_22 : decode prog_10_method_43_code 22 = .ok (.aload_n (0), 1) := by decide +kernel
theorem d_Model_isInside_23 : decode prog_10_method_43_code 23 = .ok (.iload_n (1), 1) := by decide +kernel
theorem d_Model_isInside_24 : decode prog_10_method_43_code 24 = .ok (.invokevirtual (209), 3) := by decide +kernel
theorem d_Model_isInside_27 : decode prog_10_method_43_code 27 = .ok (.ifCond .eq (22), 3) := by decide +kernel
theorem d_Model_isInside_30 : decode prog_10_method_43_code 30 = .ok (.aload_n (0), 1) := by decide +kernel
theorem d_Model_isInside_31 : decode prog_10_method_43_code 31 = .ok (.iload_n (1), 1) := by decide +kernel
theorem d_Model_isInside_32 : decode prog_10_method_43_code 32 = .ok (.iconst (1), 1) := by decide +kernel
theorem d_Model_isInside_33 : decode prog_10_method_43_code 33 = .ok (.isub, 1) := by decide +kernel
theorem d_Model_isInside_34 : decode prog_10_method_43_code 34 = .ok (.invokevirtual (221), 3) := by decide +kernel
theorem d_Model_isInside_37 : decode prog_10_method_43_code 37 = .ok (.aload_n (0), 1) := by decide +kernel
theorem d_Model_isInside_38 : decode prog_10_method_43_code 38 = .ok (.iload_n (1), 1) := by decide +kernel
theorem d_Model_isInside_39 : decode prog_10_method_43_code 39 = .ok (.invokevirtual (221), 3) := by decide +kernel
theorem d_Model_isInside_42 : decode prog_10_method_43_code 42 = .ok (.if_icmp .ne (7), 3) := by decide +kernel
theorem d_Model_isInside_45 : decode prog_10_method_43_code 45 = .ok (.iconst (1), 1) := by decide +kernel
theorem d_Model_isInside_46 : decode prog_10_method_43_code 46 = .ok (.goto (4), 3) := by decide +kernel
theorem d_Model_isInside_49 : decode prog_10_method_43_code 49 = .ok (.iconst (0), 1) := by decide +kernel
theorem d_Model_isInside_50 : decode prog_10_method_43_code 50 = .ok (.ireturn, 1) := by decide +kernel
set_option maxHeartbeats 4000000 in
set_option maxRecDepth 100000 in
theorem k_Model_isInside (N : Nat) {X : zX} (C : zB X prog_10_method_43_code 2 R_Model rm_Model_isInside) {h0 : zH} {p : Int32 × zH} (E : zR X (some .boolean) rm_Model_isInside h0 (some (.int p.1)) p.2) : ∀ (x0 : Nat) (x1 : Int32) (h : zH), f_Model_isInside N x0 x1 h = some p → Zt X 2 0 0 0 [(0, .ref x0), (1, .int x1)] [] h := by
  intro x0 x1 h hf
  unfold f_Model_isInside at hf
  refine z_iload_n C 1 d_Model_isInside_0 rfl rfl ?_
  refine z_if_le (tgt := 49) C d_Model_isInside_1 (by decide) hf (fun hf => ?_) (fun hf => ?_)
  · refine z_iconst C (v := (0 : Int32)) d_Model_isInside_49 (by decide) ?_
    exact z_zret C E (Nat.le_of_ble_eq_true rfl) (Nat.le_of_ble_eq_true rfl) d_Model_isInside_50 hf
  · refine z_iload_n C 1 d_Model_isInside_4 rfl rfl ?_
    refine z_aload_n C 0 d_Model_isInside_5 rfl rfl ?_
    refine z_getI C 0 0 rfl in_Model (by decide) w_741 rfl d_Model_isInside_6 hf (fun v1 hf => ?_)
    refine z_ic_ge (tgt := 49) C d_Model_isInside_9 (by decide) hf (fun hf => ?_) (fun hf => ?_)
    · refine z_iconst C (v := (0 : Int32)) d_Model_isInside_49 (by decide) ?_
      exact z_zret C E (Nat.le_of_ble_eq_true rfl) (Nat.le_of_ble_eq_true rfl) d_Model_isInside_50 hf
    · refine z_aload_n C 0 d_Model_isInside_12 rfl rfl ?_
      refine z_iload_n C 1 d_Model_isInside_13 rfl rfl ?_
      refine z_iconst C (v := (1 : Int32)) d_Model_isInside_14 (by decide) ?_
      refine z_isub C d_Model_isInside_15 ?_
      obtain ⟨p2, hc, hf⟩ := Option.bind_eq_some_iff.mp hf
      obtain ⟨hz, hc⟩ := zck_some hc
      refine z_callV C (ci := 0) (c_Model_isSpanned N C.2.2.1 hc) rfl hz w_995 w_66 w_992 w_994 w_51 pd_Model_isSpanned rfl ⟨(Nat.le_of_ble_eq_true rfl), (Nat.le_of_ble_eq_true rfl)⟩ ⟨(Nat.le_of_ble_eq_true rfl), (Nat.le_of_ble_eq_true rfl)⟩ rfl (Nat.le_of_ble_eq_true rfl) d_Model_isInside_16 (k' := 0) (n' := 0) (stk' := [.int p2.1]) rfl rfl rfl ?_
      refine z_if_eq (tgt := 49) C d_Model_isInside_19 (by decide) hf (fun hf => ?_) (fun hf => ?_)
      · refine z_iconst C (v := (0 : Int32)) d_Model_isInside_49 (by decide) ?_
        exact z_zret C E (Nat.le_of_ble_eq_true rfl) (Nat.le_of_ble_eq_true rfl) d_Model_isInside_50 hf
      · refine z_aload_n C 0 d_Model_isInside_22 rfl rfl ?_
        refine z_iload_n C 1 d_Model_isInside_23 rfl rfl ?_
        obtain ⟨p3, hc, hf⟩ := Option.bind_eq_some_iff.mp hf
        obtain ⟨hz, hc⟩ := zck_some hc
        refine z_callV C (ci := 0) (c_Model_isSpanned N C.2.2.1 hc) rfl hz w_995 w_66 w_992 w_994 w_51 pd_Model_isSpanned rfl ⟨(Nat.le_of_ble_eq_true rfl), (Nat.le_of_ble_eq_true rfl)⟩ ⟨(Nat.le_of_ble_eq_true rfl), (Nat.le_of_ble_eq_true rfl)⟩ rfl (Nat.le_of_ble_eq_true rfl) d_Model_isInside_24 (k' := 0) (n' := 0) (stk' := [.int p3.1]) rfl rfl rfl ?_
        refine z_if_eq (tgt := 49) C d_Model_isInside_27 (by decide) hf (fun hf => ?_) (fun hf => ?_)
        · refine z_iconst C (v := (0 : Int32)) d_Model_isInside_49 (by decide) ?_
          exact z_zret C E (Nat.le_of_ble_eq_true rfl) (Nat.le_of_ble_eq_true rfl) d_Model_isInside_50 hf
        · refine z_aload_n C 0 d_Model_isInside_30 rfl rfl ?_
          refine z_iload_n C 1 d_Model_isInside_31 rfl rfl ?_
          refine z_iconst C (v := (1 : Int32)) d_Model_isInside_32 (by decide) ?_
          refine z_isub C d_Model_isInside_33 ?_
          obtain ⟨p4, hc, hf⟩ := Option.bind_eq_some_iff.mp hf
          obtain ⟨hz, hc⟩ := zck_some hc
          refine z_callV C (ci := 0) (c_Model_spanOf N C.2.2.1 hc) rfl hz w_1030 w_66 w_1027 w_1029 w_55 pd_Model_spanOf rfl ⟨(Nat.le_of_ble_eq_true rfl), (Nat.le_of_ble_eq_true rfl)⟩ ⟨(Nat.le_of_ble_eq_true rfl), (Nat.le_of_ble_eq_true rfl)⟩ rfl (Nat.le_of_ble_eq_true rfl) d_Model_isInside_34 (k' := 0) (n' := 0) (stk' := [.int p4.1]) rfl rfl rfl ?_
          refine z_aload_n C 0 d_Model_isInside_37 rfl rfl ?_
          refine z_iload_n C 1 d_Model_isInside_38 rfl rfl ?_
          obtain ⟨p5, hc, hf⟩ := Option.bind_eq_some_iff.mp hf
          obtain ⟨hz, hc⟩ := zck_some hc
          refine z_callV C (ci := 0) (c_Model_spanOf N C.2.2.1 hc) rfl hz w_1030 w_66 w_1027 w_1029 w_55 pd_Model_spanOf rfl ⟨(Nat.le_of_ble_eq_true rfl), (Nat.le_of_ble_eq_true rfl)⟩ ⟨(Nat.le_of_ble_eq_true rfl), (Nat.le_of_ble_eq_true rfl)⟩ rfl (Nat.le_of_ble_eq_true rfl) d_Model_isInside_39 (k' := 0) (n' := 0) (stk' := [.int p5.1, .int p4.1]) rfl rfl rfl ?_
          refine z_ic_ne (tgt := 49) C d_Model_isInside_42 (by decide) hf (fun hf => ?_) (fun hf => ?_)
          · refine z_iconst C (v := (0 : Int32)) d_Model_isInside_49 (by decide) ?_
            exact z_zret C E (Nat.le_of_ble_eq_true rfl) (Nat.le_of_ble_eq_true rfl) d_Model_isInside_50 hf
          · refine z_iconst C (v := (1 : Int32)) d_Model_isInside_45 (by decide) ?_
            refine z_goto (tgt := 50) C d_Model_isInside_46 (by decide) ?_
            exact z_zret C E (Nat.le_of_ble_eq_true rfl) (Nat.le_of_ble_eq_true rfl) d_Model_isInside_50 hf

theorem c_Model_isInside (N : Nat) {l : Launch} {D : va_G} {T : List (ClassId × FieldType)} (hT : T.map (fun q => q.2) = ztl) {x0 : Nat} {x1 : Int32} {h : zH} {p : Int32 × zH} (hf : f_Model_isInside N x0 x1 h = some p) : zM l y_Model_isInside prog_10_method_43_code 2 (some .boolean) rm_Model_isInside D T [.ref x0, .int x1] h (some (.int p.1)) p.2 :=
  z_enter (by decide) hT (Nat.le_of_ble_eq_true rfl) (fun X el eD eT hin C E => k_Model_isInside N C E x0 x1 h hf)
/-! ===== LevelTablesModel.ground(II)Z ===== -/
abbrev y_Model_ground : MethodName := ⟨R_Model, "ground", "(II)Z"⟩
theorem pd_Model_ground : y_Model_ground.cls ≠ "java/lang/invoke/MethodHandle" ∧ y_Model_ground.cls ≠ "java/lang/invoke/VarHandle" ∧ (parseMethodDescriptor y_Model_ground.desc).map (fun d => d.parameters.length) = some 2 := ⟨by decide +kernel, by decide +kernel, by decide +kernel⟩
abbrev rm_Model_ground : Room := { frames := 2, cells := 0, slots := 0, locals := 41 }
def f_Model_ground (N : Nat) (x0 : Nat) (x1 : Int32) (x2 : Int32) (h : zH) : Option (Int32 × zH) :=
  Option.bind (zck (zis h x0 0) (f_Model_isPlace N x0 x1 h)) fun (p1 : Int32 × zH) =>
  (if p1.1 = 0 then
    zrb (0 : Int32) p1.2
  else
    Option.bind (zck (zis p1.2 x0 0) (f_Model_isLevel N x0 x2 p1.2)) fun (p2 : Int32 × zH) =>
    (if p2.1 = 0 then
      zrb (0 : Int32) p2.2
    else
      Option.bind (zgR p2.2 x0 0 2) fun (v3 : Nat) =>
      Option.bind (zsI p2.2 0 v3 x1 x2) fun (h4 : zH) =>
      Option.bind (zck (zis h4 x0 0) (f_Model_forget N x0  h4)) fun (p5 : Unit × zH) =>
      zrb (1 : Int32) p5.2))
theorem d_Model_ground_0 : decode prog_10_method_6_code 0 = .ok (.aload_n (0), 1) := by decide +kernel
theorem d_Model_ground_1 : decode prog_10_method_6_code 1 = .ok (.iload_n (1), 1) := by decide +kernel
theorem d_Model_ground_2 : decode prog_10_method_6_code 2 = .ok (.invokevirtual (105), 3) := by decide +kernel
theorem d_Model_ground_5 : decode prog_10_method_6_code 5 = .ok (.ifCond .eq (11), 3) := by decide +kernel
theorem d_Model_ground_8 : decode prog_10_method_6_code 8 = .ok (.aload_n (0), 1) := by decide +kernel
theorem d_Model_ground_9 : decode prog_10_method_6_code 9 = .ok (.iload_n (2), 1) := by decide +kernel
theorem d_Model_ground_10 : decode prog_10_method_6_code 10 = .ok (.invokevirtual (109), 3) := by decide +kernel
theorem d_Model_ground_13 : decode prog_10_method_6_code 13 = .ok (.ifCond .ne (5), 3) := by decide +kernel
theorem d_Model_ground_16 : decode prog_10_method_6_code 16 = .ok (.iconst (0), 1) := by decide +kernel
theorem d_Model_ground_17 : decode prog_10_method_6_code 17 = .ok (.ireturn, 1) := by decide +kernel
theorem d_Model_ground_18 : decode prog_10_method_6_code 18 = .ok (.aload_n (0), 1) := by decide +kernel
theorem d_Model_ground_19 : decode prog_10_method_6_code 19 = .ok (.getfield (7), 3) := by decide +kernel
theorem d_Model_ground_22 : decode prog_10_method_6_code 22 = .ok (.iload_n (1), 1) := by decide +kernel
theorem d_Model_ground_23 : decode prog_10_method_6_code 23 = .ok (.iload_n (2), 1) := by decide +kernel
theorem d_Model_ground_24 : decode prog_10_method_6_code 24 = .ok (.iastore, 1) := by decide +kernel
theorem d_Model_ground_25 : decode prog_10_method_6_code 25 = .ok (.aload_n (0), 1) := by decide +kernel
theorem d_Model_ground_26 : decode prog_10_method_6_code 26 = .ok (.invokevirtual (112), 3) := by decide +kernel
theorem d_Model_ground_29 : decode prog_10_method_6_code 29 = .ok (.iconst (1), 1) := by decide +kernel
theorem d_Model_ground_30 : decode prog_10_method_6_code 30 = .ok (.ireturn, 1) := by decide +kernel
set_option maxHeartbeats 4000000 in
set_option maxRecDepth 100000 in
theorem k_Model_ground (N : Nat) {X : zX} (C : zB X prog_10_method_6_code 3 R_Model rm_Model_ground) {h0 : zH} {p : Int32 × zH} (E : zR X (some .boolean) rm_Model_ground h0 (some (.int p.1)) p.2) : ∀ (x0 : Nat) (x1 : Int32) (x2 : Int32) (h : zH), f_Model_ground N x0 x1 x2 h = some p → Zt X 3 0 0 0 [(0, .ref x0), (1, .int x1), (2, .int x2)] [] h := by
  intro x0 x1 x2 h hf
  unfold f_Model_ground at hf
  refine z_aload_n C 0 d_Model_ground_0 rfl rfl ?_
  refine z_iload_n C 1 d_Model_ground_1 rfl rfl ?_
  obtain ⟨p1, hc, hf⟩ := Option.bind_eq_some_iff.mp hf
  obtain ⟨hz, hc⟩ := zck_some hc
  refine z_callV C (ci := 0) (c_Model_isPlace N C.2.2.1 hc) rfl hz w_855 w_66 w_852 w_854 w_32 pd_Model_isPlace rfl ⟨(Nat.le_of_ble_eq_true rfl), (Nat.le_of_ble_eq_true rfl)⟩ ⟨(Nat.le_of_ble_eq_true rfl), (Nat.le_of_ble_eq_true rfl)⟩ rfl (Nat.le_of_ble_eq_true rfl) d_Model_ground_2 (k' := 0) (n' := 0) (stk' := [.int p1.1]) rfl rfl rfl ?_
  refine z_if_eq (tgt := 16) C d_Model_ground_5 (by decide) hf (fun hf => ?_) (fun hf => ?_)
  · refine z_iconst C (v := (0 : Int32)) d_Model_ground_16 (by decide) ?_
    exact z_zret C E (Nat.le_of_ble_eq_true rfl) (Nat.le_of_ble_eq_true rfl) d_Model_ground_17 hf
  · refine z_aload_n C 0 d_Model_ground_8 rfl rfl ?_
    refine z_iload_n C 2 d_Model_ground_9 rfl rfl ?_
    obtain ⟨p2, hc, hf⟩ := Option.bind_eq_some_iff.mp hf
    obtain ⟨hz, hc⟩ := zck_some hc
    refine z_callV C (ci := 0) (c_Model_isLevel N C.2.2.1 hc) rfl hz w_859 w_66 w_856 w_858 w_33 pd_Model_isLevel rfl ⟨(Nat.le_of_ble_eq_true rfl), (Nat.le_of_ble_eq_true rfl)⟩ ⟨(Nat.le_of_ble_eq_true rfl), (Nat.le_of_ble_eq_true rfl)⟩ rfl (Nat.le_of_ble_eq_true rfl) d_Model_ground_10 (k' := 0) (n' := 0) (stk' := [.int p2.1]) rfl rfl rfl ?_
    refine z_if_ne (tgt := 18) C d_Model_ground_13 (by decide) hf (fun hf => ?_) (fun hf => ?_)
    · refine z_aload_n C 0 d_Model_ground_18 rfl rfl ?_
      refine z_getR C 0 2 rfl in_Model (by decide) w_743 rfl d_Model_ground_19 hf (fun v3 hf => ?_)
      refine z_iload_n C 1 d_Model_ground_22 rfl rfl ?_
      refine z_iload_n C 2 d_Model_ground_23 rfl rfl ?_
      refine z_iast C d_Model_ground_24 hf (fun h4 hf => ?_)
      refine z_aload_n C 0 d_Model_ground_25 rfl rfl ?_
      obtain ⟨p5, hc, hf⟩ := Option.bind_eq_some_iff.mp hf
      obtain ⟨hz, hc⟩ := zck_some hc
      refine z_callV C (ci := 0) (c_Model_forget N C.2.2.1 hc) rfl hz w_863 w_66 w_860 w_862 w_34 pd_Model_forget rfl ⟨(Nat.le_of_ble_eq_true rfl), (Nat.le_of_ble_eq_true rfl)⟩ ⟨(Nat.le_of_ble_eq_true rfl), (Nat.le_of_ble_eq_true rfl)⟩ rfl (Nat.le_of_ble_eq_true rfl) d_Model_ground_26 (k' := 0) (n' := 0) (stk' := []) rfl rfl rfl ?_
      refine z_iconst C (v := (1 : Int32)) d_Model_ground_29 (by decide) ?_
      exact z_zret C E (Nat.le_of_ble_eq_true rfl) (Nat.le_of_ble_eq_true rfl) d_Model_ground_30 hf
    · refine z_iconst C (v := (0 : Int32)) d_Model_ground_16 (by decide) ?_
      exact z_zret C E (Nat.le_of_ble_eq_true rfl) (Nat.le_of_ble_eq_true rfl) d_Model_ground_17 hf

theorem c_Model_ground (N : Nat) {l : Launch} {D : va_G} {T : List (ClassId × FieldType)} (hT : T.map (fun q => q.2) = ztl) {x0 : Nat} {x1 : Int32} {x2 : Int32} {h : zH} {p : Int32 × zH} (hf : f_Model_ground N x0 x1 x2 h = some p) : zM l y_Model_ground prog_10_method_6_code 3 (some .boolean) rm_Model_ground D T [.ref x0, .int x1, .int x2] h (some (.int p.1)) p.2 :=
  z_enter (by decide) hT (Nat.le_of_ble_eq_true rfl) (fun X el eD eT hin C E => k_Model_ground N C E x0 x1 x2 h hf)
/-! ===== LevelTablesModel.barred()I ===== -/
abbrev y_Model_barred : MethodName := ⟨R_Model, "barred", "()I"⟩
theorem pd_Model_barred : y_Model_barred.cls ≠ "java/lang/invoke/MethodHandle" ∧ y_Model_barred.cls ≠ "java/lang/invoke/VarHandle" ∧ (parseMethodDescriptor y_Model_barred.desc).map (fun d => d.parameters.length) = some 0 := ⟨by decide +kernel, by decide +kernel, by decide +kernel⟩
abbrev rm_Model_barred : Room := { frames := 2, cells := 0, slots := 0, locals := 43 }
def b_Model_barred_233 (N : Nat) (rc60 : Nat → Int32 → zH → Option (Int32 × zH)) (rc233 : Nat → Int32 → Int32 → zH → Option (Int32 × zH)) (x0 : Nat) (x1 : Int32) (x3 : Int32) (h : zH) : Option (Int32 × zH) :=
  (if (1250 : Int32) ≤ x3 then
    rc60 x0 (x1 + (1 : Int32)) h
  else
    Option.bind (zgR h x0 0 22) fun (v1 : Nat) =>
    Option.bind (zgR h x0 0 23) fun (v2 : Nat) =>
    Option.bind (zaI h 2 v2 x3) fun (v3 : Int32) =>
    Option.bind (zsZ h v1 x3 v3) fun (h4 : zH) =>
    rc233 x0 x1 (x3 + (1 : Int32)) h4)
def f_Model_barred_233 (N : Nat) (rc60 : Nat → Int32 → zH → Option (Int32 × zH)) : Nat → Nat → Int32 → Int32 → zH → Option (Int32 × zH)
  | 0 => fun _ _ _ _ => none
  | n + 1 => fun x0 x1 x3 h => b_Model_barred_233 N rc60 (f_Model_barred_233 N rc60 n) x0 x1 x3 h
def f_Model_barred_225 (N : Nat) (rc60 : Nat → Int32 → zH → Option (Int32 × zH)) (rc136 : Nat → Int32 → Int32 → zH → Option (Int32 × zH)) (x0 : Nat) (x1 : Int32) (x3 : Int32) (h : zH) : Option (Int32 × zH) :=
  rc136 x0 x1 (x3 + (1 : Int32)) h
def f_Model_barred_219 (N : Nat) (rc60 : Nat → Int32 → zH → Option (Int32 × zH)) (rc136 : Nat → Int32 → Int32 → zH → Option (Int32 × zH)) (rc150 : Nat → Int32 → Int32 → Int32 → zH → Option (Int32 × zH)) (x0 : Nat) (x1 : Int32) (x3 : Int32) (x4 : Int32) (h : zH) : Option (Int32 × zH) :=
  rc150 x0 x1 x3 (x4 + (1 : Int32)) h
def b_Model_barred_150 (N : Nat) (rc60 : Nat → Int32 → zH → Option (Int32 × zH)) (rc136 : Nat → Int32 → Int32 → zH → Option (Int32 × zH)) (rc150 : Nat → Int32 → Int32 → Int32 → zH → Option (Int32 × zH)) (x0 : Nat) (x1 : Int32) (x3 : Int32) (x4 : Int32) (h : zH) : Option (Int32 × zH) :=
  Option.bind (zgI h x0 0 7) fun (v5 : Int32) =>
  (if v5 < x4 then
    f_Model_barred_225 N rc60 rc136 x0 x1 x3 h
  else
    Option.bind (zgR h x0 0 22) fun (v6 : Nat) =>
    Option.bind (zaI h 2 v6 x3) fun (v7 : Int32) =>
    (if v7 = 0 then
      f_Model_barred_225 N rc60 rc136 x0 x1 x3 h
    else
      Option.bind (zck (zis h x0 0) (f_Model_follows N x0 x4 (x3 - x3 / (50 : Int32) * (50 : Int32)) h)) fun (p8 : Int32 × zH) =>
      (if p8.1 = 0 then
        f_Model_barred_219 N rc60 rc136 rc150 x0 x1 x3 x4 p8.2
      else
        Option.bind (zck (zis p8.2 x0 0) (f_Model_may N x0 (x1 + (1 : Int32)) ((x3 / (50 : Int32)) + x4) p8.2)) fun (p9 : Int32 × zH) =>
        (if p9.1 = 0 then
          f_Model_barred_219 N rc60 rc136 rc150 x0 x1 x3 x4 p9.2
        else
          Option.bind (zgR p9.2 x0 0 23) fun (v10 : Nat) =>
          Option.bind (zsZ p9.2 v10 ((((50 : Int32) * ((x3 / (50 : Int32)) + x4)) + x4) + (24 : Int32)) (1 : Int32)) fun (h11 : zH) =>
          f_Model_barred_219 N rc60 rc136 rc150 x0 x1 x3 x4 h11))))
def f_Model_barred_150 (N : Nat) (rc60 : Nat → Int32 → zH → Option (Int32 × zH)) (rc136 : Nat → Int32 → Int32 → zH → Option (Int32 × zH)) : Nat → Nat → Int32 → Int32 → Int32 → zH → Option (Int32 × zH)
  | 0 => fun _ _ _ _ _ => none
  | n + 1 => fun x0 x1 x3 x4 h => b_Model_barred_150 N rc60 rc136 (f_Model_barred_150 N rc60 rc136 n) x0 x1 x3 x4 h
def b_Model_barred_136 (N : Nat) (rc60 : Nat → Int32 → zH → Option (Int32 × zH)) (rc136 : Nat → Int32 → Int32 → zH → Option (Int32 × zH)) (x0 : Nat) (x1 : Int32) (x3 : Int32) (h : zH) : Option (Int32 × zH) :=
  (if (1250 : Int32) ≤ x3 then
    f_Model_barred_233 N rc60 N x0 x1 (0 : Int32) h
  else
    Option.bind (zgI h x0 0 7) fun (v12 : Int32) =>
    f_Model_barred_150 N rc60 rc136 N x0 x1 x3 (-v12) h)
def f_Model_barred_136 (N : Nat) (rc60 : Nat → Int32 → zH → Option (Int32 × zH)) : Nat → Nat → Int32 → Int32 → zH → Option (Int32 × zH)
  | 0 => fun _ _ _ _ => none
  | n + 1 => fun x0 x1 x3 h => b_Model_barred_136 N rc60 (f_Model_barred_136 N rc60 n) x0 x1 x3 h
def b_Model_barred_114 (N : Nat) (rc60 : Nat → Int32 → zH → Option (Int32 × zH)) (rc114 : Nat → Int32 → Int32 → zH → Option (Int32 × zH)) (x0 : Nat) (x1 : Int32) (x3 : Int32) (h : zH) : Option (Int32 × zH) :=
  (if (1250 : Int32) ≤ x3 then
    f_Model_barred_136 N rc60 N x0 x1 (0 : Int32) h
  else
    Option.bind (zgR h x0 0 23) fun (v13 : Nat) =>
    Option.bind (zsZ h v13 x3 (0 : Int32)) fun (h14 : zH) =>
    rc114 x0 x1 (x3 + (1 : Int32)) h14)
def f_Model_barred_114 (N : Nat) (rc60 : Nat → Int32 → zH → Option (Int32 × zH)) : Nat → Nat → Int32 → Int32 → zH → Option (Int32 × zH)
  | 0 => fun _ _ _ _ => none
  | n + 1 => fun x0 x1 x3 h => b_Model_barred_114 N rc60 (f_Model_barred_114 N rc60 n) x0 x1 x3 h
def f_Model_barred_89 (N : Nat) (rc60 : Nat → Int32 → zH → Option (Int32 × zH)) (rc64 : Nat → Int32 → Int32 → Int32 → zH → Option (Int32 × zH)) (x0 : Nat) (x1 : Int32) (x3 : Int32) (s0 : Int32) (h : zH) : Option (Int32 × zH) :=
  rc64 x0 x1 s0 (x3 + (1 : Int32)) h
def f_Model_barred_84 (N : Nat) (rc60 : Nat → Int32 → zH → Option (Int32 × zH)) (rc64 : Nat → Int32 → Int32 → Int32 → zH → Option (Int32 × zH)) (x0 : Nat) (x1 : Int32) (x3 : Int32) (h : zH) : Option (Int32 × zH) :=
  f_Model_barred_89 N rc60 rc64 x0 x1 x3 (1 : Int32) h
def b_Model_barred_64 (N : Nat) (rc60 : Nat → Int32 → zH → Option (Int32 × zH)) (rc64 : Nat → Int32 → Int32 → Int32 → zH → Option (Int32 × zH)) (x0 : Nat) (x1 : Int32) (x2 : Int32) (x3 : Int32) (h : zH) : Option (Int32 × zH) :=
  (if (1250 : Int32) ≤ x3 then
    (if x2 = 0 then
      some (x1, h)
    else
      Option.bind (zgI h x0 0 0) fun (v15 : Int32) =>
      (if x1 = v15 then
        some ((-1 : Int32), h)
      else
        f_Model_barred_114 N rc60 N x0 x1 (0 : Int32) h))
  else
    (if x2 = 0 then
      Option.bind (zgR h x0 0 22) fun (v16 : Nat) =>
      Option.bind (zaI h 2 v16 x3) fun (v17 : Int32) =>
      (if v17 = 0 then
        f_Model_barred_89 N rc60 rc64 x0 x1 x3 (0 : Int32) h
      else
        f_Model_barred_84 N rc60 rc64 x0 x1 x3 h)
    else
      f_Model_barred_84 N rc60 rc64 x0 x1 x3 h))
def f_Model_barred_64 (N : Nat) (rc60 : Nat → Int32 → zH → Option (Int32 × zH)) : Nat → Nat → Int32 → Int32 → Int32 → zH → Option (Int32 × zH)
  | 0 => fun _ _ _ _ _ => none
  | n + 1 => fun x0 x1 x2 x3 h => b_Model_barred_64 N rc60 (f_Model_barred_64 N rc60 n) x0 x1 x2 x3 h
def b_Model_barred_60 (N : Nat) (rc60 : Nat → Int32 → zH → Option (Int32 × zH)) (x0 : Nat) (x1 : Int32) (h : zH) : Option (Int32 × zH) :=
  f_Model_barred_64 N rc60 N x0 x1 (0 : Int32) (0 : Int32) h
def f_Model_barred_60 (N : Nat) : Nat → Nat → Int32 → zH → Option (Int32 × zH)
  | 0 => fun _ _ _ => none
  | n + 1 => fun x0 x1 h => b_Model_barred_60 N (f_Model_barred_60 N n) x0 x1 h
def f_Model_barred_51 (N : Nat) (rc2 : Nat → Int32 → zH → Option (Int32 × zH)) (x0 : Nat) (x1 : Int32) (s0 : Nat) (s1 : Int32) (s2 : Int32) (h : zH) : Option (Int32 × zH) :=
  Option.bind (zsZ h s0 s1 s2) fun (h18 : zH) =>
  rc2 x0 (x1 + (1 : Int32)) h18
def f_Model_barred_50 (N : Nat) (rc2 : Nat → Int32 → zH → Option (Int32 × zH)) (x0 : Nat) (x1 : Int32) (s0 : Nat) (s1 : Int32) (h : zH) : Option (Int32 × zH) :=
  f_Model_barred_51 N rc2 x0 x1 s0 s1 (0 : Int32) h
def b_Model_barred_2 (N : Nat) (rc2 : Nat → Int32 → zH → Option (Int32 × zH)) (x0 : Nat) (x1 : Int32) (h : zH) : Option (Int32 × zH) :=
  (if (1250 : Int32) ≤ x1 then
    f_Model_barred_60 N N x0 (0 : Int32) h
  else
    Option.bind (zgR h x0 0 22) fun (v19 : Nat) =>
    (if (x1 - x1 / (50 : Int32) * (50 : Int32)) = (49 : Int32) then
      Option.bind (zgI h x0 0 1) fun (v20 : Int32) =>
      (if v20 < (x1 / (50 : Int32)) then
        f_Model_barred_50 N rc2 x0 x1 v19 x1 h
      else
        Option.bind (zck (zis h x0 0) (f_Model_may N x0 (0 : Int32) (x1 / (50 : Int32)) h)) fun (p21 : Int32 × zH) =>
        (if p21.1 = 0 then
          f_Model_barred_50 N rc2 x0 x1 v19 x1 p21.2
        else
          f_Model_barred_51 N rc2 x0 x1 v19 x1 (1 : Int32) p21.2))
    else
      f_Model_barred_50 N rc2 x0 x1 v19 x1 h))
def f_Model_barred_2 (N : Nat) : Nat → Nat → Int32 → zH → Option (Int32 × zH)
  | 0 => fun _ _ _ => none
  | n + 1 => fun x0 x1 h => b_Model_barred_2 N (f_Model_barred_2 N n) x0 x1 h
def f_Model_barred (N : Nat) (x0 : Nat) (h : zH) : Option (Int32 × zH) :=
  f_Model_barred_2 N N x0 (0 : Int32) h
theorem d_Model_barred_0 : decode prog_10_method_25_code 0 = .ok (.iconst (0), 1) := by decide +kernel
theorem d_Model_barred_1 : decode prog_10_method_25_code 1 = .ok (.istore_n (1), 1) := by decide +kernel
theorem d_Model_barred_2 : decode prog_10_method_25_code 2 = .ok (.iload_n (1), 1) := by decide +kernel
theorem d_Model_barred_3 : decode prog_10_method_25_code 3 = .ok (.sipush (1250), 3) := by decide +kernel
theorem d_Model_barred_6 : decode prog_10_method_25_code 6 = .ok (.if_icmp .ge (52), 3) := by decide +kernel
theorem d_Model_barred_9 : decode prog_10_method_25_code 9 = .ok (.aload_n (0), 1) := by decide +kernel
theorem d_Model_barred_10 : decode prog_10_method_25_code 10 = .ok (.getfield (61), 3) := by decide +kernel
theorem d_Model_barred_13 : decode prog_10_method_25_code 13 = .ok (.iload_n (1), 1) := by decide +kernel
theorem d_Model_barred_14 : decode prog_10_method_25_code 14 = .ok (.iload_n (1), 1) := by decide +kernel
theorem d_Model_barred_15 : decode prog_10_method_25_code 15 = .ok (.bipush (50), 2) := by decide +kernel
theorem d_Model_barred_17 : decode prog_10_method_25_code 17 = .ok (.irem, 1) := by decide +kernel
theorem d_Model_barred_18 : decode prog_10_method_25_code 18 = .ok (.bipush (49), 2) := by decide +kernel
theorem d_Model_barred_20 : decode prog_10_method_25_code 20 = .ok (.if_icmp .ne (30), 3) := by decide +kernel
theorem d_Model_barred_23 : decode prog_10_method_25_code 23 = .ok (.iload_n (1), 1) := by decide +kernel
theorem d_Model_barred_24 : decode prog_10_method_25_code 24 = .ok (.bipush (50), 2) := by decide +kernel
theorem d_Model_barred_26 : decode prog_10_method_25_code 26 = .ok (.idiv, 1) := by decide +kernel
theorem d_Model_barred_27 : decode prog_10_method_25_code 27 = .ok (.aload_n (0), 1) := by decide +kernel
theorem d_Model_barred_28 : decode prog_10_method_25_code 28 = .ok (.getfield (92), 3) := by decide +kernel
theorem d_Model_barred_31 : decode prog_10_method_25_code 31 = .ok (.if_icmp .gt (19), 3) := by decide +kernel
theorem d_Model_barred_34 : decode prog_10_method_25_code 34 = .ok (.aload_n (0), 1) := by decide +kernel
theorem d_Model_barred_35 : decode prog_10_method_25_code 35 = .ok (.iconst (0), 1) := by decide +kernel
theorem d_Model_barred_36 : decode prog_10_method_25_code 36 = .ok (.iload_n (1), 1) := by decide +kernel
theorem d_Model_barred_37 : decode prog_10_method_25_code 37 = .ok (.bipush (50), 2) := by decide +kernel
theorem d_Model_barred_39 : decode prog_10_method_25_code 39 = .ok (.idiv, 1) := by decide +kernel
theorem d_Model_barred_40 : decode prog_10_method_25_code 40 = .ok (.invokevirtual (133), 3) := by decide +kernel
theorem d_Model_barred_43 : decode prog_10_method_25_code 43 = .ok (.ifCond .eq (7), 3) := by decide +kernel
theorem d_Model_barred_46 : decode prog_10_method_25_code 46 = .ok (.iconst (1), 1) := by decide +kernel
theorem d_Model_barred_47 : decode prog_10_method_25_code 47 = .ok (.goto (4), 3) := by decide +kernel
theorem d_Model_barred_50 : decode prog_10_method_25_code 50 = .ok (.iconst (0), 1) := by decide +kernel
theorem d_Model_barred_51 : decode prog_10_method_25_code 51 = .ok (.bastore, 1) := by decide +kernel
theorem d_Model_barred_52 : decode prog_10_method_25_code 52 = .ok (.iinc (1) (1), 3) := by decide +kernel
theorem d_Model_barred_55 : decode prog_10_method_25_code 55 = .ok (.goto (-53), 3) := by decide +kernel
theorem d_Model_barred_58 : decode prog_10_method_25_code 58 = .ok (.iconst (0), 1) := by decide +kernel
theorem d_Model_barred_59 : decode prog_10_method_25_code 59 = .ok (.istore_n (1), 1) := by decide +kernel
theorem d_Model_barred_60 : decode prog_10_method_25_code 60 = .ok (.iconst (0), 1) := by decide +kernel
theorem d_Model_barred_61 : decode prog_10_method_25_code 61 = .ok (.istore_n (2), 1) := by decide +kernel
theorem d_Model_barred_62 : decode prog_10_method_25_code 62 = .ok (.iconst (0), 1) := by decide +kernel
theorem d_Model_barred_63 : decode prog_10_method_25_code 63 = .ok (.istore_n (3), 1) := by decide +kernel
theorem d_Model_barred_64 : decode prog_10_method_25_code 64 = .ok (.iload_n (3), 1) := by decide +kernel
theorem d_Model_barred_65 : decode prog_10_method_25_code 65 = .ok (.sipush (1250), 3) := by decide +kernel
theorem d_Model_barred_68 : decode prog_10_method_25_code 68 = .ok (.if_icmp .ge (28), 3) := by decide +kernel
theorem d_Model_barred_71 : decode prog_10_method_25_code 71 = .ok (.iload_n (2), 1) := by decide +kernel
theorem d_Model_barred_72 : decode prog_10_method_25_code 72 = .ok (.ifCond .ne (12), 3) := by decide +kernel
theorem d_Model_barred_75 : decode prog_10_method_25_code 75 = .ok (.aload_n (0), 1) := by decide +kernel
theorem d_Model_barred_76 : decode prog_10_method_25_code 76 = .ok (.getfield (61), 3) := by decide +kernel
theorem d_Model_barred_79 : decode prog_10_method_25_code 79 = .ok (.iload_n (3), 1) := by decide +kernel
theorem d_Model_barred_80 : decode prog_10_method_25_code 80 = .ok (.baload, 1) := by decide +kernel
theorem d_Model_barred_81 : decode prog_10_method_25_code 81 = .ok (.ifCond .eq (7), 3) := by decide +kernel
theorem d_Model_barred_84 : decode prog_10_method_25_code 84 = .ok (.iconst (1), 1) := by decide +kernel
theorem d_Model_barred_85 : decode prog_10_method_25_code 85 = .ok (.goto (4), 3) := by decide +kernel
theorem d_Model_barred_88 : decode prog_10_method_25_code 88 = .ok (.iconst (0), 1) := by decide +kernel
theorem d_Model_barred_89 : decode prog_10_method_25_code 89 = .ok (.istore_n (2), 1) := by decide +kernel
theorem d_Model_barred_90 : decode prog_10_method_25_code 90 = .ok (.iinc (3) (1), 3) := by decide +kernel
theorem d_Model_barred_93 : decode prog_10_method_25_code 93 = .ok (.goto (-29), 3) := by decide +kernel
theorem d_Model_barred_96 : decode prog_10_method_25_code 96 = .ok (.iload_n (2), 1) := by decide +kernel
theorem d_Model_barred_97 : decode prog_10_method_25_code 97 = .ok (.ifCond .ne (5), 3) := by decide +kernel
theorem d_Model_barred_100 : decode prog_10_method_25_code 100 = .ok (.iload_n (1), 1) := by decide +kernel
theorem d_Model_barred_101 : decode prog_10_method_25_code 101 = .ok (.ireturn, 1) := by decide +kernel
theorem d_Model_barred_102 : decode prog_10_method_25_code 102 = .ok (.iload_n (1), 1) := by decide +kernel
theorem d_Model_barred_103 : decode prog_10_method_25_code 103 = .ok (.aload_n (0), 1) := by decide +kernel
theorem d_Model_barred_104 : decode prog_10_method_25_code 104 = .ok (.getfield (89), 3) := by decide +kernel
theorem d_Model_barred_107 : decode prog_10_method_25_code 107 = .ok (.if_icmp .ne (5), 3) := by decide +kernel
theorem d_Model_barred_110 : decode prog_10_method_25_code 110 = .ok (.iconst (-1), 1) := by decide +kernel
theorem d_Model_barred_111 : decode prog_10_method_25_code 111 = .ok (.ireturn, 1) := by decide +kernel
theorem d_Model_barred_112 : decode prog_10_method_25_code 112 = .ok (.iconst (0), 1) := by decide +kernel
theorem d_Model_barred_113 : decode prog_10_method_25_code 113 = .ok (.istore_n (3), 1) := by decide +kernel
theorem d_Model_barred_114 : decode prog_10_method_25_code 114 = .ok (.iload_n (3), 1) := by decide +kernel
theorem d_Model_barred_115 : decode prog_10_method_25_code 115 = .ok (.sipush (1250), 3) := by decide +kernel
theorem d_Model_barred_118 : decode prog_10_method_25_code 118 = .ok (.if_icmp .ge (16), 3) := by decide +kernel
theorem d_Model_barred_121 : decode prog_10_method_25_code 121 = .ok (.aload_n (0), 1) := by decide +kernel
theorem d_Model_barred_122 : decode prog_10_method_25_code 122 = .ok (.getfield (65), 3) := by decide +kernel
theorem d_Model_barred_125 : decode prog_10_method_25_code 125 = .ok (.iload_n (3), 1) := by decide +kernel
theorem d_Model_barred_126 : decode prog_10_method_25_code 126 = .ok (.iconst (0), 1) := by decide +kernel
theorem d_Model_barred_127 : decode prog_10_method_25_code 127 = .ok (.bastore, 1) := by decide +kernel
theorem d_Model_barred_128 : decode prog_10_method_25_code 128 = .ok (.iinc (3) (1), 3) := by decide +kernel
theorem d_Model_barred_131 : decode prog_10_method_25_code 131 = .ok (.goto (-17), 3) := by decide +kernel
theorem d_Model_barred_134 : decode prog_10_method_25_code 134 = .ok (.iconst (0), 1) := by decide +kernel
theorem d_Model_barred_135 : decode prog_10_method_25_code 135 = .ok (.istore_n (3), 1) := by decide +kernel
theorem d_Model_barred_136 : decode prog_10_method_25_code 136 = .ok (.iload_n (3), 1) := by decide +kernel
theorem d_Model_barred_137 : decode prog_10_method_25_code 137 = .ok (.sipush (1250), 3) := by decide +kernel
theorem d_Model_barred_140 : decode prog_10_method_25_code 140 = .ok (.if_icmp .ge (91), 3) := by decide +kernel
theorem d_Model_barred_143 : decode prog_10_method_25_code 143 = .ok (.aload_n (0), 1) := by decide +kernel
theorem d_Model_barred_144 : decode prog_10_method_25_code 144 = .ok (.getfield (25), 3) := by decide +kernel
theorem d_Model_barred_147 : decode prog_10_method_25_code 147 = .ok (.ineg, 1) := by decide +kernel
theorem d_Model_barred_148 : decode prog_10_method_25_code 148 = .ok (.istore (4), 2) := by decide +kernel
theorem d_Model_barred_150 : decode prog_10_method_25_code 150 = .ok (.iload (4), 2) := by decide +kernel
theorem d_Model_barred_152 : decode prog_10_method_25_code 152 = .ok (.aload_n (0), 1) := by decide +kernel
theorem d_Model_barred_153 : decode prog_10_method_25_code 153 = .ok (.getfield (25), 3) := by decide +kernel
theorem d_Model_barred_156 : decode prog_10_method_25_code 156 = .ok (.if_icmp .gt (69), 3) := by decide +kernel
theorem d_Model_barred_159 : decode prog_10_method_25_code 159 = .ok (.aload_n (0), 1) := by decide +kernel
theorem d_Model_barred_160 : decode prog_10_method_25_code 160 = .ok (.getfield (61), 3) := by decide +kernel
theorem d_Model_barred_163 : decode prog_10_method_25_code 163 = .ok (.iload_n (3), 1) := by decide +kernel
theorem d_Model_barred_164 : decode prog_10_method_25_code 164 = .ok (.baload, 1) := by decide +kernel
theorem d_Model_barred_165 : decode prog_10_method_25_code 165 = .ok (.ifCond .eq (60), 3) := by decide +kernel
theorem d_Model_barred_168 : decode prog_10_method_25_code 168 = .ok (.iload_n (3), 1) := by decide +kernel
theorem d_Model_barred_169 : decode prog_10_method_25_code 169 = .ok (.bipush (50), 2) := by decide +kernel
theorem d_Model_barred_171 : decode prog_10_method_25_code 171 = .ok (.idiv, 1) := by decide +kernel
theorem d_Model_barred_172 : decode prog_10_method_25_code 172 = .ok (.iload (4), 2) := by decide +kernel
theorem d_Model_barred_174 : decode prog_10_method_25_code 174 = .ok (.iadd, 1) := by decide +kernel
theorem d_Model_barred_175 : decode prog_10_method_25_code 175 = .ok (.istore (5), 2) := by decide +kernel
theorem d_Model_barred_177 : decode prog_10_method_25_code 177 = .ok (.aload_n (0), 1) := by decide +kernel
theorem d_Model_barred_178 : decode prog_10_method_25_code 178 = .ok (.iload (4), 2) := by decide +kernel
theorem d_Model_barred_180 : decode prog_10_method_25_code 180 = .ok (.iload_n (3), 1) := by decide +kernel
theorem d_Model_barred_181 : decode prog_10_method_25_code 181 = .ok (.bipush (50), 2) := by decide +kernel
theorem d_Model_barred_183 : decode prog_10_method_25_code 183 = .ok (.irem, 1) := by decide +kernel
theorem d_Model_barred_184 : decode prog_10_method_25_code 184 = .ok (.invokevirtual (142), 3) := by decide +kernel
theorem d_Model_barred_187 : decode prog_10_method_25_code 187 = .ok (.ifCond .eq (32), 3) := by decide +kernel
theorem d_Model_barred_190 : decode prog_10_method_25_code 190 = .ok (.aload_n (0), 1) := by decide +kernel
theorem d_Model_barred_191 : decode prog_10_method_25_code 191 = .ok (.iload_n (1), 1) := by decide +kernel
theorem d_Model_barred_192 : decode prog_10_method_25_code 192 = .ok (.iconst (1), 1) := by decide +kernel
theorem d_Model_barred_193 : decode prog_10_method_25_code 193 = .ok (.iadd, 1) := by decide +kernel
theorem d_Model_barred_194 : decode prog_10_method_25_code 194 = .ok (.iload (5), 2) := by decide +kernel
theorem d_Model_barred_196 : decode prog_10_method_25_code 196 = .ok (.invokevirtual (133), 3) := by decide +kernel
theorem d_Model_barred_199 : decode prog_10_method_25_code 199 = .ok (.ifCond .eq (20), 3) := by decide +kernel
theorem d_Model_barred_202 : decode prog_10_method_25_code 202 = .ok (.aload_n (0), 1) := by decide +kernel
theorem d_Model_barred_203 : decode prog_10_method_25_code 203 = .ok (.getfield (65), 3) := by decide +kernel
theorem d_Model_barred_206 : decode prog_10_method_25_code 206 = .ok (.bipush (50), 2) := by decide +kernel
theorem d_Model_barred_208 : decode prog_10_method_25_code 208 = .ok (.iload (5), 2) := by decide +kernel
theorem d_Model_barred_210 : decode prog_10_method_25_code 210 = .ok (.imul, 1) := by decide +kernel
theorem d_Model_barred_211 : decode prog_10_method_25_code 211 = .ok (.iload (4), 2) := by decide +kernel
theorem d_Model_barred_213 : decode prog_10_method_25_code 213 = .ok (.iadd, 1) := by decide +kernel
theorem d_Model_barred_214 : decode prog_10_method_25_code 214 = .ok (.bipush (24), 2) := by decide +kernel
theorem d_Model_barred_216 : decode prog_10_method_25_code 216 = .ok (.iadd, 1) := by decide +kernel
theorem d_Model_barred_217 : decode prog_10_method_25_code 217 = .ok (.iconst (1), 1) := by decide +kernel
theorem d_Model_barred_218 : decode prog_10_method_25_code 218 = .ok (.bastore, 1) := by decide +kernel
theorem d_Model_barred_219 : decode prog_10_method_25_code 219 = .ok (.iinc (4) (1), 3) := by decide +kernel
theorem d_Model_barred_222 : decode prog_10_method_25_code 222 = .ok (.goto (-72), 3) := by decide +kernel
theorem d_Model_barred_225 : decode prog_10_method_25_code 225 = .ok (.iinc (3) (1), 3) := by decide +kernel
theorem d_Model_barred_228 : decode prog_10_method_25_code 228 = .ok (.goto (-92), 3) := by decide +kernel
theorem d_Model_barred_231 : decode prog_10_method_25_code 231 = .ok (.iconst (0), 1) := by decide +kernel
theorem d_Model_barred_232 : decode prog_10_method_25_code 232 = .ok (.istore_n (3), 1) := by decide +kernel
theorem d_Model_barred_233 : decode prog_10_method_25_code 233 = .ok (.iload_n (3), 1) := by decide +kernel
theorem d_Model_barred_234 : decode prog_10_method_25_code 234 = .ok (.sipush (1250), 3) := by decide +kernel
theorem d_Model_barred_237 : decode prog_10_method_25_code 237 = .ok (.if_icmp .ge (21), 3) := by decide +kernel
theorem d_Model_barred_240 : decode prog_10_method_25_code 240 = .ok (.aload_n (0), 1) := by decide +kernel
theorem d_Model_barred_241 : decode prog_10_method_25_code 241 = .ok (.getfield (61), 3) := by decide +kernel
theorem d_Model_barred_244 : decode prog_10_method_25_code 244 = .ok (.iload_n (3), 1) := by decide +kernel
theorem d_Model_barred_245 : decode prog_10_method_25_code 245 = .ok (.aload_n (0), 1) := by decide +kernel
theorem d_Model_barred_246 : decode prog_10_method_25_code 246 = .ok (.getfield (65), 3) := by decide +kernel
theorem d_Model_barred_249 : decode prog_10_method_25_code 249 = .ok (.iload_n (3), 1) := by decide +kernel
theorem d_Model_barred_250 : decode prog_10_method_25_code 250 = .ok (.baload, 1) := by decide +kernel
theorem d_Model_barred_251 : decode prog_10_method_25_code 251 = .ok (.bastore, 1) := by decide +kernel
theorem d_Model_barred_252 : decode prog_10_method_25_code 252 = .ok (.iinc (3) (1), 3) := by decide +kernel
theorem d_Model_barred_255 : decode prog_10_method_25_code 255 = .ok (.goto (-22), 3) := by decide +kernel
theorem d_Model_barred_258 : decode prog_10_method_25_code 258 = .ok (.iinc (1) (1), 3) := by decide +kernel
theorem d_Model_barred_261 : decode prog_10_method_25_code 261 = .ok (.goto (-201), 3) := by decide +kernel
set_option maxHeartbeats 4000000 in
set_option maxRecDepth 100000 in
theorem k_Model_barred_233 (N : Nat) {X : zX} (C : zB X prog_10_method_25_code 6 R_Model rm_Model_barred) {h0 : zH} {p : Int32 × zH} (E : zR X (some .int) rm_Model_barred h0 (some (.int p.1)) p.2) {rc60 : Nat → Int32 → zH → Option (Int32 × zH)} (H60 : ∀ (x0 : Nat) (x1 : Int32) (h : zH), rc60 x0 x1 h = some p → Zt X 6 0 0 60 [(0, .ref x0), (1, .int x1)] [] h) : ∀ n : Nat, ∀ (x0 : Nat) (x1 : Int32) (x3 : Int32) (h : zH), f_Model_barred_233 N rc60 n x0 x1 x3 h = some p → Zt X 6 0 0 233 [(0, .ref x0), (1, .int x1), (3, .int x3)] [] h := by
  intro n
  induction n with
  | zero => intro x0 x1 x3 h hf; cases hf
  | succ n ih =>
  intro x0 x1 x3 h hf
  have H233 := ih
  replace hf : b_Model_barred_233 N rc60 (f_Model_barred_233 N rc60 n) x0 x1 x3 h = some p := hf
  unfold b_Model_barred_233 at hf
  refine z_iload_n C 2 d_Model_barred_233 rfl rfl ?_
  refine z_sipush C (v := (1250 : Int32)) d_Model_barred_234 (by decide) ?_
  refine z_ic_ge (tgt := 258) C d_Model_barred_237 (by decide) hf (fun hf => ?_) (fun hf => ?_)
  · refine z_iinc C (v := (x1 + (1 : Int32))) (lv' := [(1, .int (x1 + (1 : Int32))), (0, .ref x0), (3, .int x3)]) 1 d_Model_barred_258 rfl (by rfl) (by decide) rfl ?_
    refine z_goto (tgt := 60) C d_Model_barred_261 (by decide) ?_
    refine z_sub [1, 0] rfl ?_
    exact H60 _ _ _ hf
  · refine z_aload_n C 0 d_Model_barred_240 rfl rfl ?_
    refine z_getR C 0 22 rfl in_Model (by decide) w_763 rfl d_Model_barred_241 hf (fun v1 hf => ?_)
    refine z_iload_n C 2 d_Model_barred_244 rfl rfl ?_
    refine z_aload_n C 0 d_Model_barred_245 rfl rfl ?_
    refine z_getR C 0 23 rfl in_Model (by decide) w_764 rfl d_Model_barred_246 hf (fun v2 hf => ?_)
    refine z_iload_n C 2 d_Model_barred_249 rfl rfl ?_
    refine z_zald C d_Model_barred_250 hf (fun v3 hf => ?_)
    refine z_zast C d_Model_barred_251 hf (fun h4 hf => ?_)
    refine z_iinc C (v := (x3 + (1 : Int32))) (lv' := [(3, .int (x3 + (1 : Int32))), (0, .ref x0), (1, .int x1)]) 2 d_Model_barred_252 rfl (by rfl) (by decide) rfl ?_
    refine z_goto (tgt := 233) C d_Model_barred_255 (by decide) ?_
    refine z_sub [1, 2, 0] rfl ?_
    exact H233 _ _ _ _ hf

set_option maxHeartbeats 4000000 in
set_option maxRecDepth 100000 in
theorem k_Model_barred_225 (N : Nat) {X : zX} (C : zB X prog_10_method_25_code 6 R_Model rm_Model_barred) {h0 : zH} {p : Int32 × zH} (E : zR X (some .int) rm_Model_barred h0 (some (.int p.1)) p.2) {rc60 : Nat → Int32 → zH → Option (Int32 × zH)} (H60 : ∀ (x0 : Nat) (x1 : Int32) (h : zH), rc60 x0 x1 h = some p → Zt X 6 0 0 60 [(0, .ref x0), (1, .int x1)] [] h) {rc136 : Nat → Int32 → Int32 → zH → Option (Int32 × zH)} (H136 : ∀ (x0 : Nat) (x1 : Int32) (x3 : Int32) (h : zH), rc136 x0 x1 x3 h = some p → Zt X 6 0 0 136 [(0, .ref x0), (1, .int x1), (3, .int x3)] [] h) : ∀ (x0 : Nat) (x1 : Int32) (x3 : Int32) (h : zH), f_Model_barred_225 N rc60 rc136 x0 x1 x3 h = some p → Zt X 6 0 0 225 [(0, .ref x0), (1, .int x1), (3, .int x3)] [] h := by
  intro x0 x1 x3 h hf
  unfold f_Model_barred_225 at hf
  refine z_iinc C (v := (x3 + (1 : Int32))) (lv' := [(3, .int (x3 + (1 : Int32))), (0, .ref x0), (1, .int x1)]) 2 d_Model_barred_225 rfl (by rfl) (by decide) rfl ?_
  refine z_goto (tgt := 136) C d_Model_barred_228 (by decide) ?_
  refine z_sub [1, 2, 0] rfl ?_
  exact H136 _ _ _ _ hf

set_option maxHeartbeats 4000000 in
set_option maxRecDepth 100000 in
theorem k_Model_barred_219 (N : Nat) {X : zX} (C : zB X prog_10_method_25_code 6 R_Model rm_Model_barred) {h0 : zH} {p : Int32 × zH} (E : zR X (some .int) rm_Model_barred h0 (some (.int p.1)) p.2) {rc60 : Nat → Int32 → zH → Option (Int32 × zH)} (H60 : ∀ (x0 : Nat) (x1 : Int32) (h : zH), rc60 x0 x1 h = some p → Zt X 6 0 0 60 [(0, .ref x0), (1, .int x1)] [] h) {rc136 : Nat → Int32 → Int32 → zH → Option (Int32 × zH)} (H136 : ∀ (x0 : Nat) (x1 : Int32) (x3 : Int32) (h : zH), rc136 x0 x1 x3 h = some p → Zt X 6 0 0 136 [(0, .ref x0), (1, .int x1), (3, .int x3)] [] h) {rc150 : Nat → Int32 → Int32 → Int32 → zH → Option (Int32 × zH)} (H150 : ∀ (x0 : Nat) (x1 : Int32) (x3 : Int32) (x4 : Int32) (h : zH), rc150 x0 x1 x3 x4 h = some p → Zt X 6 0 0 150 [(0, .ref x0), (1, .int x1), (3, .int x3), (4, .int x4)] [] h) : ∀ (x0 : Nat) (x1 : Int32) (x3 : Int32) (x4 : Int32) (h : zH), f_Model_barred_219 N rc60 rc136 rc150 x0 x1 x3 x4 h = some p → Zt X 6 0 0 219 [(0, .ref x0), (1, .int x1), (3, .int x3), (4, .int x4)] [] h := by
  intro x0 x1 x3 x4 h hf
  unfold f_Model_barred_219 at hf
  refine z_iinc C (v := (x4 + (1 : Int32))) (lv' := [(4, .int (x4 + (1 : Int32))), (0, .ref x0), (1, .int x1), (3, .int x3)]) 3 d_Model_barred_219 rfl (by rfl) (by decide) rfl ?_
  refine z_goto (tgt := 150) C d_Model_barred_222 (by decide) ?_
  refine z_sub [1, 2, 3, 0] rfl ?_
  exact H150 _ _ _ _ _ hf

set_option maxHeartbeats 4000000 in
set_option maxRecDepth 100000 in
theorem k_Model_barred_150 (N : Nat) {X : zX} (C : zB X prog_10_method_25_code 6 R_Model rm_Model_barred) {h0 : zH} {p : Int32 × zH} (E : zR X (some .int) rm_Model_barred h0 (some (.int p.1)) p.2) {rc60 : Nat → Int32 → zH → Option (Int32 × zH)} (H60 : ∀ (x0 : Nat) (x1 : Int32) (h : zH), rc60 x0 x1 h = some p → Zt X 6 0 0 60 [(0, .ref x0), (1, .int x1)] [] h) {rc136 : Nat → Int32 → Int32 → zH → Option (Int32 × zH)} (H136 : ∀ (x0 : Nat) (x1 : Int32) (x3 : Int32) (h : zH), rc136 x0 x1 x3 h = some p → Zt X 6 0 0 136 [(0, .ref x0), (1, .int x1), (3, .int x3)] [] h) : ∀ n : Nat, ∀ (x0 : Nat) (x1 : Int32) (x3 : Int32) (x4 : Int32) (h : zH), f_Model_barred_150 N rc60 rc136 n x0 x1 x3 x4 h = some p → Zt X 6 0 0 150 [(0, .ref x0), (1, .int x1), (3, .int x3), (4, .int x4)] [] h := by
  intro n
  induction n with
  | zero => intro x0 x1 x3 x4 h hf; cases hf
  | succ n ih =>
  intro x0 x1 x3 x4 h hf
  have H150 := ih
  replace hf : b_Model_barred_150 N rc60 rc136 (f_Model_barred_150 N rc60 rc136 n) x0 x1 x3 x4 h = some p := hf
  unfold b_Model_barred_150 at hf
  refine z_iload C 3 d_Model_barred_150 rfl ?_
  refine z_aload_n C 0 d_Model_barred_152 rfl rfl ?_
  refine z_getI C 0 7 rfl in_Model (by decide) w_748 rfl d_Model_barred_153 hf (fun v5 hf => ?_)
  refine z_ic_gt (tgt := 225) C d_Model_barred_156 (by decide) hf (fun hf => ?_) (fun hf => ?_)
  · refine z_sub [0, 1, 2] rfl ?_
    exact k_Model_barred_225 N C E H60 H136 _ _ _ _ hf
  · refine z_aload_n C 0 d_Model_barred_159 rfl rfl ?_
    refine z_getR C 0 22 rfl in_Model (by decide) w_763 rfl d_Model_barred_160 hf (fun v6 hf => ?_)
    refine z_iload_n C 2 d_Model_barred_163 rfl rfl ?_
    refine z_zald C d_Model_barred_164 hf (fun v7 hf => ?_)
    refine z_if_eq (tgt := 225) C d_Model_barred_165 (by decide) hf (fun hf => ?_) (fun hf => ?_)
    · refine z_sub [0, 1, 2] rfl ?_
      exact k_Model_barred_225 N C E H60 H136 _ _ _ _ hf
    · refine z_iload_n C 2 d_Model_barred_168 rfl rfl ?_
      refine z_bipush C (v := (50 : Int32)) d_Model_barred_169 (by decide) ?_
      refine z_idiv C d_Model_barred_171 (by decide) ?_
      refine z_iload C 3 d_Model_barred_172 rfl ?_
      refine z_iadd C d_Model_barred_174 ?_
      refine z_istore C (lv' := [(5, .int ((x3 / (50 : Int32)) + x4)), (0, .ref x0), (1, .int x1), (3, .int x3), (4, .int x4)]) d_Model_barred_175 (by decide) rfl ?_
      refine z_aload_n C 1 d_Model_barred_177 rfl rfl ?_
      refine z_iload C 4 d_Model_barred_178 rfl ?_
      refine z_iload_n C 3 d_Model_barred_180 rfl rfl ?_
      refine z_bipush C (v := (50 : Int32)) d_Model_barred_181 (by decide) ?_
      refine z_irem C d_Model_barred_183 (by decide) ?_
      obtain ⟨p8, hc, hf⟩ := Option.bind_eq_some_iff.mp hf
      obtain ⟨hz, hc⟩ := zck_some hc
      refine z_callV C (ci := 0) (c_Model_follows N C.2.2.1 hc) rfl hz w_909 w_66 w_906 w_908 w_38 pd_Model_follows rfl ⟨(Nat.le_of_ble_eq_true rfl), (Nat.le_of_ble_eq_true rfl)⟩ ⟨(Nat.le_of_ble_eq_true rfl), (Nat.le_of_ble_eq_true rfl)⟩ rfl (Nat.le_of_ble_eq_true rfl) d_Model_barred_184 (k' := 0) (n' := 0) (stk' := [.int p8.1]) rfl rfl rfl ?_
      refine z_if_eq (tgt := 219) C d_Model_barred_187 (by decide) hf (fun hf => ?_) (fun hf => ?_)
      · refine z_sub [1, 2, 3, 4] rfl ?_
        exact k_Model_barred_219 N C E H60 H136 H150 _ _ _ _ _ hf
      · refine z_aload_n C 1 d_Model_barred_190 rfl rfl ?_
        refine z_iload_n C 2 d_Model_barred_191 rfl rfl ?_
        refine z_iconst C (v := (1 : Int32)) d_Model_barred_192 (by decide) ?_
        refine z_iadd C d_Model_barred_193 ?_
        refine z_iload C 0 d_Model_barred_194 rfl ?_
        obtain ⟨p9, hc, hf⟩ := Option.bind_eq_some_iff.mp hf
        obtain ⟨hz, hc⟩ := zck_some hc
        refine z_callV C (ci := 0) (c_Model_may N C.2.2.1 hc) rfl hz w_905 w_66 w_902 w_904 w_37 pd_Model_may rfl ⟨(Nat.le_of_ble_eq_true rfl), (Nat.le_of_ble_eq_true rfl)⟩ ⟨(Nat.le_of_ble_eq_true rfl), (Nat.le_of_ble_eq_true rfl)⟩ rfl (Nat.le_of_ble_eq_true rfl) d_Model_barred_196 (k' := 0) (n' := 0) (stk' := [.int p9.1]) rfl rfl rfl ?_
        refine z_if_eq (tgt := 219) C d_Model_barred_199 (by decide) hf (fun hf => ?_) (fun hf => ?_)
        · refine z_sub [1, 2, 3, 4] rfl ?_
          exact k_Model_barred_219 N C E H60 H136 H150 _ _ _ _ _ hf
        · refine z_aload_n C 1 d_Model_barred_202 rfl rfl ?_
          refine z_getR C 0 23 rfl in_Model (by decide) w_764 rfl d_Model_barred_203 hf (fun v10 hf => ?_)
          refine z_bipush C (v := (50 : Int32)) d_Model_barred_206 (by decide) ?_
          refine z_iload C 0 d_Model_barred_208 rfl ?_
          refine z_imul C d_Model_barred_210 ?_
          refine z_iload C 4 d_Model_barred_211 rfl ?_
          refine z_iadd C d_Model_barred_213 ?_
          refine z_bipush C (v := (24 : Int32)) d_Model_barred_214 (by decide) ?_
          refine z_iadd C d_Model_barred_216 ?_
          refine z_iconst C (v := (1 : Int32)) d_Model_barred_217 (by decide) ?_
          refine z_zast C d_Model_barred_218 hf (fun h11 hf => ?_)
          refine z_sub [1, 2, 3, 4] rfl ?_
          exact k_Model_barred_219 N C E H60 H136 H150 _ _ _ _ _ hf

set_option maxHeartbeats 4000000 in
set_option maxRecDepth 100000 in
theorem k_Model_barred_136 (N : Nat) {X : zX} (C : zB X prog_10_method_25_code 6 R_Model rm_Model_barred) {h0 : zH} {p : Int32 × zH} (E : zR X (some .int) rm_Model_barred h0 (some (.int p.1)) p.2) {rc60 : Nat → Int32 → zH → Option (Int32 × zH)} (H60 : ∀ (x0 : Nat) (x1 : Int32) (h : zH), rc60 x0 x1 h = some p → Zt X 6 0 0 60 [(0, .ref x0), (1, .int x1)] [] h) : ∀ n : Nat, ∀ (x0 : Nat) (x1 : Int32) (x3 : Int32) (h : zH), f_Model_barred_136 N rc60 n x0 x1 x3 h = some p → Zt X 6 0 0 136 [(0, .ref x0), (1, .int x1), (3, .int x3)] [] h := by
  intro n
  induction n with
  | zero => intro x0 x1 x3 h hf; cases hf
  | succ n ih =>
  intro x0 x1 x3 h hf
  have H136 := ih
  replace hf : b_Model_barred_136 N rc60 (f_Model_barred_136 N rc60 n) x0 x1 x3 h = some p := hf
  unfold b_Model_barred_136 at hf
  refine z_iload_n C 2 d_Model_barred_136 rfl rfl ?_
  refine z_sipush C (v := (1250 : Int32)) d_Model_barred_137 (by decide) ?_
  refine z_ic_ge (tgt := 231) C d_Model_barred_140 (by decide) hf (fun hf => ?_) (fun hf => ?_)
  · refine z_iconst C (v := (0 : Int32)) d_Model_barred_231 (by decide) ?_
    refine z_istore_n C (lv' := [(3, .int (0 : Int32)), (0, .ref x0), (1, .int x1)]) d_Model_barred_232 rfl (by decide) rfl ?_
    refine z_sub [1, 2, 0] rfl ?_
    exact k_Model_barred_233 N C E H60 N _ _ _ _ hf
  · refine z_aload_n C 0 d_Model_barred_143 rfl rfl ?_
    refine z_getI C 0 7 rfl in_Model (by decide) w_748 rfl d_Model_barred_144 hf (fun v12 hf => ?_)
    refine z_ineg C d_Model_barred_147 ?_
    refine z_istore C (lv' := [(4, .int (-v12)), (0, .ref x0), (1, .int x1), (3, .int x3)]) d_Model_barred_148 (by decide) rfl ?_
    refine z_sub [1, 2, 3, 0] rfl ?_
    exact k_Model_barred_150 N C E H60 H136 N _ _ _ _ _ hf

set_option maxHeartbeats 4000000 in
set_option maxRecDepth 100000 in
theorem k_Model_barred_114 (N : Nat) {X : zX} (C : zB X prog_10_method_25_code 6 R_Model rm_Model_barred) {h0 : zH} {p : Int32 × zH} (E : zR X (some .int) rm_Model_barred h0 (some (.int p.1)) p.2) {rc60 : Nat → Int32 → zH → Option (Int32 × zH)} (H60 : ∀ (x0 : Nat) (x1 : Int32) (h : zH), rc60 x0 x1 h = some p → Zt X 6 0 0 60 [(0, .ref x0), (1, .int x1)] [] h) : ∀ n : Nat, ∀ (x0 : Nat) (x1 : Int32) (x3 : Int32) (h : zH), f_Model_barred_114 N rc60 n x0 x1 x3 h = some p → Zt X 6 0 0 114 [(0, .ref x0), (1, .int x1), (3, .int x3)] [] h := by
  intro n
  induction n with
  | zero => intro x0 x1 x3 h hf; cases hf
  | succ n ih =>
  intro x0 x1 x3 h hf
  have H114 := ih
  replace hf : b_Model_barred_114 N rc60 (f_Model_barred_114 N rc60 n) x0 x1 x3 h = some p := hf
  unfold b_Model_barred_114 at hf
  refine z_iload_n C 2 d_Model_barred_114 rfl rfl ?_
  refine z_sipush C (v := (1250 : Int32)) d_Model_barred_115 (by decide) ?_
  refine z_ic_ge (tgt := 134) C d_Model_barred_118 (by decide) hf (fun hf => ?_) (fun hf => ?_)
  · refine z_iconst C (v := (0 : Int32)) d_Model_barred_134 (by decide) ?_
    refine z_istore_n C (lv' := [(3, .int (0 : Int32)), (0, .ref x0), (1, .int x1)]) d_Model_barred_135 rfl (by decide) rfl ?_
    refine z_sub [1, 2, 0] rfl ?_
    exact k_Model_barred_136 N C E H60 N _ _ _ _ hf
  · refine z_aload_n C 0 d_Model_barred_121 rfl rfl ?_
    refine z_getR C 0 23 rfl in_Model (by decide) w_764 rfl d_Model_barred_122 hf (fun v13 hf => ?_)
    refine z_iload_n C 2 d_Model_barred_125 rfl rfl ?_
    refine z_iconst C (v := (0 : Int32)) d_Model_barred_126 (by decide) ?_
    refine z_zast C d_Model_barred_127 hf (fun h14 hf => ?_)
    refine z_iinc C (v := (x3 + (1 : Int32))) (lv' := [(3, .int (x3 + (1 : Int32))), (0, .ref x0), (1, .int x1)]) 2 d_Model_barred_128 rfl (by rfl) (by decide) rfl ?_
    refine z_goto (tgt := 114) C d_Model_barred_131 (by decide) ?_
    refine z_sub [1, 2, 0] rfl ?_
    exact H114 _ _ _ _ hf

set_option maxHeartbeats 4000000 in
set_option maxRecDepth 100000 in
theorem k_Model_barred_89 (N : Nat) {X : zX} (C : zB X prog_10_method_25_code 6 R_Model rm_Model_barred) {h0 : zH} {p : Int32 × zH} (E : zR X (some .int) rm_Model_barred h0 (some (.int p.1)) p.2) {rc60 : Nat → Int32 → zH → Option (Int32 × zH)} (H60 : ∀ (x0 : Nat) (x1 : Int32) (h : zH), rc60 x0 x1 h = some p → Zt X 6 0 0 60 [(0, .ref x0), (1, .int x1)] [] h) {rc64 : Nat → Int32 → Int32 → Int32 → zH → Option (Int32 × zH)} (H64 : ∀ (x0 : Nat) (x1 : Int32) (x2 : Int32) (x3 : Int32) (h : zH), rc64 x0 x1 x2 x3 h = some p → Zt X 6 0 0 64 [(0, .ref x0), (1, .int x1), (2, .int x2), (3, .int x3)] [] h) : ∀ (x0 : Nat) (x1 : Int32) (x3 : Int32) (s0 : Int32) (h : zH), f_Model_barred_89 N rc60 rc64 x0 x1 x3 s0 h = some p → Zt X 6 0 0 89 [(0, .ref x0), (1, .int x1), (3, .int x3)] [.int s0] h := by
  intro x0 x1 x3 s0 h hf
  unfold f_Model_barred_89 at hf
  refine z_istore_n C (lv' := [(2, .int s0), (0, .ref x0), (1, .int x1), (3, .int x3)]) d_Model_barred_89 rfl (by decide) rfl ?_
  refine z_iinc C (v := (x3 + (1 : Int32))) (lv' := [(3, .int (x3 + (1 : Int32))), (2, .int s0), (0, .ref x0), (1, .int x1)]) 3 d_Model_barred_90 rfl (by rfl) (by decide) rfl ?_
  refine z_goto (tgt := 64) C d_Model_barred_93 (by decide) ?_
  refine z_sub [2, 3, 1, 0] rfl ?_
  exact H64 _ _ _ _ _ hf

set_option maxHeartbeats 4000000 in
set_option maxRecDepth 100000 in
theorem k_Model_barred_84 (N : Nat) {X : zX} (C : zB X prog_10_method_25_code 6 R_Model rm_Model_barred) {h0 : zH} {p : Int32 × zH} (E : zR X (some .int) rm_Model_barred h0 (some (.int p.1)) p.2) {rc60 : Nat → Int32 → zH → Option (Int32 × zH)} (H60 : ∀ (x0 : Nat) (x1 : Int32) (h : zH), rc60 x0 x1 h = some p → Zt X 6 0 0 60 [(0, .ref x0), (1, .int x1)] [] h) {rc64 : Nat → Int32 → Int32 → Int32 → zH → Option (Int32 × zH)} (H64 : ∀ (x0 : Nat) (x1 : Int32) (x2 : Int32) (x3 : Int32) (h : zH), rc64 x0 x1 x2 x3 h = some p → Zt X 6 0 0 64 [(0, .ref x0), (1, .int x1), (2, .int x2), (3, .int x3)] [] h) : ∀ (x0 : Nat) (x1 : Int32) (x3 : Int32) (h : zH), f_Model_barred_84 N rc60 rc64 x0 x1 x3 h = some p → Zt X 6 0 0 84 [(0, .ref x0), (1, .int x1), (3, .int x3)] [] h := by
  intro x0 x1 x3 h hf
  unfold f_Model_barred_84 at hf
  refine z_iconst C (v := (1 : Int32)) d_Model_barred_84 (by decide) ?_
  refine z_goto (tgt := 89) C d_Model_barred_85 (by decide) ?_
  refine z_sub [0, 1, 2] rfl ?_
  exact k_Model_barred_89 N C E H60 H64 _ _ _ _ _ hf

set_option maxHeartbeats 4000000 in
set_option maxRecDepth 100000 in
theorem k_Model_barred_64 (N : Nat) {X : zX} (C : zB X prog_10_method_25_code 6 R_Model rm_Model_barred) {h0 : zH} {p : Int32 × zH} (E : zR X (some .int) rm_Model_barred h0 (some (.int p.1)) p.2) {rc60 : Nat → Int32 → zH → Option (Int32 × zH)} (H60 : ∀ (x0 : Nat) (x1 : Int32) (h : zH), rc60 x0 x1 h = some p → Zt X 6 0 0 60 [(0, .ref x0), (1, .int x1)] [] h) : ∀ n : Nat, ∀ (x0 : Nat) (x1 : Int32) (x2 : Int32) (x3 : Int32) (h : zH), f_Model_barred_64 N rc60 n x0 x1 x2 x3 h = some p → Zt X 6 0 0 64 [(0, .ref x0), (1, .int x1), (2, .int x2), (3, .int x3)] [] h := by
  intro n
  induction n with
  | zero => intro x0 x1 x2 x3 h hf; cases hf
  | succ n ih =>
  intro x0 x1 x2 x3 h hf
  have H64 := ih
  replace hf : b_Model_barred_64 N rc60 (f_Model_barred_64 N rc60 n) x0 x1 x2 x3 h = some p := hf
  unfold b_Model_barred_64 at hf
  refine z_iload_n C 3 d_Model_barred_64 rfl rfl ?_
  refine z_sipush C (v := (1250 : Int32)) d_Model_barred_65 (by decide) ?_
  refine z_ic_ge (tgt := 96) C d_Model_barred_68 (by decide) hf (fun hf => ?_) (fun hf => ?_)
  · refine z_iload_n C 2 d_Model_barred_96 rfl rfl ?_
    refine z_if_ne (tgt := 102) C d_Model_barred_97 (by decide) hf (fun hf => ?_) (fun hf => ?_)
    · refine z_iload_n C 1 d_Model_barred_102 rfl rfl ?_
      refine z_aload_n C 0 d_Model_barred_103 rfl rfl ?_
      refine z_getI C 0 0 rfl in_Model (by decide) w_741 rfl d_Model_barred_104 hf (fun v15 hf => ?_)
      refine z_ic_ne (tgt := 112) C d_Model_barred_107 (by decide) hf (fun hf => ?_) (fun hf => ?_)
      · refine z_iconst C (v := (0 : Int32)) d_Model_barred_112 (by decide) ?_
        refine z_istore_n C (lv' := [(3, .int (0 : Int32)), (0, .ref x0), (1, .int x1), (2, .int x2)]) d_Model_barred_113 rfl (by decide) rfl ?_
        refine z_sub [1, 2, 0] rfl ?_
        exact k_Model_barred_114 N C E H60 N _ _ _ _ hf
      · refine z_iconst C (v := (-1 : Int32)) d_Model_barred_110 (by decide) ?_
        exact z_iret C E (Nat.le_of_ble_eq_true rfl) (Nat.le_of_ble_eq_true rfl) d_Model_barred_111 hf
    · refine z_iload_n C 1 d_Model_barred_100 rfl rfl ?_
      exact z_iret C E (Nat.le_of_ble_eq_true rfl) (Nat.le_of_ble_eq_true rfl) d_Model_barred_101 hf
  · refine z_iload_n C 2 d_Model_barred_71 rfl rfl ?_
    refine z_if_ne (tgt := 84) C d_Model_barred_72 (by decide) hf (fun hf => ?_) (fun hf => ?_)
    · refine z_sub [0, 1, 3] rfl ?_
      exact k_Model_barred_84 N C E H60 H64 _ _ _ _ hf
    · refine z_aload_n C 0 d_Model_barred_75 rfl rfl ?_
      refine z_getR C 0 22 rfl in_Model (by decide) w_763 rfl d_Model_barred_76 hf (fun v16 hf => ?_)
      refine z_iload_n C 3 d_Model_barred_79 rfl rfl ?_
      refine z_zald C d_Model_barred_80 hf (fun v17 hf => ?_)
      refine z_if_eq (tgt := 88) C d_Model_barred_81 (by decide) hf (fun hf => ?_) (fun hf => ?_)
      · refine z_iconst C (v := (0 : Int32)) d_Model_barred_88 (by decide) ?_
        refine z_sub [0, 1, 3] rfl ?_
        exact k_Model_barred_89 N C E H60 H64 _ _ _ _ _ hf
      · refine z_sub [0, 1, 3] rfl ?_
        exact k_Model_barred_84 N C E H60 H64 _ _ _ _ hf

set_option maxHeartbeats 4000000 in
set_option maxRecDepth 100000 in
theorem k_Model_barred_60 (N : Nat) {X : zX} (C : zB X prog_10_method_25_code 6 R_Model rm_Model_barred) {h0 : zH} {p : Int32 × zH} (E : zR X (some .int) rm_Model_barred h0 (some (.int p.1)) p.2) : ∀ n : Nat, ∀ (x0 : Nat) (x1 : Int32) (h : zH), f_Model_barred_60 N n x0 x1 h = some p → Zt X 6 0 0 60 [(0, .ref x0), (1, .int x1)] [] h := by
  intro n
  induction n with
  | zero => intro x0 x1 h hf; cases hf
  | succ n ih =>
  intro x0 x1 h hf
  have H60 := ih
  replace hf : b_Model_barred_60 N (f_Model_barred_60 N n) x0 x1 h = some p := hf
  unfold b_Model_barred_60 at hf
  refine z_iconst C (v := (0 : Int32)) d_Model_barred_60 (by decide) ?_
  refine z_istore_n C (lv' := [(2, .int (0 : Int32)), (0, .ref x0), (1, .int x1)]) d_Model_barred_61 rfl (by decide) rfl ?_
  refine z_iconst C (v := (0 : Int32)) d_Model_barred_62 (by decide) ?_
  refine z_istore_n C (lv' := [(3, .int (0 : Int32)), (2, .int (0 : Int32)), (0, .ref x0), (1, .int x1)]) d_Model_barred_63 rfl (by decide) rfl ?_
  refine z_sub [2, 3, 1, 0] rfl ?_
  exact k_Model_barred_64 N C E H60 N _ _ _ _ _ hf

set_option maxHeartbeats 4000000 in
set_option maxRecDepth 100000 in
theorem k_Model_barred_51 (N : Nat) {X : zX} (C : zB X prog_10_method_25_code 6 R_Model rm_Model_barred) {h0 : zH} {p : Int32 × zH} (E : zR X (some .int) rm_Model_barred h0 (some (.int p.1)) p.2) {rc2 : Nat → Int32 → zH → Option (Int32 × zH)} (H2 : ∀ (x0 : Nat) (x1 : Int32) (h : zH), rc2 x0 x1 h = some p → Zt X 6 0 0 2 [(0, .ref x0), (1, .int x1)] [] h) : ∀ (x0 : Nat) (x1 : Int32) (s0 : Nat) (s1 : Int32) (s2 : Int32) (h : zH), f_Model_barred_51 N rc2 x0 x1 s0 s1 s2 h = some p → Zt X 6 0 0 51 [(0, .ref x0), (1, .int x1)] [.int s2, .int s1, .ref s0] h := by
  intro x0 x1 s0 s1 s2 h hf
  unfold f_Model_barred_51 at hf
  refine z_zast C d_Model_barred_51 hf (fun h18 hf => ?_)
  refine z_iinc C (v := (x1 + (1 : Int32))) (lv' := [(1, .int (x1 + (1 : Int32))), (0, .ref x0)]) 1 d_Model_barred_52 rfl (by rfl) (by decide) rfl ?_
  refine z_goto (tgt := 2) C d_Model_barred_55 (by decide) ?_
  refine z_sub [1, 0] rfl ?_
  exact H2 _ _ _ hf

set_option maxHeartbeats 4000000 in
set_option maxRecDepth 100000 in
theorem k_Model_barred_50 (N : Nat) {X : zX} (C : zB X prog_10_method_25_code 6 R_Model rm_Model_barred) {h0 : zH} {p : Int32 × zH} (E : zR X (some .int) rm_Model_barred h0 (some (.int p.1)) p.2) {rc2 : Nat → Int32 → zH → Option (Int32 × zH)} (H2 : ∀ (x0 : Nat) (x1 : Int32) (h : zH), rc2 x0 x1 h = some p → Zt X 6 0 0 2 [(0, .ref x0), (1, .int x1)] [] h) : ∀ (x0 : Nat) (x1 : Int32) (s0 : Nat) (s1 : Int32) (h : zH), f_Model_barred_50 N rc2 x0 x1 s0 s1 h = some p → Zt X 6 0 0 50 [(0, .ref x0), (1, .int x1)] [.int s1, .ref s0] h := by
  intro x0 x1 s0 s1 h hf
  unfold f_Model_barred_50 at hf
  refine z_iconst C (v := (0 : Int32)) d_Model_barred_50 (by decide) ?_
  refine z_sub [0, 1] rfl ?_
  exact k_Model_barred_51 N C E H2 _ _ _ _ _ _ hf

set_option maxHeartbeats 4000000 in
set_option maxRecDepth 100000 in
theorem k_Model_barred_2 (N : Nat) {X : zX} (C : zB X prog_10_method_25_code 6 R_Model rm_Model_barred) {h0 : zH} {p : Int32 × zH} (E : zR X (some .int) rm_Model_barred h0 (some (.int p.1)) p.2) : ∀ n : Nat, ∀ (x0 : Nat) (x1 : Int32) (h : zH), f_Model_barred_2 N n x0 x1 h = some p → Zt X 6 0 0 2 [(0, .ref x0), (1, .int x1)] [] h := by
  intro n
  induction n with
  | zero => intro x0 x1 h hf; cases hf
  | succ n ih =>
  intro x0 x1 h hf
  have H2 := ih
  replace hf : b_Model_barred_2 N (f_Model_barred_2 N n) x0 x1 h = some p := hf
  unfold b_Model_barred_2 at hf
  refine z_iload_n C 1 d_Model_barred_2 rfl rfl ?_
  refine z_sipush C (v := (1250 : Int32)) d_Model_barred_3 (by decide) ?_
  refine z_ic_ge (tgt := 58) C d_Model_barred_6 (by decide) hf (fun hf => ?_) (fun hf => ?_)
  · refine z_iconst C (v := (0 : Int32)) d_Model_barred_58 (by decide) ?_
    refine z_istore_n C (lv' := [(1, .int (0 : Int32)), (0, .ref x0)]) d_Model_barred_59 rfl (by decide) rfl ?_
    refine z_sub [1, 0] rfl ?_
    exact k_Model_barred_60 N C E N _ _ _ hf
  · refine z_aload_n C 0 d_Model_barred_9 rfl rfl ?_
    refine z_getR C 0 22 rfl in_Model (by decide) w_763 rfl d_Model_barred_10 hf (fun v19 hf => ?_)
    refine z_iload_n C 1 d_Model_barred_13 rfl rfl ?_
    refine z_iload_n C 1 d_Model_barred_14 rfl rfl ?_
    refine z_bipush C (v := (50 : Int32)) d_Model_barred_15 (by decide) ?_
    refine z_irem C d_Model_barred_17 (by decide) ?_
    refine z_bipush C (v := (49 : Int32)) d_Model_barred_18 (by decide) ?_
    refine z_ic_ne (tgt := 50) C d_Model_barred_20 (by decide) hf (fun hf => ?_) (fun hf => ?_)
    · refine z_sub [0, 1] rfl ?_
      exact k_Model_barred_50 N C E H2 _ _ _ _ _ hf
    · refine z_iload_n C 1 d_Model_barred_23 rfl rfl ?_
      refine z_bipush C (v := (50 : Int32)) d_Model_barred_24 (by decide) ?_
      refine z_idiv C d_Model_barred_26 (by decide) ?_
      refine z_aload_n C 0 d_Model_barred_27 rfl rfl ?_
      refine z_getI C 0 1 rfl in_Model (by decide) w_742 rfl d_Model_barred_28 hf (fun v20 hf => ?_)
      refine z_ic_gt (tgt := 50) C d_Model_barred_31 (by decide) hf (fun hf => ?_) (fun hf => ?_)
      · refine z_sub [0, 1] rfl ?_
        exact k_Model_barred_50 N C E H2 _ _ _ _ _ hf
      · refine z_aload_n C 0 d_Model_barred_34 rfl rfl ?_
        refine z_iconst C (v := (0 : Int32)) d_Model_barred_35 (by decide) ?_
        refine z_iload_n C 1 d_Model_barred_36 rfl rfl ?_
        refine z_bipush C (v := (50 : Int32)) d_Model_barred_37 (by decide) ?_
        refine z_idiv C d_Model_barred_39 (by decide) ?_
        obtain ⟨p21, hc, hf⟩ := Option.bind_eq_some_iff.mp hf
        obtain ⟨hz, hc⟩ := zck_some hc
        refine z_callV C (ci := 0) (c_Model_may N C.2.2.1 hc) rfl hz w_905 w_66 w_902 w_904 w_37 pd_Model_may rfl ⟨(Nat.le_of_ble_eq_true rfl), (Nat.le_of_ble_eq_true rfl)⟩ ⟨(Nat.le_of_ble_eq_true rfl), (Nat.le_of_ble_eq_true rfl)⟩ rfl (Nat.le_of_ble_eq_true rfl) d_Model_barred_40 (k' := 0) (n' := 0) (stk' := [.int p21.1, .int x1, .ref v19]) rfl rfl rfl ?_
        refine z_if_eq (tgt := 50) C d_Model_barred_43 (by decide) hf (fun hf => ?_) (fun hf => ?_)
        · refine z_sub [0, 1] rfl ?_
          exact k_Model_barred_50 N C E H2 _ _ _ _ _ hf
        · refine z_iconst C (v := (1 : Int32)) d_Model_barred_46 (by decide) ?_
          refine z_goto (tgt := 51) C d_Model_barred_47 (by decide) ?_
          refine z_sub [0, 1] rfl ?_
          exact k_Model_barred_51 N C E H2 _ _ _ _ _ _ hf

set_option maxHeartbeats 4000000 in
set_option maxRecDepth 100000 in
theorem k_Model_barred (N : Nat) {X : zX} (C : zB X prog_10_method_25_code 6 R_Model rm_Model_barred) {h0 : zH} {p : Int32 × zH} (E : zR X (some .int) rm_Model_barred h0 (some (.int p.1)) p.2) : ∀ (x0 : Nat) (h : zH), f_Model_barred N x0 h = some p → Zt X 6 0 0 0 [(0, .ref x0)] [] h := by
  intro x0 h hf
  unfold f_Model_barred at hf
  refine z_iconst C (v := (0 : Int32)) d_Model_barred_0 (by decide) ?_
  refine z_istore_n C (lv' := [(1, .int (0 : Int32)), (0, .ref x0)]) d_Model_barred_1 rfl (by decide) rfl ?_
  refine z_sub [1, 0] rfl ?_
  exact k_Model_barred_2 N C E N _ _ _ hf

theorem c_Model_barred (N : Nat) {l : Launch} {D : va_G} {T : List (ClassId × FieldType)} (hT : T.map (fun q => q.2) = ztl) {x0 : Nat} {h : zH} {p : Int32 × zH} (hf : f_Model_barred N x0 h = some p) : zM l y_Model_barred prog_10_method_25_code 6 (some .int) rm_Model_barred D T [.ref x0] h (some (.int p.1)) p.2 :=
  z_enter (by decide) hT (Nat.le_of_ble_eq_true rfl) (fun X el eD eT hin C E => k_Model_barred N C E x0 h hf)
/-! ===== LevelTablesModel.search()Z ===== -/
abbrev y_Model_search : MethodName := ⟨R_Model, "search", "()Z"⟩
theorem pd_Model_search : y_Model_search.cls ≠ "java/lang/invoke/MethodHandle" ∧ y_Model_search.cls ≠ "java/lang/invoke/VarHandle" ∧ (parseMethodDescriptor y_Model_search.desc).map (fun d => d.parameters.length) = some 0 := ⟨by decide +kernel, by decide +kernel, by decide +kernel⟩
abbrev rm_Model_search : Room := { frames := 4, cells := 0, slots := 0, locals := 103 }
def f_Model_search_115 (N : Nat) (rc67 : Nat → Int32 → zH → Option (Int32 × zH)) (rc73 : Nat → Int32 → Int32 → zH → Option (Int32 × zH)) (rc98 : Nat → Int32 → Int32 → Int32 → zH → Option (Int32 × zH)) (x0 : Nat) (x1 : Int32) (x2 : Int32) (x3 : Int32) (s0 : Int32) (s1 : Int32) (h : zH) : Option (Int32 × zH) :=
  (if s1 < s0 then
    rc73 x0 x1 (x2 + (1 : Int32)) h
  else
    Option.bind (zck (zis h x0 0) (f_Model_workOut N x0 x1 x2 x3 h)) fun (p1 : Unit × zH) =>
    rc98 x0 x1 x2 (x3 + (1 : Int32)) p1.2)
def b_Model_search_98 (N : Nat) (rc67 : Nat → Int32 → zH → Option (Int32 × zH)) (rc73 : Nat → Int32 → Int32 → zH → Option (Int32 × zH)) (rc98 : Nat → Int32 → Int32 → Int32 → zH → Option (Int32 × zH)) (x0 : Nat) (x1 : Int32) (x2 : Int32) (x3 : Int32) (h : zH) : Option (Int32 × zH) :=
  (if x1 = 0 then
    f_Model_search_115 N rc67 rc73 rc98 x0 x1 x2 x3 x3 (49 : Int32) h
  else
    Option.bind (zgI h x0 0 7) fun (v2 : Int32) =>
    f_Model_search_115 N rc67 rc73 rc98 x0 x1 x2 x3 x3 ((24 : Int32) + v2) h)
def f_Model_search_98 (N : Nat) (rc67 : Nat → Int32 → zH → Option (Int32 × zH)) (rc73 : Nat → Int32 → Int32 → zH → Option (Int32 × zH)) : Nat → Nat → Int32 → Int32 → Int32 → zH → Option (Int32 × zH)
  | 0 => fun _ _ _ _ _ => none
  | n + 1 => fun x0 x1 x2 x3 h => b_Model_search_98 N rc67 rc73 (f_Model_search_98 N rc67 rc73 n) x0 x1 x2 x3 h
def f_Model_search_97 (N : Nat) (rc67 : Nat → Int32 → zH → Option (Int32 × zH)) (rc73 : Nat → Int32 → Int32 → zH → Option (Int32 × zH)) (x0 : Nat) (x1 : Int32) (x2 : Int32) (s0 : Int32) (h : zH) : Option (Int32 × zH) :=
  f_Model_search_98 N rc67 rc73 N x0 x1 x2 s0 h
def b_Model_search_73 (N : Nat) (rc67 : Nat → Int32 → zH → Option (Int32 × zH)) (rc73 : Nat → Int32 → Int32 → zH → Option (Int32 × zH)) (x0 : Nat) (x1 : Int32) (x2 : Int32) (h : zH) : Option (Int32 × zH) :=
  Option.bind (zgI h x0 0 1) fun (v3 : Int32) =>
  (if v3 < x2 then
    rc67 x0 (x1 + (-1 : Int32)) h
  else
    (if x1 = 0 then
      f_Model_search_97 N rc67 rc73 x0 x1 x2 (49 : Int32) h
    else
      Option.bind (zgI h x0 0 7) fun (v4 : Int32) =>
      f_Model_search_97 N rc67 rc73 x0 x1 x2 ((24 : Int32) - v4) h))
def f_Model_search_73 (N : Nat) (rc67 : Nat → Int32 → zH → Option (Int32 × zH)) : Nat → Nat → Int32 → Int32 → zH → Option (Int32 × zH)
  | 0 => fun _ _ _ _ => none
  | n + 1 => fun x0 x1 x2 h => b_Model_search_73 N rc67 (f_Model_search_73 N rc67 n) x0 x1 x2 h
def b_Model_search_67 (N : Nat) (rc67 : Nat → Int32 → zH → Option (Int32 × zH)) (x0 : Nat) (x1 : Int32) (h : zH) : Option (Int32 × zH) :=
  (if x1 < 0 then
    Option.bind (zck (zis h x0 0) (f_Model_firstLevel N x0  h)) fun (p5 : Int32 × zH) =>
    (if p5.1 < 0 then
      zrb (0 : Int32) p5.2
    else
      zrb (1 : Int32) p5.2)
  else
    f_Model_search_73 N rc67 N x0 x1 (0 : Int32) h)
def f_Model_search_67 (N : Nat) : Nat → Nat → Int32 → zH → Option (Int32 × zH)
  | 0 => fun _ _ _ => none
  | n + 1 => fun x0 x1 h => b_Model_search_67 N (f_Model_search_67 N n) x0 x1 h
def b_Model_search_12 (N : Nat) (rc2 : Nat → Int32 → zH → Option (Int32 × zH)) (rc12 : Nat → Int32 → Int32 → zH → Option (Int32 × zH)) (x0 : Nat) (x1 : Int32) (x2 : Int32) (h : zH) : Option (Int32 × zH) :=
  (if (50 : Int32) ≤ x2 then
    rc2 x0 (x1 + (1 : Int32)) h
  else
    Option.bind (zgR h x0 0 15) fun (v6 : Nat) =>
    Option.bind (zgI h x0 0 0) fun (v7 : Int32) =>
    Option.bind (f_Model_at N v7 x1 x2 h) fun (p8 : Int32 × zH) =>
    Option.bind (zsJ p8.2 1 v6 p8.1 (0 : Int64)) fun (h9 : zH) =>
    Option.bind (zgR h9 x0 0 16) fun (v10 : Nat) =>
    Option.bind (zgI h9 x0 0 0) fun (v11 : Int32) =>
    Option.bind (f_Model_at N v11 x1 x2 h9) fun (p12 : Int32 × zH) =>
    Option.bind (zsI p12.2 0 v10 p12.1 (0 : Int32)) fun (h13 : zH) =>
    rc12 x0 x1 (x2 + (1 : Int32)) h13)
def f_Model_search_12 (N : Nat) (rc2 : Nat → Int32 → zH → Option (Int32 × zH)) : Nat → Nat → Int32 → Int32 → zH → Option (Int32 × zH)
  | 0 => fun _ _ _ _ => none
  | n + 1 => fun x0 x1 x2 h => b_Model_search_12 N rc2 (f_Model_search_12 N rc2 n) x0 x1 x2 h
def b_Model_search_2 (N : Nat) (rc2 : Nat → Int32 → zH → Option (Int32 × zH)) (x0 : Nat) (x1 : Int32) (h : zH) : Option (Int32 × zH) :=
  Option.bind (zgI h x0 0 1) fun (v14 : Int32) =>
  (if v14 < x1 then
    Option.bind (zgI h x0 0 0) fun (v15 : Int32) =>
    f_Model_search_67 N N x0 (v15 - (1 : Int32)) h
  else
    f_Model_search_12 N rc2 N x0 x1 (0 : Int32) h)
def f_Model_search_2 (N : Nat) : Nat → Nat → Int32 → zH → Option (Int32 × zH)
  | 0 => fun _ _ _ => none
  | n + 1 => fun x0 x1 h => b_Model_search_2 N (f_Model_search_2 N n) x0 x1 h
def f_Model_search (N : Nat) (x0 : Nat) (h : zH) : Option (Int32 × zH) :=
  f_Model_search_2 N N x0 (0 : Int32) h
theorem d_Model_search_0 : decode prog_10_method_22_code 0 = .ok (.iconst (0), 1) := by decide +kernel
theorem d_Model_search_1 : decode prog_10_method_22_code 1 = .ok (.istore_n (1), 1) := by decide +kernel
theorem d_Model_search_2 : decode prog_10_method_22_code 2 = .ok (.iload_n (1), 1) := by decide +kernel
theorem d_Model_search_3 : decode prog_10_method_22_code 3 = .ok (.aload_n (0), 1) := by decide +kernel
theorem d_Model_search_4 : decode prog_10_method_22_code 4 = .ok (.getfield (92), 3) := by decide +kernel
theorem d_Model_search_7 : decode prog_10_method_22_code 7 = .ok (.if_icmp .gt (53), 3) := by decide +kernel
theorem d_Model_search_10 : decode prog_10_method_22_code 10 = .ok (.iconst (0), 1) := by decide +kernel
theorem d_Model_search_11 : decode prog_10_method_22_code 11 = .ok (.istore_n (2), 1) := by decide +kernel
theorem d_Model_search_12 : decode prog_10_method_22_code 12 = .ok (.iload_n (2), 1) := by decide +kernel
theorem d_Model_search_13 : decode prog_10_method_22_code 13 = .ok (.bipush (50), 2) := by decide +kernel
theorem d_Model_search_15 : decode prog_10_method_22_code 15 = .ok (.if_icmp .ge (39), 3) := by decide +kernel
theorem d_Model_search_18 : decode prog_10_method_22_code 18 = .ok (.aload_n (0), 1) := by decide +kernel
theorem d_Model_search_19 : decode prog_10_method_22_code 19 = .ok (.getfield (45), 3) := by decide +kernel
theorem d_Model_search_22 : decode prog_10_method_22_code 22 = .ok (.aload_n (0), 1) := by decide +kernel
theorem d_Model_search_23 : decode prog_10_method_22_code 23 = .ok (.getfield (89), 3) := by decide +kernel
theorem d_Model_search_26 : decode prog_10_method_22_code 26 = .ok (.iload_n (1), 1) := by decide +kernel
theorem d_Model_search_27 : decode prog_10_method_22_code 27 = .ok (.iload_n (2), 1) := by decide +kernel
theorem d_Model_search_28 : decode prog_10_method_22_code 28 = .ok (.invokestatic (145), 3) := by decide +kernel
theorem d_Model_search_31 : decode prog_10_method_22_code 31 = .ok (.lconst (0), 1) := by decide +kernel
theorem d_Model_search_32 : decode prog_10_method_22_code 32 = .ok (.lastore, 1) := by decide +kernel
theorem d_Model_search_33 : decode prog_10_method_22_code 33 = .ok (.aload_n (0), 1) := by decide +kernel
theorem d_Model_search_34 : decode prog_10_method_22_code 34 = .ok (.getfield (48), 3) := by decide +kernel
theorem d_Model_search_37 : decode prog_10_method_22_code 37 = .ok (.aload_n (0), 1) := by decide +kernel
theorem d_Model_search_38 : decode prog_10_method_22_code 38 = .ok (.getfield (89), 3) := by decide +kernel
theorem d_Model_search_41 : decode prog_10_method_22_code 41 = .ok (.iload_n (1), 1) := by decide +kernel
theorem d_Model_search_42 : decode prog_10_method_22_code 42 = .ok (.iload_n (2), 1) := by decide +kernel
theorem d_Model_search_43 : decode prog_10_method_22_code 43 = .ok (.invokestatic (145), 3) := by decide +kernel
theorem d_Model_search_46 : decode prog_10_method_22_code 46 = .ok (.iconst (0), 1) := by decide +kernel
theorem d_Model_search_47 : decode prog_10_method_22_code 47 = .ok (.iastore, 1) := by decide +kernel
theorem d_Model_search_48 : decode prog_10_method_22_code 48 = .ok (.iinc (2) (1), 3) := by decide +kernel
theorem d_Model_search_51 : decode prog_10_method_22_code 51 = .ok (.goto (-39), 3) := by decide +kernel
theorem d_Model_search_54 : decode prog_10_method_22_code 54 = .ok (.iinc (1) (1), 3) := by decide +kernel
theorem d_Model_search_57 : decode prog_10_method_22_code 57 = .ok (.goto (-55), 3) := by decide +kernel
theorem d_Model_search_60 : decode prog_10_method_22_code 60 = .ok (.aload_n (0), 1) := by decide +kernel
theorem d_Model_search_61 : decode prog_10_method_22_code 61 = .ok (.getfield (89), 3) := by decide +kernel
theorem d_Model_search_64 : decode prog_10_method_22_code 64 = .ok (.iconst (1), 1) := by decide +kernel
theorem d_Model_search_65 : decode prog_10_method_22_code 65 = .ok (.isub, 1) := by decide +kernel
theorem d_Model_search_66 : decode prog_10_method_22_code 66 = .ok (.istore_n (1), 1) := by decide +kernel
theorem d_Model_search_67 : decode prog_10_method_22_code 67 = .ok (.iload_n (1), 1) := by decide +kernel
theorem d_Model_search_68 : decode prog_10_method_22_code 68 = .ok (.ifCond .lt (75), 3) := by decide +kernel
theorem d_Model_search_71 : decode prog_10_method_22_code 71 = .ok (.iconst (0), 1) := by decide +kernel
theorem d_Model_search_72 : decode prog_10_method_22_code 72 = .ok (.istore_n (2), 1) := by decide +kernel
theorem d_Model_search_73 : decode prog_10_method_22_code 73 = .ok (.iload_n (2), 1) := by decide +kernel
theorem d_Model_search_74 : decode prog_10_method_22_code 74 = .ok (.aload_n (0), 1) := by decide +kernel
theorem d_Model_search_75 : decode prog_10_method_22_code 75 = .ok (.getfield (92), 3) := by decide +kernel
theorem d_Model_search_78 : decode prog_10_method_22_code 78 = .ok (.if_icmp .gt (59), 3) := by decide +kernel
theorem d_Model_search_81 : decode prog_10_method_22_code 81 = .ok (.iload_n (1), 1) := by decide +kernel
theorem d_Model_search_82 : decode prog_10_method_22_code 82 = .ok (.ifCond .ne (8), 3) := by decide +kernel
theorem d_Model_search_85 : decode prog_10_method_22_code 85 = .ok (.bipush (49), 2) := by decide +kernel
theorem d_Model_search_87 : decode prog_10_method_22_code 87 = .ok (.goto (10), 3) := by decide +kernel
theorem d_Model_search_90 : decode prog_10_method_22_code 90 = .ok (.bipush (24), 2) := by decide +kernel
theorem d_Model_search_92 : decode prog_10_method_22_code 92 = .ok (.aload_n (0), 1) := by decide +kernel
theorem d_Model_search_93 : decode prog_10_method_22_code 93 = .ok (.getfield (25), 3) := by decide +kernel
theorem d_Model_search_96 : decode prog_10_method_22_code 96 = .ok (.isub, 1) := by decide +kernel
theorem d_Model_search_97 : decode prog_10_method_22_code 97 = .ok (.istore_n (3), 1) := by decide +kernel
theorem d_Model_search_98 : decode prog_10_method_22_code 98 = .ok (.iload_n (3), 1) := by decide +kernel
theorem d_Model_search_99 : decode prog_10_method_22_code 99 = .ok (.iload_n (1), 1) := by decide +kernel
theorem d_Model_search_100 : decode prog_10_method_22_code 100 = .ok (.ifCond .ne (8), 3) := by decide +kernel
theorem d_Model_search_103 : decode prog_10_method_22_code 103 = .ok (.bipush (49), 2) := by decide +kernel
theorem d_Model_search_105 : decode prog_10_method_22_code 105 = .ok (.goto (10), 3) := by decide +kernel
theorem d_Model_search_108 : decode prog_10_method_22_code 108 = .ok (.bipush (24), 2) := by decide +kernel
theorem d_Model_search_110 : decode prog_10_method_22_code 110 = .ok (.aload_n (0), 1) := by decide +kernel
theorem d_Model_search_111 : decode prog_10_method_22_code 111 = .ok (.getfield (25), 3) := by decide +kernel
theorem d_Model_search_114 : decode prog_10_method_22_code 114 = .ok (.iadd, 1) := by decide +kernel
theorem d_Model_search_115 : decode prog_10_method_22_code 115 = .ok (.if_icmp .gt (16), 3) := by decide +kernel
theorem d_Model_search_118 : decode prog_10_method_22_code 118 = .ok (.aload_n (0), 1) := by decide +kernel
theorem d_Model_search_119 : decode prog_10_method_22_code 119 = .ok (.iload_n (1), 1) := by decide +kernel
theorem d_Model_search_120 : decode prog_10_method_22_code 120 = .ok (.iload_n (2), 1) := by decide +kernel
theorem d_Model_search_121 : decode prog_10_method_22_code 121 = .ok (.iload_n (3), 1) := by decide +kernel
theorem d_Model_search_122 : decode prog_10_method_22_code 122 = .ok (.invokevirtual (161), 3) := by decide +kernel
theorem d_Model_search_125 : decode prog_10_method_22_code 125 = .ok (.iinc (3) (1), 3) := by decide +kernel
theorem d_Model_search_128 : decode prog_10_method_22_code 128 = .ok (.goto (-30), 3) := by decide +kernel
theorem d_Model_search_131 : decode prog_10_method_22_code 131 = .ok (.iinc (2) (1), 3) := by decide +kernel
theorem d_Model_search_134 : decode prog_10_method_22_code 134 = .ok (.goto (-61), 3) := by decide +kernel
theorem d_Model_search_137 : decode prog_10_method_22_code 137 = .ok (.iinc (1) (-1), 3) := by decide +kernel
theorem d_Model_search_140 : decode prog_10_method_22_code 140 = .ok (.goto (-73), 3) := by decide +kernel
theorem d_Model_search_143 : decode prog_10_method_22_code 143 = .ok (.aload_n (0), 1) := by decide +kernel
theorem d_Model_search_144 : decode prog_10_method_22_code 144 = .ok (.invokevirtual (165), 3) := by decide +kernel
theorem d_Model_search_147 : decode prog_10_method_22_code 147 = .ok (.ifCond .lt (7), 3) := by decide +kernel
theorem d_Model_search_150 : decode prog_10_method_22_code 150 = .ok (.iconst (1), 1) := by decide +kernel
theorem d_Model_search_151 : decode prog_10_method_22_code 151 = .ok (.goto (4), 3) := by decide +kernel
theorem d_Model_search_154 : decode prog_10_method_22_code 154 = .ok (.iconst (0), 1) := by decide +kernel
theorem d_Model_search_155 : decode prog_10_method_22_code 155 = .ok (.ireturn, 1) := by decide +kernel
set_option maxHeartbeats 4000000 in
set_option maxRecDepth 100000 in
theorem k_Model_search_115 (N : Nat) {X : zX} (C : zB X prog_10_method_22_code 4 R_Model rm_Model_search) {h0 : zH} {p : Int32 × zH} (E : zR X (some .boolean) rm_Model_search h0 (some (.int p.1)) p.2) {rc67 : Nat → Int32 → zH → Option (Int32 × zH)} (H67 : ∀ (x0 : Nat) (x1 : Int32) (h : zH), rc67 x0 x1 h = some p → Zt X 4 0 0 67 [(0, .ref x0), (1, .int x1)] [] h) {rc73 : Nat → Int32 → Int32 → zH → Option (Int32 × zH)} (H73 : ∀ (x0 : Nat) (x1 : Int32) (x2 : Int32) (h : zH), rc73 x0 x1 x2 h = some p → Zt X 4 0 0 73 [(0, .ref x0), (1, .int x1), (2, .int x2)] [] h) {rc98 : Nat → Int32 → Int32 → Int32 → zH → Option (Int32 × zH)} (H98 : ∀ (x0 : Nat) (x1 : Int32) (x2 : Int32) (x3 : Int32) (h : zH), rc98 x0 x1 x2 x3 h = some p → Zt X 4 0 0 98 [(0, .ref x0), (1, .int x1), (2, .int x2), (3, .int x3)] [] h) : ∀ (x0 : Nat) (x1 : Int32) (x2 : Int32) (x3 : Int32) (s0 : Int32) (s1 : Int32) (h : zH), f_Model_search_115 N rc67 rc73 rc98 x0 x1 x2 x3 s0 s1 h = some p → Zt X 4 0 0 115 [(0, .ref x0), (1, .int x1), (2, .int x2), (3, .int x3)] [.int s1, .int s0] h := by
  intro x0 x1 x2 x3 s0 s1 h hf
  unfold f_Model_search_115 at hf
  refine z_ic_gt (tgt := 131) C d_Model_search_115 (by decide) hf (fun hf => ?_) (fun hf => ?_)
  · refine z_iinc C (v := (x2 + (1 : Int32))) (lv' := [(2, .int (x2 + (1 : Int32))), (0, .ref x0), (1, .int x1), (3, .int x3)]) 2 d_Model_search_131 rfl (by rfl) (by decide) rfl ?_
    refine z_goto (tgt := 73) C d_Model_search_134 (by decide) ?_
    refine z_sub [1, 2, 0] rfl ?_
    exact H73 _ _ _ _ hf
  · refine z_aload_n C 0 d_Model_search_118 rfl rfl ?_
    refine z_iload_n C 1 d_Model_search_119 rfl rfl ?_
    refine z_iload_n C 2 d_Model_search_120 rfl rfl ?_
    refine z_iload_n C 3 d_Model_search_121 rfl rfl ?_
    obtain ⟨p1, hc, hf⟩ := Option.bind_eq_some_iff.mp hf
    obtain ⟨hz, hc⟩ := zck_some hc
    refine z_callV C (ci := 0) (c_Model_workOut N C.2.2.1 hc) rfl hz w_923 w_66 w_920 w_922 w_40 pd_Model_workOut rfl ⟨(Nat.le_of_ble_eq_true rfl), (Nat.le_of_ble_eq_true rfl)⟩ ⟨(Nat.le_of_ble_eq_true rfl), (Nat.le_of_ble_eq_true rfl)⟩ rfl (Nat.le_of_ble_eq_true rfl) d_Model_search_122 (k' := 0) (n' := 0) (stk' := []) rfl rfl rfl ?_
    refine z_iinc C (v := (x3 + (1 : Int32))) (lv' := [(3, .int (x3 + (1 : Int32))), (0, .ref x0), (1, .int x1), (2, .int x2)]) 3 d_Model_search_125 rfl (by rfl) (by decide) rfl ?_
    refine z_goto (tgt := 98) C d_Model_search_128 (by decide) ?_
    refine z_sub [1, 2, 3, 0] rfl ?_
    exact H98 _ _ _ _ _ hf

set_option maxHeartbeats 4000000 in
set_option maxRecDepth 100000 in
theorem k_Model_search_98 (N : Nat) {X : zX} (C : zB X prog_10_method_22_code 4 R_Model rm_Model_search) {h0 : zH} {p : Int32 × zH} (E : zR X (some .boolean) rm_Model_search h0 (some (.int p.1)) p.2) {rc67 : Nat → Int32 → zH → Option (Int32 × zH)} (H67 : ∀ (x0 : Nat) (x1 : Int32) (h : zH), rc67 x0 x1 h = some p → Zt X 4 0 0 67 [(0, .ref x0), (1, .int x1)] [] h) {rc73 : Nat → Int32 → Int32 → zH → Option (Int32 × zH)} (H73 : ∀ (x0 : Nat) (x1 : Int32) (x2 : Int32) (h : zH), rc73 x0 x1 x2 h = some p → Zt X 4 0 0 73 [(0, .ref x0), (1, .int x1), (2, .int x2)] [] h) : ∀ n : Nat, ∀ (x0 : Nat) (x1 : Int32) (x2 : Int32) (x3 : Int32) (h : zH), f_Model_search_98 N rc67 rc73 n x0 x1 x2 x3 h = some p → Zt X 4 0 0 98 [(0, .ref x0), (1, .int x1), (2, .int x2), (3, .int x3)] [] h := by
  intro n
  induction n with
  | zero => intro x0 x1 x2 x3 h hf; cases hf
  | succ n ih =>
  intro x0 x1 x2 x3 h hf
  have H98 := ih
  replace hf : b_Model_search_98 N rc67 rc73 (f_Model_search_98 N rc67 rc73 n) x0 x1 x2 x3 h = some p := hf
  unfold b_Model_search_98 at hf
  refine z_iload_n C 3 d_Model_search_98 rfl rfl ?_
  refine z_iload_n C 1 d_Model_search_99 rfl rfl ?_
  refine z_if_ne (tgt := 108) C d_Model_search_100 (by decide) hf (fun hf => ?_) (fun hf => ?_)
  · refine z_bipush C (v := (24 : Int32)) d_Model_search_108 (by decide) ?_
    refine z_aload_n C 0 d_Model_search_110 rfl rfl ?_
    refine z_getI C 0 7 rfl in_Model (by decide) w_748 rfl d_Model_search_111 hf (fun v2 hf => ?_)
    refine z_iadd C d_Model_search_114 ?_
    refine z_sub [0, 1, 2, 3] rfl ?_
    exact k_Model_search_115 N C E H67 H73 H98 _ _ _ _ _ _ _ hf
  · refine z_bipush C (v := (49 : Int32)) d_Model_search_103 (by decide) ?_
    refine z_goto (tgt := 115) C d_Model_search_105 (by decide) ?_
    refine z_sub [0, 1, 2, 3] rfl ?_
    exact k_Model_search_115 N C E H67 H73 H98 _ _ _ _ _ _ _ hf

set_option maxHeartbeats 4000000 in
set_option maxRecDepth 100000 in
theorem k_Model_search_97 (N : Nat) {X : zX} (C : zB X prog_10_method_22_code 4 R_Model rm_Model_search) {h0 : zH} {p : Int32 × zH} (E : zR X (some .boolean) rm_Model_search h0 (some (.int p.1)) p.2) {rc67 : Nat → Int32 → zH → Option (Int32 × zH)} (H67 : ∀ (x0 : Nat) (x1 : Int32) (h : zH), rc67 x0 x1 h = some p → Zt X 4 0 0 67 [(0, .ref x0), (1, .int x1)] [] h) {rc73 : Nat → Int32 → Int32 → zH → Option (Int32 × zH)} (H73 : ∀ (x0 : Nat) (x1 : Int32) (x2 : Int32) (h : zH), rc73 x0 x1 x2 h = some p → Zt X 4 0 0 73 [(0, .ref x0), (1, .int x1), (2, .int x2)] [] h) : ∀ (x0 : Nat) (x1 : Int32) (x2 : Int32) (s0 : Int32) (h : zH), f_Model_search_97 N rc67 rc73 x0 x1 x2 s0 h = some p → Zt X 4 0 0 97 [(0, .ref x0), (1, .int x1), (2, .int x2)] [.int s0] h := by
  intro x0 x1 x2 s0 h hf
  unfold f_Model_search_97 at hf
  refine z_istore_n C (lv' := [(3, .int s0), (0, .ref x0), (1, .int x1), (2, .int x2)]) d_Model_search_97 rfl (by decide) rfl ?_
  refine z_sub [1, 2, 3, 0] rfl ?_
  exact k_Model_search_98 N C E H67 H73 N _ _ _ _ _ hf

set_option maxHeartbeats 4000000 in
set_option maxRecDepth 100000 in
theorem k_Model_search_73 (N : Nat) {X : zX} (C : zB X prog_10_method_22_code 4 R_Model rm_Model_search) {h0 : zH} {p : Int32 × zH} (E : zR X (some .boolean) rm_Model_search h0 (some (.int p.1)) p.2) {rc67 : Nat → Int32 → zH → Option (Int32 × zH)} (H67 : ∀ (x0 : Nat) (x1 : Int32) (h : zH), rc67 x0 x1 h = some p → Zt X 4 0 0 67 [(0, .ref x0), (1, .int x1)] [] h) : ∀ n : Nat, ∀ (x0 : Nat) (x1 : Int32) (x2 : Int32) (h : zH), f_Model_search_73 N rc67 n x0 x1 x2 h = some p → Zt X 4 0 0 73 [(0, .ref x0), (1, .int x1), (2, .int x2)] [] h := by
  intro n
  induction n with
  | zero => intro x0 x1 x2 h hf; cases hf
  | succ n ih =>
  intro x0 x1 x2 h hf
  have H73 := ih
  replace hf : b_Model_search_73 N rc67 (f_Model_search_73 N rc67 n) x0 x1 x2 h = some p := hf
  unfold b_Model_search_73 at hf
  refine z_iload_n C 2 d_Model_search_73 rfl rfl ?_
  refine z_aload_n C 0 d_Model_search_74 rfl rfl ?_
  refine z_getI C 0 1 rfl in_Model (by decide) w_742 rfl d_Model_search_75 hf (fun v3 hf => ?_)
  refine z_ic_gt (tgt := 137) C d_Model_search_78 (by decide) hf (fun hf => ?_) (fun hf => ?_)
  · refine z_iinc C (v := (x1 + (-1 : Int32))) (lv' := [(1, .int (x1 + (-1 : Int32))), (0, .ref x0), (2, .int x2)]) 1 d_Model_search_137 rfl (by rfl) (by decide) rfl ?_
    refine z_goto (tgt := 67) C d_Model_search_140 (by decide) ?_
    refine z_sub [1, 0] rfl ?_
    exact H67 _ _ _ hf
  · refine z_iload_n C 1 d_Model_search_81 rfl rfl ?_
    refine z_if_ne (tgt := 90) C d_Model_search_82 (by decide) hf (fun hf => ?_) (fun hf => ?_)
    · refine z_bipush C (v := (24 : Int32)) d_Model_search_90 (by decide) ?_
      refine z_aload_n C 0 d_Model_search_92 rfl rfl ?_
      refine z_getI C 0 7 rfl in_Model (by decide) w_748 rfl d_Model_search_93 hf (fun v4 hf => ?_)
      refine z_isub C d_Model_search_96 ?_
      refine z_sub [0, 1, 2] rfl ?_
      exact k_Model_search_97 N C E H67 H73 _ _ _ _ _ hf
    · refine z_bipush C (v := (49 : Int32)) d_Model_search_85 (by decide) ?_
      refine z_goto (tgt := 97) C d_Model_search_87 (by decide) ?_
      refine z_sub [0, 1, 2] rfl ?_
      exact k_Model_search_97 N C E H67 H73 _ _ _ _ _ hf

set_option maxHeartbeats 4000000 in
set_option maxRecDepth 100000 in
theorem k_Model_search_67 (N : Nat) {X : zX} (C : zB X prog_10_method_22_code 4 R_Model rm_Model_search) {h0 : zH} {p : Int32 × zH} (E : zR X (some .boolean) rm_Model_search h0 (some (.int p.1)) p.2) : ∀ n : Nat, ∀ (x0 : Nat) (x1 : Int32) (h : zH), f_Model_search_67 N n x0 x1 h = some p → Zt X 4 0 0 67 [(0, .ref x0), (1, .int x1)] [] h := by
  intro n
  induction n with
  | zero => intro x0 x1 h hf; cases hf
  | succ n ih =>
  intro x0 x1 h hf
  have H67 := ih
  replace hf : b_Model_search_67 N (f_Model_search_67 N n) x0 x1 h = some p := hf
  unfold b_Model_search_67 at hf
  refine z_iload_n C 1 d_Model_search_67 rfl rfl ?_
  refine z_if_lt (tgt := 143) C d_Model_search_68 (by decide) hf (fun hf => ?_) (fun hf => ?_)
  · refine z_aload_n C 0 d_Model_search_143 rfl rfl ?_
    obtain ⟨p5, hc, hf⟩ := Option.bind_eq_some_iff.mp hf
    obtain ⟨hz, hc⟩ := zck_some hc
    refine z_callV C (ci := 0) (c_Model_firstLevel N C.2.2.1 hc) rfl hz w_944 w_66 w_941 w_943 w_45 pd_Model_firstLevel rfl ⟨(Nat.le_of_ble_eq_true rfl), (Nat.le_of_ble_eq_true rfl)⟩ ⟨(Nat.le_of_ble_eq_true rfl), (Nat.le_of_ble_eq_true rfl)⟩ rfl (Nat.le_of_ble_eq_true rfl) d_Model_search_144 (k' := 0) (n' := 0) (stk' := [.int p5.1]) rfl rfl rfl ?_
    refine z_if_lt (tgt := 154) C d_Model_search_147 (by decide) hf (fun hf => ?_) (fun hf => ?_)
    · refine z_iconst C (v := (0 : Int32)) d_Model_search_154 (by decide) ?_
      exact z_zret C E (Nat.le_of_ble_eq_true rfl) (Nat.le_of_ble_eq_true rfl) d_Model_search_155 hf
    · refine z_iconst C (v := (1 : Int32)) d_Model_search_150 (by decide) ?_
      refine z_goto (tgt := 155) C d_Model_search_151 (by decide) ?_
      exact z_zret C E (Nat.le_of_ble_eq_true rfl) (Nat.le_of_ble_eq_true rfl) d_Model_search_155 hf
  · refine z_iconst C (v := (0 : Int32)) d_Model_search_71 (by decide) ?_
    refine z_istore_n C (lv' := [(2, .int (0 : Int32)), (0, .ref x0), (1, .int x1)]) d_Model_search_72 rfl (by decide) rfl ?_
    refine z_sub [1, 2, 0] rfl ?_
    exact k_Model_search_73 N C E H67 N _ _ _ _ hf

set_option maxHeartbeats 4000000 in
set_option maxRecDepth 100000 in
theorem k_Model_search_12 (N : Nat) {X : zX} (C : zB X prog_10_method_22_code 4 R_Model rm_Model_search) {h0 : zH} {p : Int32 × zH} (E : zR X (some .boolean) rm_Model_search h0 (some (.int p.1)) p.2) {rc2 : Nat → Int32 → zH → Option (Int32 × zH)} (H2 : ∀ (x0 : Nat) (x1 : Int32) (h : zH), rc2 x0 x1 h = some p → Zt X 4 0 0 2 [(0, .ref x0), (1, .int x1)] [] h) : ∀ n : Nat, ∀ (x0 : Nat) (x1 : Int32) (x2 : Int32) (h : zH), f_Model_search_12 N rc2 n x0 x1 x2 h = some p → Zt X 4 0 0 12 [(0, .ref x0), (1, .int x1), (2, .int x2)] [] h := by
  intro n
  induction n with
  | zero => intro x0 x1 x2 h hf; cases hf
  | succ n ih =>
  intro x0 x1 x2 h hf
  have H12 := ih
  replace hf : b_Model_search_12 N rc2 (f_Model_search_12 N rc2 n) x0 x1 x2 h = some p := hf
  unfold b_Model_search_12 at hf
  refine z_iload_n C 2 d_Model_search_12 rfl rfl ?_
  refine z_bipush C (v := (50 : Int32)) d_Model_search_13 (by decide) ?_
  refine z_ic_ge (tgt := 54) C d_Model_search_15 (by decide) hf (fun hf => ?_) (fun hf => ?_)
  · refine z_iinc C (v := (x1 + (1 : Int32))) (lv' := [(1, .int (x1 + (1 : Int32))), (0, .ref x0), (2, .int x2)]) 1 d_Model_search_54 rfl (by rfl) (by decide) rfl ?_
    refine z_goto (tgt := 2) C d_Model_search_57 (by decide) ?_
    refine z_sub [1, 0] rfl ?_
    exact H2 _ _ _ hf
  · refine z_aload_n C 0 d_Model_search_18 rfl rfl ?_
    refine z_getR C 0 15 rfl in_Model (by decide) w_756 rfl d_Model_search_19 hf (fun v6 hf => ?_)
    refine z_aload_n C 0 d_Model_search_22 rfl rfl ?_
    refine z_getI C 0 0 rfl in_Model (by decide) w_741 rfl d_Model_search_23 hf (fun v7 hf => ?_)
    refine z_iload_n C 1 d_Model_search_26 rfl rfl ?_
    refine z_iload_n C 2 d_Model_search_27 rfl rfl ?_
    obtain ⟨p8, hc, hf⟩ := Option.bind_eq_some_iff.mp hf
    refine z_callS C (c_Model_at N C.2.2.1 hc) w_919 w_66 w_917 w_918 pd_Model_at rfl ⟨(Nat.le_of_ble_eq_true rfl), (Nat.le_of_ble_eq_true rfl)⟩ ⟨(Nat.le_of_ble_eq_true rfl), (Nat.le_of_ble_eq_true rfl)⟩ rfl (Nat.le_of_ble_eq_true rfl) d_Model_search_28 (k' := 0) (n' := 0) (stk' := [.int p8.1, .ref v6]) rfl rfl rfl ?_
    refine z_lconst C (v := (0 : Int64)) d_Model_search_31 (by decide) ?_
    refine z_last C d_Model_search_32 hf (fun h9 hf => ?_)
    refine z_aload_n C 0 d_Model_search_33 rfl rfl ?_
    refine z_getR C 0 16 rfl in_Model (by decide) w_757 rfl d_Model_search_34 hf (fun v10 hf => ?_)
    refine z_aload_n C 0 d_Model_search_37 rfl rfl ?_
    refine z_getI C 0 0 rfl in_Model (by decide) w_741 rfl d_Model_search_38 hf (fun v11 hf => ?_)
    refine z_iload_n C 1 d_Model_search_41 rfl rfl ?_
    refine z_iload_n C 2 d_Model_search_42 rfl rfl ?_
    obtain ⟨p12, hc, hf⟩ := Option.bind_eq_some_iff.mp hf
    refine z_callS C (c_Model_at N C.2.2.1 hc) w_919 w_66 w_917 w_918 pd_Model_at rfl ⟨(Nat.le_of_ble_eq_true rfl), (Nat.le_of_ble_eq_true rfl)⟩ ⟨(Nat.le_of_ble_eq_true rfl), (Nat.le_of_ble_eq_true rfl)⟩ rfl (Nat.le_of_ble_eq_true rfl) d_Model_search_43 (k' := 0) (n' := 0) (stk' := [.int p12.1, .ref v10]) rfl rfl rfl ?_
    refine z_iconst C (v := (0 : Int32)) d_Model_search_46 (by decide) ?_
    refine z_iast C d_Model_search_47 hf (fun h13 hf => ?_)
    refine z_iinc C (v := (x2 + (1 : Int32))) (lv' := [(2, .int (x2 + (1 : Int32))), (0, .ref x0), (1, .int x1)]) 2 d_Model_search_48 rfl (by rfl) (by decide) rfl ?_
    refine z_goto (tgt := 12) C d_Model_search_51 (by decide) ?_
    refine z_sub [1, 2, 0] rfl ?_
    exact H12 _ _ _ _ hf

set_option maxHeartbeats 4000000 in
set_option maxRecDepth 100000 in
theorem k_Model_search_2 (N : Nat) {X : zX} (C : zB X prog_10_method_22_code 4 R_Model rm_Model_search) {h0 : zH} {p : Int32 × zH} (E : zR X (some .boolean) rm_Model_search h0 (some (.int p.1)) p.2) : ∀ n : Nat, ∀ (x0 : Nat) (x1 : Int32) (h : zH), f_Model_search_2 N n x0 x1 h = some p → Zt X 4 0 0 2 [(0, .ref x0), (1, .int x1)] [] h := by
  intro n
  induction n with
  | zero => intro x0 x1 h hf; cases hf
  | succ n ih =>
  intro x0 x1 h hf
  have H2 := ih
  replace hf : b_Model_search_2 N (f_Model_search_2 N n) x0 x1 h = some p := hf
  unfold b_Model_search_2 at hf
  refine z_iload_n C 1 d_Model_search_2 rfl rfl ?_
  refine z_aload_n C 0 d_Model_search_3 rfl rfl ?_
  refine z_getI C 0 1 rfl in_Model (by decide) w_742 rfl d_Model_search_4 hf (fun v14 hf => ?_)
  refine z_ic_gt (tgt := 60) C d_Model_search_7 (by decide) hf (fun hf => ?_) (fun hf => ?_)
  · refine z_aload_n C 0 d_Model_search_60 rfl rfl ?_
    refine z_getI C 0 0 rfl in_Model (by decide) w_741 rfl d_Model_search_61 hf (fun v15 hf => ?_)
    refine z_iconst C (v := (1 : Int32)) d_Model_search_64 (by decide) ?_
    refine z_isub C d_Model_search_65 ?_
    refine z_istore_n C (lv' := [(1, .int (v15 - (1 : Int32))), (0, .ref x0)]) d_Model_search_66 rfl (by decide) rfl ?_
    refine z_sub [1, 0] rfl ?_
    exact k_Model_search_67 N C E N _ _ _ hf
  · refine z_iconst C (v := (0 : Int32)) d_Model_search_10 (by decide) ?_
    refine z_istore_n C (lv' := [(2, .int (0 : Int32)), (0, .ref x0), (1, .int x1)]) d_Model_search_11 rfl (by decide) rfl ?_
    refine z_sub [1, 2, 0] rfl ?_
    exact k_Model_search_12 N C E H2 N _ _ _ _ hf

set_option maxHeartbeats 4000000 in
set_option maxRecDepth 100000 in
theorem k_Model_search (N : Nat) {X : zX} (C : zB X prog_10_method_22_code 4 R_Model rm_Model_search) {h0 : zH} {p : Int32 × zH} (E : zR X (some .boolean) rm_Model_search h0 (some (.int p.1)) p.2) : ∀ (x0 : Nat) (h : zH), f_Model_search N x0 h = some p → Zt X 4 0 0 0 [(0, .ref x0)] [] h := by
  intro x0 h hf
  unfold f_Model_search at hf
  refine z_iconst C (v := (0 : Int32)) d_Model_search_0 (by decide) ?_
  refine z_istore_n C (lv' := [(1, .int (0 : Int32)), (0, .ref x0)]) d_Model_search_1 rfl (by decide) rfl ?_
  refine z_sub [1, 0] rfl ?_
  exact k_Model_search_2 N C E N _ _ _ hf

theorem c_Model_search (N : Nat) {l : Launch} {D : va_G} {T : List (ClassId × FieldType)} (hT : T.map (fun q => q.2) = ztl) {x0 : Nat} {h : zH} {p : Int32 × zH} (hf : f_Model_search N x0 h = some p) : zM l y_Model_search prog_10_method_22_code 4 (some .boolean) rm_Model_search D T [.ref x0] h (some (.int p.1)) p.2 :=
  z_enter (by decide) hT (Nat.le_of_ble_eq_true rfl) (fun X el eD eT hin C E => k_Model_search N C E x0 h hf)
/-! ===== LevelTablesModel.move(II)Z ===== -/
abbrev y_Model_move : MethodName := ⟨R_Model, "move", "(II)Z"⟩
theorem pd_Model_move : y_Model_move.cls ≠ "java/lang/invoke/MethodHandle" ∧ y_Model_move.cls ≠ "java/lang/invoke/VarHandle" ∧ (parseMethodDescriptor y_Model_move.desc).map (fun d => d.parameters.length) = some 2 := ⟨by decide +kernel, by decide +kernel, by decide +kernel⟩
abbrev rm_Model_move : Room := { frames := 5, cells := 0, slots := 0, locals := 126 }
def f_Model_move_30 (N : Nat) (x0 : Nat) (x1 : Int32) (x2 : Int32) (h : zH) : Option (Int32 × zH) :=
  Option.bind (zgR h x0 0 6) fun (v1 : Nat) =>
  Option.bind (zaI h 0 v1 x1) fun (v2 : Int32) =>
  Option.bind (zgR h x0 0 6) fun (v3 : Nat) =>
  Option.bind (zsI h 0 v3 x1 x2) fun (h4 : zH) =>
  Option.bind (zck (zis h4 x0 0) (f_Model_search N x0  h4)) fun (p5 : Int32 × zH) =>
  (if p5.1 = 0 then
    Option.bind (zgR p5.2 x0 0 6) fun (v9 : Nat) =>
    Option.bind (zsI p5.2 0 v9 x1 v2) fun (h10 : zH) =>
    zrb (0 : Int32) h10
  else
    Option.bind (zpZ p5.2 x0 0 19 (0 : Int32)) fun (h6 : zH) =>
    Option.bind (zck (zis h6 x0 0) (f_Model_dropCurves N x0  h6)) fun (p7 : Unit × zH) =>
    Option.bind (zck (zis p7.2 x0 0) (f_Model_goAlong N x0  p7.2)) fun (p8 : Unit × zH) =>
    zrb (1 : Int32) p8.2)
def f_Model_move (N : Nat) (x0 : Nat) (x1 : Int32) (x2 : Int32) (h : zH) : Option (Int32 × zH) :=
  Option.bind (zgI h x0 0 24) fun (v11 : Int32) =>
  (if v11 = 0 then
    zrb (0 : Int32) h
  else
    Option.bind (zck (zis h x0 0) (f_Model_isPlace N x0 x1 h)) fun (p12 : Int32 × zH) =>
    (if p12.1 = 0 then
      zrb (0 : Int32) p12.2
    else
      (if x2 = (-1 : Int32) then
        f_Model_move_30 N x0 x1 x2 p12.2
      else
        Option.bind (zck (zis p12.2 x0 0) (f_Model_isLevel N x0 x2 p12.2)) fun (p13 : Int32 × zH) =>
        (if p13.1 = 0 then
          zrb (0 : Int32) p13.2
        else
          f_Model_move_30 N x0 x1 x2 p13.2))))
theorem d_Model_move_0 : decode prog_10_method_28_code 0 = .ok (.aload_n (0), 1) := by decide +kernel
theorem d_Model_move_1 : decode prog_10_method_28_code 1 = .ok (.getfield (95), 3) := by decide +kernel
theorem d_Model_move_4 : decode prog_10_method_28_code 4 = .ok (.ifCond .eq (24), 3) := by decide +kernel
theorem d_Model_move_7 : decode prog_10_method_28_code 7 = .ok (.aload_n (0), 1) := by decide +kernel
theorem d_Model_move_8 : decode prog_10_method_28_code 8 = .ok (.iload_n (1), 1) := by decide +kernel
theorem d_Model_move_9 : decode prog_10_method_28_code 9 = .ok (.invokevirtual (105), 3) := by decide +kernel
theorem d_Model_move_12 : decode prog_10_method_28_code 12 = .ok (.ifCond .eq (16), 3) := by decide +kernel
theorem d_Model_move_15 : decode prog_10_method_28_code 15 = .ok (.iload_n (2), 1) := by decide +kernel
theorem d_Model_move_16 : decode prog_10_method_28_code 16 = .ok (.iconst (-1), 1) := by decide +kernel
theorem d_Model_move_17 : decode prog_10_method_28_code 17 = .ok (.if_icmp .eq (13), 3) := by decide +kernel
theorem d_Model_move_20 : decode prog_10_method_28_code 20 = .ok (.aload_n (0), 1) := by decide +kernel
theorem d_Model_move_21 : decode prog_10_method_28_code 21 = .ok (.iload_n (2), 1) := by decide +kernel
theorem d_Model_move_22 : decode prog_10_method_28_code 22 = .ok (.invokevirtual (109), 3) := by decide +kernel
theorem d_Model_move_25 : decode prog_10_method_28_code 25 = .ok (.ifCond .ne (5), 3) := by decide +kernel
theorem d_Model_move_28 : decode prog_10_method_28_code 28 = .ok (.iconst (0), 1) := by decide +kernel
theorem d_Model_move_29 : decode prog_10_method_28_code 29 = .ok (.ireturn, 1) := by decide +kernel
theorem d_Model_move_30 : decode prog_10_method_28_code 30 = .ok (.aload_n (0), 1) := by decide +kernel
theorem d_Model_move_31 : decode prog_10_method_28_code 31 = .ok (.getfield (22), 3) := by decide +kernel
theorem d_Model_move_34 : decode prog_10_method_28_code 34 = .ok (.iload_n (1), 1) := by decide +kernel
theorem d_Model_move_35 : decode prog_10_method_28_code 35 = .ok (.iaload, 1) := by decide +kernel
theorem d_Model_move_36 : decode prog_10_method_28_code 36 = .ok (.istore_n (3), 1) := by decide +kernel
theorem d_Model_move_37 : decode prog_10_method_28_code 37 = .ok (.aload_n (0), 1) := by decide +kernel
theorem d_Model_move_38 : decode prog_10_method_28_code 38 = .ok (.getfield (22), 3) := by decide +kernel
theorem d_Model_move_41 : decode prog_10_method_28_code 41 = .ok (.iload_n (1), 1) := by decide +kernel
theorem d_Model_move_42 : decode prog_10_method_28_code 42 = .ok (.iload_n (2), 1) := by decide +kernel
theorem d_Model_move_43 : decode prog_10_method_28_code 43 = .ok (.iastore, 1) := by decide +kernel
theorem d_Model_move_44 : decode prog_10_method_28_code 44 = .ok (.aload_n (0), 1) := by decide +kernel
theorem d_Model_move_45 : decode prog_10_method_28_code 45 = .ok (.invokevirtual (179), 3) := by decide +kernel
theorem d_Model_move_48 : decode prog_10_method_28_code 48 = .ok (.ifCond .ne (12), 3) := by decide +kernel
theorem d_Model_move_51 : decode prog_10_method_28_code 51 = .ok (.aload_n (0), 1) := by decide +kernel
theorem d_Model_move_52 : decode prog_10_method_28_code 52 = .ok (.getfield (22), 3) := by decide +kernel
theorem d_Model_move_55 : decode prog_10_method_28_code 55 = .ok (.iload_n (1), 1) := by decide +kernel
theorem d_Model_move_56 : decode prog_10_method_28_code 56 = .ok (.iload_n (3), 1) := by decide +kernel
theorem d_Model_move_57 : decode prog_10_method_28_code 57 = .ok (.iastore, 1) := by decide +kernel
theorem d_Model_move_58 : decode prog_10_method_28_code 58 = .ok (.iconst (0), 1) := by decide +kernel
theorem d_Model_move_59 : decode prog_10_method_28_code 59 = .ok (.ireturn, 1) := by decide +kernel
theorem d_Model_move_60 : decode prog_10_method_28_code 60 = .ok (.aload_n (0), 1) := by decide +kernel
theorem d_Model_move_61 : decode prog_10_method_28_code 61 = .ok (.iconst (0), 1) := by decide +kernel
theorem d_Model_move_62 : decode prog_10_method_28_code 62 = .ok (.putfield (99), 3) := by decide +kernel
theorem d_Model_move_65 : decode prog_10_method_28_code 65 = .ok (.aload_n (0), 1) := by decide +kernel
theorem d_Model_move_66 : decode prog_10_method_28_code 66 = .ok (.invokevirtual (102), 3) := by decide +kernel
theorem d_Model_move_69 : decode prog_10_method_28_code 69 = .ok (.aload_n (0), 1) := by decide +kernel
theorem d_Model_move_70 : decode prog_10_method_28_code 70 = .ok (.invokevirtual (183), 3) := by decide +kernel
theorem d_Model_move_73 : decode prog_10_method_28_code 73 = .ok (.iconst (1), 1) := by decide +kernel
theorem d_Model_move_74 : decode prog_10_method_28_code 74 = .ok (.ireturn, 1) := by decide +kernel
set_option maxHeartbeats 4000000 in
set_option maxRecDepth 100000 in
theorem k_Model_move_30 (N : Nat) {X : zX} (C : zB X prog_10_method_28_code 4 R_Model rm_Model_move) {h0 : zH} {p : Int32 × zH} (E : zR X (some .boolean) rm_Model_move h0 (some (.int p.1)) p.2) : ∀ (x0 : Nat) (x1 : Int32) (x2 : Int32) (h : zH), f_Model_move_30 N x0 x1 x2 h = some p → Zt X 4 0 0 30 [(0, .ref x0), (1, .int x1), (2, .int x2)] [] h := by
  intro x0 x1 x2 h hf
  unfold f_Model_move_30 at hf
  refine z_aload_n C 0 d_Model_move_30 rfl rfl ?_
  refine z_getR C 0 6 rfl in_Model (by decide) w_747 rfl d_Model_move_31 hf (fun v1 hf => ?_)
  refine z_iload_n C 1 d_Model_move_34 rfl rfl ?_
  refine z_iald C d_Model_move_35 hf (fun v2 hf => ?_)
  refine z_istore_n C (lv' := [(3, .int v2), (0, .ref x0), (1, .int x1), (2, .int x2)]) d_Model_move_36 rfl (by decide) rfl ?_
  refine z_aload_n C 1 d_Model_move_37 rfl rfl ?_
  refine z_getR C 0 6 rfl in_Model (by decide) w_747 rfl d_Model_move_38 hf (fun v3 hf => ?_)
  refine z_iload_n C 2 d_Model_move_41 rfl rfl ?_
  refine z_iload_n C 3 d_Model_move_42 rfl rfl ?_
  refine z_iast C d_Model_move_43 hf (fun h4 hf => ?_)
  refine z_aload_n C 1 d_Model_move_44 rfl rfl ?_
  obtain ⟨p5, hc, hf⟩ := Option.bind_eq_some_iff.mp hf
  obtain ⟨hz, hc⟩ := zck_some hc
  refine z_callV C (ci := 0) (c_Model_search N C.2.2.1 hc) rfl hz w_916 w_66 w_913 w_915 w_39 pd_Model_search rfl ⟨(Nat.le_of_ble_eq_true rfl), (Nat.le_of_ble_eq_true rfl)⟩ ⟨(Nat.le_of_ble_eq_true rfl), (Nat.le_of_ble_eq_true rfl)⟩ rfl (Nat.le_of_ble_eq_true rfl) d_Model_move_45 (k' := 0) (n' := 0) (stk' := [.int p5.1]) rfl rfl rfl ?_
  refine z_if_ne (tgt := 60) C d_Model_move_48 (by decide) hf (fun hf => ?_) (fun hf => ?_)
  · refine z_aload_n C 1 d_Model_move_60 rfl rfl ?_
    refine z_iconst C (v := (0 : Int32)) d_Model_move_61 (by decide) ?_
    refine z_putZ C 0 19 ty_Model rfl in_Model tyok_Model nm_Model (by decide) w_760 rfl (Or.inl rfl) rfl d_Model_move_62 hf (fun h6 hf => ?_)
    refine z_aload_n C 1 d_Model_move_65 rfl rfl ?_
    obtain ⟨p7, hc, hf⟩ := Option.bind_eq_some_iff.mp hf
    obtain ⟨hz, hc⟩ := zck_some hc
    refine z_callV C (ci := 0) (c_Model_dropCurves N C.2.2.1 hc) rfl hz w_867 w_66 w_864 w_866 w_35 pd_Model_dropCurves rfl ⟨(Nat.le_of_ble_eq_true rfl), (Nat.le_of_ble_eq_true rfl)⟩ ⟨(Nat.le_of_ble_eq_true rfl), (Nat.le_of_ble_eq_true rfl)⟩ rfl (Nat.le_of_ble_eq_true rfl) d_Model_move_66 (k' := 0) (n' := 0) (stk' := []) rfl rfl rfl ?_
    refine z_aload_n C 1 d_Model_move_69 rfl rfl ?_
    obtain ⟨p8, hc, hf⟩ := Option.bind_eq_some_iff.mp hf
    obtain ⟨hz, hc⟩ := zck_some hc
    refine z_callV C (ci := 0) (c_Model_goAlong N C.2.2.1 hc) rfl hz w_948 w_66 w_945 w_947 w_46 pd_Model_goAlong rfl ⟨(Nat.le_of_ble_eq_true rfl), (Nat.le_of_ble_eq_true rfl)⟩ ⟨(Nat.le_of_ble_eq_true rfl), (Nat.le_of_ble_eq_true rfl)⟩ rfl (Nat.le_of_ble_eq_true rfl) d_Model_move_70 (k' := 0) (n' := 0) (stk' := []) rfl rfl rfl ?_
    refine z_iconst C (v := (1 : Int32)) d_Model_move_73 (by decide) ?_
    exact z_zret C E (Nat.le_of_ble_eq_true rfl) (Nat.le_of_ble_eq_true rfl) d_Model_move_74 hf
  · refine z_aload_n C 1 d_Model_move_51 rfl rfl ?_
    refine z_getR C 0 6 rfl in_Model (by decide) w_747 rfl d_Model_move_52 hf (fun v9 hf => ?_)
    refine z_iload_n C 2 d_Model_move_55 rfl rfl ?_
    refine z_iload_n C 0 d_Model_move_56 rfl rfl ?_
    refine z_iast C d_Model_move_57 hf (fun h10 hf => ?_)
    refine z_iconst C (v := (0 : Int32)) d_Model_move_58 (by decide) ?_
    exact z_zret C E (Nat.le_of_ble_eq_true rfl) (Nat.le_of_ble_eq_true rfl) d_Model_move_59 hf

set_option maxHeartbeats 4000000 in
set_option maxRecDepth 100000 in
theorem k_Model_move (N : Nat) {X : zX} (C : zB X prog_10_method_28_code 4 R_Model rm_Model_move) {h0 : zH} {p : Int32 × zH} (E : zR X (some .boolean) rm_Model_move h0 (some (.int p.1)) p.2) : ∀ (x0 : Nat) (x1 : Int32) (x2 : Int32) (h : zH), f_Model_move N x0 x1 x2 h = some p → Zt X 4 0 0 0 [(0, .ref x0), (1, .int x1), (2, .int x2)] [] h := by
  intro x0 x1 x2 h hf
  unfold f_Model_move at hf
  refine z_aload_n C 0 d_Model_move_0 rfl rfl ?_
  refine z_getI C 0 24 rfl in_Model (by decide) w_765 rfl d_Model_move_1 hf (fun v11 hf => ?_)
  refine z_if_eq (tgt := 28) C d_Model_move_4 (by decide) hf (fun hf => ?_) (fun hf => ?_)
  · refine z_iconst C (v := (0 : Int32)) d_Model_move_28 (by decide) ?_
    exact z_zret C E (Nat.le_of_ble_eq_true rfl) (Nat.le_of_ble_eq_true rfl) d_Model_move_29 hf
  · refine z_aload_n C 0 d_Model_move_7 rfl rfl ?_
    refine z_iload_n C 1 d_Model_move_8 rfl rfl ?_
    obtain ⟨p12, hc, hf⟩ := Option.bind_eq_some_iff.mp hf
    obtain ⟨hz, hc⟩ := zck_some hc
    refine z_callV C (ci := 0) (c_Model_isPlace N C.2.2.1 hc) rfl hz w_855 w_66 w_852 w_854 w_32 pd_Model_isPlace rfl ⟨(Nat.le_of_ble_eq_true rfl), (Nat.le_of_ble_eq_true rfl)⟩ ⟨(Nat.le_of_ble_eq_true rfl), (Nat.le_of_ble_eq_true rfl)⟩ rfl (Nat.le_of_ble_eq_true rfl) d_Model_move_9 (k' := 0) (n' := 0) (stk' := [.int p12.1]) rfl rfl rfl ?_
    refine z_if_eq (tgt := 28) C d_Model_move_12 (by decide) hf (fun hf => ?_) (fun hf => ?_)
    · refine z_iconst C (v := (0 : Int32)) d_Model_move_28 (by decide) ?_
      exact z_zret C E (Nat.le_of_ble_eq_true rfl) (Nat.le_of_ble_eq_true rfl) d_Model_move_29 hf
    · refine z_iload_n C 2 d_Model_move_15 rfl rfl ?_
      refine z_iconst C (v := (-1 : Int32)) d_Model_move_16 (by decide) ?_
      refine z_ic_eq (tgt := 30) C d_Model_move_17 (by decide) hf (fun hf => ?_) (fun hf => ?_)
      · refine z_sub [0, 1, 2] rfl ?_
        exact k_Model_move_30 N C E _ _ _ _ hf
      · refine z_aload_n C 0 d_Model_move_20 rfl rfl ?_
        refine z_iload_n C 2 d_Model_move_21 rfl rfl ?_
        obtain ⟨p13, hc, hf⟩ := Option.bind_eq_some_iff.mp hf
        obtain ⟨hz, hc⟩ := zck_some hc
        refine z_callV C (ci := 0) (c_Model_isLevel N C.2.2.1 hc) rfl hz w_859 w_66 w_856 w_858 w_33 pd_Model_isLevel rfl ⟨(Nat.le_of_ble_eq_true rfl), (Nat.le_of_ble_eq_true rfl)⟩ ⟨(Nat.le_of_ble_eq_true rfl), (Nat.le_of_ble_eq_true rfl)⟩ rfl (Nat.le_of_ble_eq_true rfl) d_Model_move_22 (k' := 0) (n' := 0) (stk' := [.int p13.1]) rfl rfl rfl ?_
        refine z_if_ne (tgt := 30) C d_Model_move_25 (by decide) hf (fun hf => ?_) (fun hf => ?_)
        · refine z_sub [0, 1, 2] rfl ?_
          exact k_Model_move_30 N C E _ _ _ _ hf
        · refine z_iconst C (v := (0 : Int32)) d_Model_move_28 (by decide) ?_
          exact z_zret C E (Nat.le_of_ble_eq_true rfl) (Nat.le_of_ble_eq_true rfl) d_Model_move_29 hf

theorem c_Model_move (N : Nat) {l : Launch} {D : va_G} {T : List (ClassId × FieldType)} (hT : T.map (fun q => q.2) = ztl) {x0 : Nat} {x1 : Int32} {x2 : Int32} {h : zH} {p : Int32 × zH} (hf : f_Model_move N x0 x1 x2 h = some p) : zM l y_Model_move prog_10_method_28_code 4 (some .boolean) rm_Model_move D T [.ref x0, .int x1, .int x2] h (some (.int p.1)) p.2 :=
  z_enter (by decide) hT (Nat.le_of_ble_eq_true rfl) (fun X el eD eT hin C E => k_Model_move N C E x0 x1 x2 h hf)
/-! ===== LevelTablesModel.list(III)V ===== -/
abbrev y_Model_list : MethodName := ⟨R_Model, "list", "(III)V"⟩
theorem pd_Model_list : y_Model_list.cls ≠ "java/lang/invoke/MethodHandle" ∧ y_Model_list.cls ≠ "java/lang/invoke/VarHandle" ∧ (parseMethodDescriptor y_Model_list.desc).map (fun d => d.parameters.length) = some 3 := ⟨by decide +kernel, by decide +kernel, by decide +kernel⟩
abbrev rm_Model_list : Room := { frames := 3, cells := 0, slots := 0, locals := 70 }
def f_Model_list_180 (N : Nat) (rc30 : Nat → Int32 → Int32 → Int32 → Int32 → Int32 → Int32 → zH → Option (Unit × zH)) (x0 : Nat) (x1 : Int32) (x2 : Int32) (x3 : Int32) (x4 : Int32) (x5 : Int32) (x6 : Int32) (h : zH) : Option (Unit × zH) :=
  rc30 x0 x1 x2 x3 x4 x5 (x6 + (1 : Int32)) h
def f_Model_list_98 (N : Nat) (rc30 : Nat → Int32 → Int32 → Int32 → Int32 → Int32 → Int32 → zH → Option (Unit × zH)) (x0 : Nat) (x1 : Int32) (x2 : Int32) (x3 : Int32) (x4 : Int32) (x5 : Int32) (x6 : Int32) (h : zH) : Option (Unit × zH) :=
  (if x5 < 0 then
    f_Model_list_180 N rc30 x0 x1 x2 x3 x4 x5 x6 h
  else
    Option.bind (zck (zis h x0 0) (f_Model_mayUse N x0 x5 x2 x6 h)) fun (p1 : Int32 × zH) =>
    (if p1.1 = 0 then
      f_Model_list_180 N rc30 x0 x1 x2 x3 x4 x5 x6 p1.2
    else
      Option.bind (zgR p1.2 x0 0 12) fun (v2 : Nat) =>
      Option.bind (zaI p1.2 0 v2 x5) fun (v3 : Int32) =>
      Option.bind (zgR p1.2 x0 0 12) fun (v4 : Nat) =>
      Option.bind (zaI p1.2 0 v4 x5) fun (v5 : Int32) =>
      Option.bind (f_Model_at N v5 (x2 + ((v3 - x1) * x6)) (x6 + (24 : Int32)) p1.2) fun (p6 : Int32 × zH) =>
      Option.bind (zgR p6.2 x0 0 12) fun (v7 : Nat) =>
      Option.bind (zaI p6.2 0 v7 x5) fun (v8 : Int32) =>
      Option.bind (zck (zis p6.2 x0 0) (f_Model_placeCost N x0 v8 (x2 + ((v3 - x1) * x6)) p6.2)) fun (p9 : Int64 × zH) =>
      Option.bind (zgR p9.2 x0 0 14) fun (v10 : Nat) =>
      Option.bind (zaJ p9.2 1 v10 x5) fun (v11 : Int64) =>
      Option.bind (zck (zis p9.2 x0 0) (f_Model_listFrom N x0 x4 p6.1 (p9.1 + v11) p9.2)) fun (p12 : Unit × zH) =>
      f_Model_list_180 N rc30 x0 x1 x2 x3 x4 x5 x6 p12.2))
def b_Model_list_30 (N : Nat) (rc30 : Nat → Int32 → Int32 → Int32 → Int32 → Int32 → Int32 → zH → Option (Unit × zH)) (x0 : Nat) (x1 : Int32) (x2 : Int32) (x3 : Int32) (x4 : Int32) (x5 : Int32) (x6 : Int32) (h : zH) : Option (Unit × zH) :=
  Option.bind (zgI h x0 0 7) fun (v13 : Int32) =>
  (if v13 < x6 then
    some ((), h)
  else
    Option.bind (zck (zis h x0 0) (f_Model_follows N x0 x6 x3 h)) fun (p14 : Int32 × zH) =>
    (if p14.1 = 0 then
      f_Model_list_180 N rc30 x0 x1 x2 x3 x4 x5 x6 p14.2
    else
      Option.bind (zck (zis p14.2 x0 0) (f_Model_may N x0 (x1 + (1 : Int32)) (x2 + x6) p14.2)) fun (p15 : Int32 × zH) =>
      (if p15.1 = 0 then
        f_Model_list_98 N rc30 x0 x1 x2 x3 x4 x5 x6 p15.2
      else
        Option.bind (f_Model_at N (x1 + (1 : Int32)) (x2 + x6) (x6 + (24 : Int32)) p15.2) fun (p16 : Int32 × zH) =>
        Option.bind (zck (zis p16.2 x0 0) (f_Model_placeCost N x0 (x1 + (1 : Int32)) (x2 + x6) p16.2)) fun (p17 : Int64 × zH) =>
        Option.bind (zck (zis p17.2 x0 0) (f_Model_listFrom N x0 x4 p16.1 p17.1 p17.2)) fun (p18 : Unit × zH) =>
        f_Model_list_98 N rc30 x0 x1 x2 x3 x4 x5 x6 p18.2)))
def f_Model_list_30 (N : Nat) : Nat → Nat → Int32 → Int32 → Int32 → Int32 → Int32 → Int32 → zH → Option (Unit × zH)
  | 0 => fun _ _ _ _ _ _ _ _ => none
  | n + 1 => fun x0 x1 x2 x3 x4 x5 x6 h => b_Model_list_30 N (f_Model_list_30 N n) x0 x1 x2 x3 x4 x5 x6 h
def f_Model_list (N : Nat) (x0 : Nat) (x1 : Int32) (x2 : Int32) (x3 : Int32) (h : zH) : Option (Unit × zH) :=
  Option.bind (f_Model_at N x1 x2 x3 h) fun (p19 : Int32 × zH) =>
  Option.bind (zgR p19.2 x0 0 18) fun (v20 : Nat) =>
  Option.bind (zsI p19.2 0 v20 p19.1 (0 : Int32)) fun (h21 : zH) =>
  Option.bind (zck (zis h21 x0 0) (f_Model_spanAt N x0 x1 h21)) fun (p22 : Int32 × zH) =>
  Option.bind (zgI p22.2 x0 0 7) fun (v23 : Int32) =>
  f_Model_list_30 N N x0 x1 x2 x3 p19.1 p22.1 (-v23) p22.2
theorem d_Model_list_0 : decode prog_10_method_33_code 0 = .ok (.iload_n (1), 1) := by decide +kernel
theorem d_Model_list_1 : decode prog_10_method_33_code 1 = .ok (.iload_n (2), 1) := by decide +kernel
theorem d_Model_list_2 : decode prog_10_method_33_code 2 = .ok (.iload_n (3), 1) := by decide +kernel
theorem d_Model_list_3 : decode prog_10_method_33_code 3 = .ok (.invokestatic (145), 3) := by decide +kernel
theorem d_Model_list_6 : decode prog_10_method_33_code 6 = .ok (.istore (4), 2) := by decide +kernel
theorem d_Model_list_8 : decode prog_10_method_33_code 8 = .ok (.aload_n (0), 1) := by decide +kernel
theorem d_Model_list_9 : decode prog_10_method_33_code 9 = .ok (.getfield (55), 3) := by decide +kernel
theorem d_Model_list_12 : decode prog_10_method_33_code 12 = .ok (.iload (4), 2) := by decide +kernel
theorem d_Model_list_14 : decode prog_10_method_33_code 14 = .ok (.iconst (0), 1) := by decide +kernel
theorem d_Model_list_15 : decode prog_10_method_33_code 15 = .ok (.iastore, 1) := by decide +kernel
theorem d_Model_list_16 : decode prog_10_method_33_code 16 = .ok (.aload_n (0), 1) := by decide +kernel
theorem d_Model_list_17 : decode prog_10_method_33_code 17 = .ok (.iload_n (1), 1) := by decide +kernel
theorem d_Model_list_18 : decode prog_10_method_33_code 18 = .ok (.invokevirtual (139), 3) := by decide +kernel
theorem d_Model_list_21 : decode prog_10_method_33_code 21 = .ok (.istore (5), 2) := by decide +kernel
theorem d_Model_list_23 : decode prog_10_method_33_code 23 = .ok (.aload_n (0), 1) := by decide +kernel
theorem d_Model_list_24 : decode prog_10_method_33_code 24 = .ok (.getfield (25), 3) := by decide +kernel
theorem d_Model_list_27 : decode prog_10_method_33_code 27 = .ok (.ineg, 1) := by decide +kernel
theorem d_Model_list_28 : decode prog_10_method_33_code 28 = .ok (.istore (6), 2) := by decide +kernel
theorem d_Model_list_30 : decode prog_10_method_33_code 30 = .ok (.iload (6), 2) := by decide +kernel
theorem d_Model_list_32 : decode prog_10_method_33_code 32 = .ok (.aload_n (0), 1) := by decide +kernel
theorem d_Model_list_33 : decode prog_10_method_33_code 33 = .ok (.getfield (25), 3) := by decide +kernel
theorem d_Model_list_36 : decode prog_10_method_33_code 36 = .ok (.if_icmp .gt (150), 3) := by decide +kernel
theorem d_Model_list_39 : decode prog_10_method_33_code 39 = .ok (.aload_n (0), 1) := by decide +kernel
theorem d_Model_list_40 : decode prog_10_method_33_code 40 = .ok (.iload (6), 2) := by decide +kernel
theorem d_Model_list_42 : decode prog_10_method_33_code 42 = .ok (.iload_n (3), 1) := by decide +kernel
theorem d_Model_list_43 : decode prog_10_method_33_code 43 = .ok (.invokevirtual (142), 3) := by decide +kernel
theorem d_Model_list_46 : decode prog_10_method_33_code 46 = .ok (.ifCond .ne (6), 3) := by decide +kernel
theorem d_Model_list_49 : decode prog_10_method_33_code 49 = .ok (.goto (131), 3) := by decide +kernel
theorem d_Model_list_52 : decode prog_10_method_33_code 52 = .ok (.aload_n (0), 1) := by decide +kernel
theorem d_Model_list_53 : decode prog_10_method_33_code 53 = .ok (.iload_n (1), 1) := by decide +kernel
theorem d_Model_list_54 : decode prog_10_method_33_code 54 = .ok (.iconst (1), 1) := by decide +kernel
theorem d_Model_list_55 : decode prog_10_method_33_code 55 = .ok (.iadd, 1) := by decide +kernel
theorem d_Model_list_56 : decode prog_10_method_33_code 56 = .ok (.iload_n (2), 1) := by decide +kernel
theorem d_Model_list_57 : decode prog_10_method_33_code 57 = .ok (.iload (6), 2) := by decide +kernel
theorem d_Model_list_59 : decode prog_10_method_33_code 59 = .ok (.iadd, 1) := by decide +kernel
theorem d_Model_list_60 : decode prog_10_method_33_code 60 = .ok (.invokevirtual (133), 3) := by decide +kernel
theorem d_Model_list_63 : decode prog_10_method_33_code 63 = .ok (.ifCond .eq (35), 3) := by decide +kernel
theorem d_Model_list_66 : decode prog_10_method_33_code 66 = .ok (.aload_n (0), 1) := by decide +kernel
theorem d_Model_list_67 : decode prog_10_method_33_code 67 = .ok (.iload (4), 2) := by decide +kernel
theorem d_Model_list_69 : decode prog_10_method_33_code 69 = .ok (.iload_n (1), 1) := by decide +kernel
theorem d_Model_list_70 : decode prog_10_method_33_code 70 = .ok (.iconst (1), 1) := by decide +kernel
theorem d_Model_list_71 : decode prog_10_method_33_code 71 = .ok (.iadd, 1) := by decide +kernel
theorem d_Model_list_72 : decode prog_10_method_33_code 72 = .ok (.iload_n (2), 1) := by decide +kernel
theorem d_Model_list_73 : decode prog_10_method_33_code 73 = .ok (.iload (6), 2) := by decide +kernel
theorem d_Model_list_75 : decode prog_10_method_33_code 75 = .ok (.iadd, 1) := by decide +kernel
theorem d_Model_list_76 : decode prog_10_method_33_code 76 = .ok (.iload (6), 2) := by decide +kernel
theorem d_Model_list_78 : decode prog_10_method_33_code 78 = .ok (.bipush (24), 2) := by decide +kernel
theorem d_Model_list_80 : decode prog_10_method_33_code 80 = .ok (.iadd, 1) := by decide +kernel
theorem d_Model_list_81 : decode prog_10_method_33_code 81 = .ok (.invokestatic (145), 3) := by decide +kernel
theorem d_Model_list_84 : decode prog_10_method_33_code 84 = .ok (.aload_n (0), 1) := by decide +kernel
theorem d_Model_list_85 : decode prog_10_method_33_code 85 = .ok (.iload_n (1), 1) := by decide +kernel
theorem d_Model_list_86 : decode prog_10_method_33_code 86 = .ok (.iconst (1), 1) := by decide +kernel
theorem d_Model_list_87 : decode prog_10_method_33_code 87 = .ok (.iadd, 1) := by decide +kernel
theorem d_Model_list_88 : decode prog_10_method_33_code 88 = .ok (.iload_n (2), 1) := by decide +kernel
theorem d_Model_list_89 : decode prog_10_method_33_code 89 = .ok (.iload (6), 2) := by decide +kernel
theorem d_Model_list_91 : decode prog_10_method_33_code 91 = .ok (.iadd, 1) := by decide +kernel
theorem d_Model_list_92 : decode prog_10_method_33_code 92 = .ok (.invokevirtual (149), 3) := by decide +kernel
theorem d_Model_list_95 : decode prog_10_method_33_code 95 = .ok (.invokevirtual (193), 3) := by decide +kernel
theorem d_Model_list_98 : decode prog_10_method_33_code 98 = .ok (.iload (5), 2) := by decide +kernel
theorem d_Model_list_100 : decode prog_10_method_33_code 100 = .ok (.ifCond .lt (80), 3) := by decide +kernel
theorem d_Model_list_103 : decode prog_10_method_33_code 103 = .ok (.aload_n (0), 1) := by decide +kernel
theorem d_Model_list_104 : decode prog_10_method_33_code 104 = .ok (.iload (5), 2) := by decide +kernel
theorem d_Model_list_106 : decode prog_10_method_33_code 106 = .ok (.iload_n (2), 1) := by decide +kernel
theorem d_Model_list_107 : decode prog_10_method_33_code 107 = .ok (.iload (6), 2) := by decide +kernel
theorem d_Model_list_109 : decode prog_10_method_33_code 109 = .ok (.invokevirtual (157), 3) := by decide +kernel
theorem d_Model_list_112 : decode prog_10_method_33_code 112 = .ok (.ifCond .eq (68), 3) := by decide +kernel
theorem d_Model_list_115 : decode prog_10_method_33_code 115 = .ok (.aload_n (0), 1) := by decide +kernel
theorem d_Model_list_116 : decode prog_10_method_33_code 116 = .ok (.getfield (35), 3) := by decide +kernel
theorem d_Model_list_119 : decode prog_10_method_33_code 119 = .ok (.iload (5), 2) := by decide +kernel
theorem d_Model_list_121 : decode prog_10_method_33_code 121 = .ok (.iaload, 1) := by decide +kernel
theorem d_Model_list_122 : decode prog_10_method_33_code 122 = .ok (.iload_n (1), 1) := by decide +kernel
theorem d_Model_list_123 : decode prog_10_method_33_code 123 = .ok (.isub, 1) := by decide +kernel
theorem d_Model_list_124 : decode prog_10_method_33_code 124 = .ok (.istore (7), 2) := by decide +kernel
theorem d_Model_list_126 : decode prog_10_method_33_code 126 = .ok (.aload_n (0), 1) := by decide +kernel
theorem d_Model_list_127 : decode prog_10_method_33_code 127 = .ok (.iload (4), 2) := by decide +kernel
theorem d_Model_list_129 : decode prog_10_method_33_code 129 = .ok (.aload_n (0), 1) := by decide +kernel
theorem d_Model_list_130 : decode prog_10_method_33_code 130 = .ok (.getfield (35), 3) := by decide +kernel
theorem d_Model_list_133 : decode prog_10_method_33_code 133 = .ok (.iload (5), 2) := by decide +kernel
theorem d_Model_list_135 : decode prog_10_method_33_code 135 = .ok (.iaload, 1) := by decide +kernel
theorem d_Model_list_136 : decode prog_10_method_33_code 136 = .ok (.iload_n (2), 1) := by decide +kernel
theorem d_Model_list_137 : decode prog_10_method_33_code 137 = .ok (.iload (7), 2) := by decide +kernel
theorem d_Model_list_139 : decode prog_10_method_33_code 139 = .ok (.iload (6), 2) := by decide +kernel
theorem d_Model_list_141 : decode prog_10_method_33_code 141 = .ok (.imul, 1) := by decide +kernel
theorem d_Model_list_142 : decode prog_10_method_33_code 142 = .ok (.iadd, 1) := by decide +kernel
theorem d_Model_list_143 : decode prog_10_method_33_code 143 = .ok (.iload (6), 2) := by decide +kernel
theorem d_Model_list_145 : decode prog_10_method_33_code 145 = .ok (.bipush (24), 2) := by decide +kernel
theorem d_Model_list_147 : decode prog_10_method_33_code 147 = .ok (.iadd, 1) := by decide +kernel
theorem d_Model_list_148 : decode prog_10_method_33_code 148 = .ok (.invokestatic (145), 3) := by decide +kernel
theorem d_Model_list_151 : decode prog_10_method_33_code 151 = .ok (.aload_n (0), 1) := by decide +kernel
theorem d_Model_list_152 : decode prog_10_method_33_code 152 = .ok (.aload_n (0), 1) := by decide +kernel
theorem d_Model_list_153 : decode prog_10_method_33_code 153 = .ok (.getfield (35), 3) := by decide +kernel
theorem d_Model_list_156 : decode prog_10_method_33_code 156 = .ok (.iload (5), 2) := by decide +kernel
theorem d_Model_list_158 : decode prog_10_method_33_code 158 = .ok (.iaload, 1) := by decide +kernel
theorem d_Model_list_159 : decode prog_10_method_33_code 159 = .ok (.iload_n (2), 1) := by decide +kernel
theorem d_Model_list_160 : decode prog_10_method_33_code 160 = .ok (.iload (7), 2) := by decide +kernel
theorem d_Model_list_162 : decode prog_10_method_33_code 162 = .ok (.iload (6), 2) := by decide +kernel
theorem d_Model_list_164 : decode prog_10_method_33_code 164 = .ok (.imul, 1) := by decide +kernel
theorem d_Model_list_165 : decode prog_10_method_33_code 165 = .ok (.iadd, 1) := by decide +kernel
theorem d_Model_list_166 : decode prog_10_method_33_code 166 = .ok (.invokevirtual (149), 3) := by decide +kernel
theorem d_Model_list_169 : decode prog_10_method_33_code 169 = .ok (.aload_n (0), 1) := by decide +kernel
theorem d_Model_list_170 : decode prog_10_method_33_code 170 = .ok (.getfield (41), 3) := by decide +kernel
theorem d_Model_list_173 : decode prog_10_method_33_code 173 = .ok (.iload (5), 2) := by decide +kernel
theorem d_Model_list_175 : decode prog_10_method_33_code 175 = .ok (.laload, 1) := by decide +kernel
theorem d_Model_list_176 : decode prog_10_method_33_code 176 = .ok (.ladd, 1) := by decide +kernel
theorem d_Model_list_177 : decode prog_10_method_33_code 177 = .ok (.invokevirtual (193), 3) := by decide +kernel
theorem d_Model_list_180 : decode prog_10_method_33_code 180 = .ok (.iinc (6) (1), 3) := by decide +kernel
theorem d_Model_list_183 : decode prog_10_method_33_code 183 = .ok (.goto (-153), 3) := by decide +kernel
theorem d_Model_list_186 : decode prog_10_method_33_code 186 = .ok (.return_, 1) := by decide +kernel
set_option maxHeartbeats 4000000 in
set_option maxRecDepth 100000 in
theorem k_Model_list_180 (N : Nat) {X : zX} (C : zB X prog_10_method_33_code 8 R_Model rm_Model_list) {h0 : zH} {p : Unit × zH} (E : zR X none rm_Model_list h0 none p.2) {rc30 : Nat → Int32 → Int32 → Int32 → Int32 → Int32 → Int32 → zH → Option (Unit × zH)} (H30 : ∀ (x0 : Nat) (x1 : Int32) (x2 : Int32) (x3 : Int32) (x4 : Int32) (x5 : Int32) (x6 : Int32) (h : zH), rc30 x0 x1 x2 x3 x4 x5 x6 h = some p → Zt X 8 0 0 30 [(0, .ref x0), (1, .int x1), (2, .int x2), (3, .int x3), (4, .int x4), (5, .int x5), (6, .int x6)] [] h) : ∀ (x0 : Nat) (x1 : Int32) (x2 : Int32) (x3 : Int32) (x4 : Int32) (x5 : Int32) (x6 : Int32) (h : zH), f_Model_list_180 N rc30 x0 x1 x2 x3 x4 x5 x6 h = some p → Zt X 8 0 0 180 [(0, .ref x0), (1, .int x1), (2, .int x2), (3, .int x3), (4, .int x4), (5, .int x5), (6, .int x6)] [] h := by
  intro x0 x1 x2 x3 x4 x5 x6 h hf
  unfold f_Model_list_180 at hf
  refine z_iinc C (v := (x6 + (1 : Int32))) (lv' := [(6, .int (x6 + (1 : Int32))), (0, .ref x0), (1, .int x1), (2, .int x2), (3, .int x3), (4, .int x4), (5, .int x5)]) 6 d_Model_list_180 rfl (by rfl) (by decide) rfl ?_
  refine z_goto (tgt := 30) C d_Model_list_183 (by decide) ?_
  refine z_sub [1, 2, 3, 4, 5, 6, 0] rfl ?_
  exact H30 _ _ _ _ _ _ _ _ hf

set_option maxHeartbeats 4000000 in
set_option maxRecDepth 100000 in
theorem k_Model_list_98 (N : Nat) {X : zX} (C : zB X prog_10_method_33_code 8 R_Model rm_Model_list) {h0 : zH} {p : Unit × zH} (E : zR X none rm_Model_list h0 none p.2) {rc30 : Nat → Int32 → Int32 → Int32 → Int32 → Int32 → Int32 → zH → Option (Unit × zH)} (H30 : ∀ (x0 : Nat) (x1 : Int32) (x2 : Int32) (x3 : Int32) (x4 : Int32) (x5 : Int32) (x6 : Int32) (h : zH), rc30 x0 x1 x2 x3 x4 x5 x6 h = some p → Zt X 8 0 0 30 [(0, .ref x0), (1, .int x1), (2, .int x2), (3, .int x3), (4, .int x4), (5, .int x5), (6, .int x6)] [] h) : ∀ (x0 : Nat) (x1 : Int32) (x2 : Int32) (x3 : Int32) (x4 : Int32) (x5 : Int32) (x6 : Int32) (h : zH), f_Model_list_98 N rc30 x0 x1 x2 x3 x4 x5 x6 h = some p → Zt X 8 0 0 98 [(0, .ref x0), (1, .int x1), (2, .int x2), (3, .int x3), (4, .int x4), (5, .int x5), (6, .int x6)] [] h := by
  intro x0 x1 x2 x3 x4 x5 x6 h hf
  unfold f_Model_list_98 at hf
  refine z_iload C 5 d_Model_list_98 rfl ?_
  refine z_if_lt (tgt := 180) C d_Model_list_100 (by decide) hf (fun hf => ?_) (fun hf => ?_)
  · refine z_sub [0, 1, 2, 3, 4, 5, 6] rfl ?_
    exact k_Model_list_180 N C E H30 _ _ _ _ _ _ _ _ hf
  · refine z_aload_n C 0 d_Model_list_103 rfl rfl ?_
    refine z_iload C 5 d_Model_list_104 rfl ?_
    refine z_iload_n C 2 d_Model_list_106 rfl rfl ?_
    refine z_iload C 6 d_Model_list_107 rfl ?_
    obtain ⟨p1, hc, hf⟩ := Option.bind_eq_some_iff.mp hf
    obtain ⟨hz, hc⟩ := zck_some hc
    refine z_callV C (ci := 0) (c_Model_mayUse N C.2.2.1 hc) rfl hz w_940 w_66 w_937 w_939 w_44 pd_Model_mayUse rfl ⟨(Nat.le_of_ble_eq_true rfl), (Nat.le_of_ble_eq_true rfl)⟩ ⟨(Nat.le_of_ble_eq_true rfl), (Nat.le_of_ble_eq_true rfl)⟩ rfl (Nat.le_of_ble_eq_true rfl) d_Model_list_109 (k' := 0) (n' := 0) (stk' := [.int p1.1]) rfl rfl rfl ?_
    refine z_if_eq (tgt := 180) C d_Model_list_112 (by decide) hf (fun hf => ?_) (fun hf => ?_)
    · refine z_sub [0, 1, 2, 3, 4, 5, 6] rfl ?_
      exact k_Model_list_180 N C E H30 _ _ _ _ _ _ _ _ hf
    · refine z_aload_n C 0 d_Model_list_115 rfl rfl ?_
      refine z_getR C 0 12 rfl in_Model (by decide) w_753 rfl d_Model_list_116 hf (fun v2 hf => ?_)
      refine z_iload C 5 d_Model_list_119 rfl ?_
      refine z_iald C d_Model_list_121 hf (fun v3 hf => ?_)
      refine z_iload_n C 1 d_Model_list_122 rfl rfl ?_
      refine z_isub C d_Model_list_123 ?_
      refine z_istore C (lv' := [(7, .int (v3 - x1)), (0, .ref x0), (1, .int x1), (2, .int x2), (3, .int x3), (4, .int x4), (5, .int x5), (6, .int x6)]) d_Model_list_124 (by decide) rfl ?_
      refine z_aload_n C 1 d_Model_list_126 rfl rfl ?_
      refine z_iload C 5 d_Model_list_127 rfl ?_
      refine z_aload_n C 1 d_Model_list_129 rfl rfl ?_
      refine z_getR C 0 12 rfl in_Model (by decide) w_753 rfl d_Model_list_130 hf (fun v4 hf => ?_)
      refine z_iload C 6 d_Model_list_133 rfl ?_
      refine z_iald C d_Model_list_135 hf (fun v5 hf => ?_)
      refine z_iload_n C 3 d_Model_list_136 rfl rfl ?_
      refine z_iload C 0 d_Model_list_137 rfl ?_
      refine z_iload C 7 d_Model_list_139 rfl ?_
      refine z_imul C d_Model_list_141 ?_
      refine z_iadd C d_Model_list_142 ?_
      refine z_iload C 7 d_Model_list_143 rfl ?_
      refine z_bipush C (v := (24 : Int32)) d_Model_list_145 (by decide) ?_
      refine z_iadd C d_Model_list_147 ?_
      obtain ⟨p6, hc, hf⟩ := Option.bind_eq_some_iff.mp hf
      refine z_callS C (c_Model_at N C.2.2.1 hc) w_919 w_66 w_917 w_918 pd_Model_at rfl ⟨(Nat.le_of_ble_eq_true rfl), (Nat.le_of_ble_eq_true rfl)⟩ ⟨(Nat.le_of_ble_eq_true rfl), (Nat.le_of_ble_eq_true rfl)⟩ rfl (Nat.le_of_ble_eq_true rfl) d_Model_list_148 (k' := 0) (n' := 0) (stk' := [.int p6.1, .int x4, .ref x0]) rfl rfl rfl ?_
      refine z_aload_n C 1 d_Model_list_151 rfl rfl ?_
      refine z_aload_n C 1 d_Model_list_152 rfl rfl ?_
      refine z_getR C 0 12 rfl in_Model (by decide) w_753 rfl d_Model_list_153 hf (fun v7 hf => ?_)
      refine z_iload C 6 d_Model_list_156 rfl ?_
      refine z_iald C d_Model_list_158 hf (fun v8 hf => ?_)
      refine z_iload_n C 3 d_Model_list_159 rfl rfl ?_
      refine z_iload C 0 d_Model_list_160 rfl ?_
      refine z_iload C 7 d_Model_list_162 rfl ?_
      refine z_imul C d_Model_list_164 ?_
      refine z_iadd C d_Model_list_165 ?_
      obtain ⟨p9, hc, hf⟩ := Option.bind_eq_some_iff.mp hf
      obtain ⟨hz, hc⟩ := zck_some hc
      refine z_callV C (ci := 0) (c_Model_placeCost N C.2.2.1 hc) rfl hz w_932 w_66 w_929 w_931 w_42 pd_Model_placeCost rfl ⟨(Nat.le_of_ble_eq_true rfl), (Nat.le_of_ble_eq_true rfl)⟩ ⟨(Nat.le_of_ble_eq_true rfl), (Nat.le_of_ble_eq_true rfl)⟩ rfl (Nat.le_of_ble_eq_true rfl) d_Model_list_166 (k' := 0) (n' := 0) (stk' := [.long p9.1, .int p6.1, .int x4, .ref x0]) rfl rfl rfl ?_
      refine z_aload_n C 1 d_Model_list_169 rfl rfl ?_
      refine z_getR C 0 14 rfl in_Model (by decide) w_755 rfl d_Model_list_170 hf (fun v10 hf => ?_)
      refine z_iload C 6 d_Model_list_173 rfl ?_
      refine z_lald C d_Model_list_175 hf (fun v11 hf => ?_)
      refine z_ladd C d_Model_list_176 ?_
      obtain ⟨p12, hc, hf⟩ := Option.bind_eq_some_iff.mp hf
      obtain ⟨hz, hc⟩ := zck_some hc
      refine z_callV C (ci := 0) (c_Model_listFrom N C.2.2.1 hc) rfl hz w_980 w_66 w_977 w_979 w_50 pd_Model_listFrom rfl ⟨(Nat.le_of_ble_eq_true rfl), (Nat.le_of_ble_eq_true rfl)⟩ ⟨(Nat.le_of_ble_eq_true rfl), (Nat.le_of_ble_eq_true rfl)⟩ rfl (Nat.le_of_ble_eq_true rfl) d_Model_list_177 (k' := 0) (n' := 0) (stk' := []) rfl rfl rfl ?_
      refine z_sub [1, 2, 3, 4, 5, 6, 7] rfl ?_
      exact k_Model_list_180 N C E H30 _ _ _ _ _ _ _ _ hf

set_option maxHeartbeats 4000000 in
set_option maxRecDepth 100000 in
theorem k_Model_list_30 (N : Nat) {X : zX} (C : zB X prog_10_method_33_code 8 R_Model rm_Model_list) {h0 : zH} {p : Unit × zH} (E : zR X none rm_Model_list h0 none p.2) : ∀ n : Nat, ∀ (x0 : Nat) (x1 : Int32) (x2 : Int32) (x3 : Int32) (x4 : Int32) (x5 : Int32) (x6 : Int32) (h : zH), f_Model_list_30 N n x0 x1 x2 x3 x4 x5 x6 h = some p → Zt X 8 0 0 30 [(0, .ref x0), (1, .int x1), (2, .int x2), (3, .int x3), (4, .int x4), (5, .int x5), (6, .int x6)] [] h := by
  intro n
  induction n with
  | zero => intro x0 x1 x2 x3 x4 x5 x6 h hf; cases hf
  | succ n ih =>
  intro x0 x1 x2 x3 x4 x5 x6 h hf
  have H30 := ih
  replace hf : b_Model_list_30 N (f_Model_list_30 N n) x0 x1 x2 x3 x4 x5 x6 h = some p := hf
  unfold b_Model_list_30 at hf
  refine z_iload C 6 d_Model_list_30 rfl ?_
  refine z_aload_n C 0 d_Model_list_32 rfl rfl ?_
  refine z_getI C 0 7 rfl in_Model (by decide) w_748 rfl d_Model_list_33 hf (fun v13 hf => ?_)
  refine z_ic_gt (tgt := 186) C d_Model_list_36 (by decide) hf (fun hf => ?_) (fun hf => ?_)
  · exact z_vret C E (Nat.le_of_ble_eq_true rfl) (Nat.le_of_ble_eq_true rfl) d_Model_list_186 hf
  · refine z_aload_n C 0 d_Model_list_39 rfl rfl ?_
    refine z_iload C 6 d_Model_list_40 rfl ?_
    refine z_iload_n C 3 d_Model_list_42 rfl rfl ?_
    obtain ⟨p14, hc, hf⟩ := Option.bind_eq_some_iff.mp hf
    obtain ⟨hz, hc⟩ := zck_some hc
    refine z_callV C (ci := 0) (c_Model_follows N C.2.2.1 hc) rfl hz w_909 w_66 w_906 w_908 w_38 pd_Model_follows rfl ⟨(Nat.le_of_ble_eq_true rfl), (Nat.le_of_ble_eq_true rfl)⟩ ⟨(Nat.le_of_ble_eq_true rfl), (Nat.le_of_ble_eq_true rfl)⟩ rfl (Nat.le_of_ble_eq_true rfl) d_Model_list_43 (k' := 0) (n' := 0) (stk' := [.int p14.1]) rfl rfl rfl ?_
    refine z_if_ne (tgt := 52) C d_Model_list_46 (by decide) hf (fun hf => ?_) (fun hf => ?_)
    · refine z_aload_n C 0 d_Model_list_52 rfl rfl ?_
      refine z_iload_n C 1 d_Model_list_53 rfl rfl ?_
      refine z_iconst C (v := (1 : Int32)) d_Model_list_54 (by decide) ?_
      refine z_iadd C d_Model_list_55 ?_
      refine z_iload_n C 2 d_Model_list_56 rfl rfl ?_
      refine z_iload C 6 d_Model_list_57 rfl ?_
      refine z_iadd C d_Model_list_59 ?_
      obtain ⟨p15, hc, hf⟩ := Option.bind_eq_some_iff.mp hf
      obtain ⟨hz, hc⟩ := zck_some hc
      refine z_callV C (ci := 0) (c_Model_may N C.2.2.1 hc) rfl hz w_905 w_66 w_902 w_904 w_37 pd_Model_may rfl ⟨(Nat.le_of_ble_eq_true rfl), (Nat.le_of_ble_eq_true rfl)⟩ ⟨(Nat.le_of_ble_eq_true rfl), (Nat.le_of_ble_eq_true rfl)⟩ rfl (Nat.le_of_ble_eq_true rfl) d_Model_list_60 (k' := 0) (n' := 0) (stk' := [.int p15.1]) rfl rfl rfl ?_
      refine z_if_eq (tgt := 98) C d_Model_list_63 (by decide) hf (fun hf => ?_) (fun hf => ?_)
      · refine z_sub [0, 1, 2, 3, 4, 5, 6] rfl ?_
        exact k_Model_list_98 N C E H30 _ _ _ _ _ _ _ _ hf
      · refine z_aload_n C 0 d_Model_list_66 rfl rfl ?_
        refine z_iload C 4 d_Model_list_67 rfl ?_
        refine z_iload_n C 1 d_Model_list_69 rfl rfl ?_
        refine z_iconst C (v := (1 : Int32)) d_Model_list_70 (by decide) ?_
        refine z_iadd C d_Model_list_71 ?_
        refine z_iload_n C 2 d_Model_list_72 rfl rfl ?_
        refine z_iload C 6 d_Model_list_73 rfl ?_
        refine z_iadd C d_Model_list_75 ?_
        refine z_iload C 6 d_Model_list_76 rfl ?_
        refine z_bipush C (v := (24 : Int32)) d_Model_list_78 (by decide) ?_
        refine z_iadd C d_Model_list_80 ?_
        obtain ⟨p16, hc, hf⟩ := Option.bind_eq_some_iff.mp hf
        refine z_callS C (c_Model_at N C.2.2.1 hc) w_919 w_66 w_917 w_918 pd_Model_at rfl ⟨(Nat.le_of_ble_eq_true rfl), (Nat.le_of_ble_eq_true rfl)⟩ ⟨(Nat.le_of_ble_eq_true rfl), (Nat.le_of_ble_eq_true rfl)⟩ rfl (Nat.le_of_ble_eq_true rfl) d_Model_list_81 (k' := 0) (n' := 0) (stk' := [.int p16.1, .int x4, .ref x0]) rfl rfl rfl ?_
        refine z_aload_n C 0 d_Model_list_84 rfl rfl ?_
        refine z_iload_n C 1 d_Model_list_85 rfl rfl ?_
        refine z_iconst C (v := (1 : Int32)) d_Model_list_86 (by decide) ?_
        refine z_iadd C d_Model_list_87 ?_
        refine z_iload_n C 2 d_Model_list_88 rfl rfl ?_
        refine z_iload C 6 d_Model_list_89 rfl ?_
        refine z_iadd C d_Model_list_91 ?_
        obtain ⟨p17, hc, hf⟩ := Option.bind_eq_some_iff.mp hf
        obtain ⟨hz, hc⟩ := zck_some hc
        refine z_callV C (ci := 0) (c_Model_placeCost N C.2.2.1 hc) rfl hz w_932 w_66 w_929 w_931 w_42 pd_Model_placeCost rfl ⟨(Nat.le_of_ble_eq_true rfl), (Nat.le_of_ble_eq_true rfl)⟩ ⟨(Nat.le_of_ble_eq_true rfl), (Nat.le_of_ble_eq_true rfl)⟩ rfl (Nat.le_of_ble_eq_true rfl) d_Model_list_92 (k' := 0) (n' := 0) (stk' := [.long p17.1, .int p16.1, .int x4, .ref x0]) rfl rfl rfl ?_
        obtain ⟨p18, hc, hf⟩ := Option.bind_eq_some_iff.mp hf
        obtain ⟨hz, hc⟩ := zck_some hc
        refine z_callV C (ci := 0) (c_Model_listFrom N C.2.2.1 hc) rfl hz w_980 w_66 w_977 w_979 w_50 pd_Model_listFrom rfl ⟨(Nat.le_of_ble_eq_true rfl), (Nat.le_of_ble_eq_true rfl)⟩ ⟨(Nat.le_of_ble_eq_true rfl), (Nat.le_of_ble_eq_true rfl)⟩ rfl (Nat.le_of_ble_eq_true rfl) d_Model_list_95 (k' := 0) (n' := 0) (stk' := []) rfl rfl rfl ?_
        refine z_sub [0, 1, 2, 3, 4, 5, 6] rfl ?_
        exact k_Model_list_98 N C E H30 _ _ _ _ _ _ _ _ hf
    · refine z_goto (tgt := 180) C d_Model_list_49 (by decide) ?_
      refine z_sub [0, 1, 2, 3, 4, 5, 6] rfl ?_
      exact k_Model_list_180 N C E H30 _ _ _ _ _ _ _ _ hf

set_option maxHeartbeats 4000000 in
set_option maxRecDepth 100000 in
theorem k_Model_list (N : Nat) {X : zX} (C : zB X prog_10_method_33_code 8 R_Model rm_Model_list) {h0 : zH} {p : Unit × zH} (E : zR X none rm_Model_list h0 none p.2) : ∀ (x0 : Nat) (x1 : Int32) (x2 : Int32) (x3 : Int32) (h : zH), f_Model_list N x0 x1 x2 x3 h = some p → Zt X 8 0 0 0 [(0, .ref x0), (1, .int x1), (2, .int x2), (3, .int x3)] [] h := by
  intro x0 x1 x2 x3 h hf
  unfold f_Model_list at hf
  refine z_iload_n C 1 d_Model_list_0 rfl rfl ?_
  refine z_iload_n C 2 d_Model_list_1 rfl rfl ?_
  refine z_iload_n C 3 d_Model_list_2 rfl rfl ?_
  obtain ⟨p19, hc, hf⟩ := Option.bind_eq_some_iff.mp hf
  refine z_callS C (c_Model_at N C.2.2.1 hc) w_919 w_66 w_917 w_918 pd_Model_at rfl ⟨(Nat.le_of_ble_eq_true rfl), (Nat.le_of_ble_eq_true rfl)⟩ ⟨(Nat.le_of_ble_eq_true rfl), (Nat.le_of_ble_eq_true rfl)⟩ rfl (Nat.le_of_ble_eq_true rfl) d_Model_list_3 (k' := 0) (n' := 0) (stk' := [.int p19.1]) rfl rfl rfl ?_
  refine z_istore C (lv' := [(4, .int p19.1), (0, .ref x0), (1, .int x1), (2, .int x2), (3, .int x3)]) d_Model_list_6 (by decide) rfl ?_
  refine z_aload_n C 1 d_Model_list_8 rfl rfl ?_
  refine z_getR C 0 18 rfl in_Model (by decide) w_759 rfl d_Model_list_9 hf (fun v20 hf => ?_)
  refine z_iload C 0 d_Model_list_12 rfl ?_
  refine z_iconst C (v := (0 : Int32)) d_Model_list_14 (by decide) ?_
  refine z_iast C d_Model_list_15 hf (fun h21 hf => ?_)
  refine z_aload_n C 1 d_Model_list_16 rfl rfl ?_
  refine z_iload_n C 2 d_Model_list_17 rfl rfl ?_
  obtain ⟨p22, hc, hf⟩ := Option.bind_eq_some_iff.mp hf
  obtain ⟨hz, hc⟩ := zck_some hc
  refine z_callV C (ci := 0) (c_Model_spanAt N C.2.2.1 hc) rfl hz w_928 w_66 w_925 w_927 w_41 pd_Model_spanAt rfl ⟨(Nat.le_of_ble_eq_true rfl), (Nat.le_of_ble_eq_true rfl)⟩ ⟨(Nat.le_of_ble_eq_true rfl), (Nat.le_of_ble_eq_true rfl)⟩ rfl (Nat.le_of_ble_eq_true rfl) d_Model_list_18 (k' := 0) (n' := 0) (stk' := [.int p22.1]) rfl rfl rfl ?_
  refine z_istore C (lv' := [(5, .int p22.1), (4, .int p19.1), (0, .ref x0), (1, .int x1), (2, .int x2), (3, .int x3)]) d_Model_list_21 (by decide) rfl ?_
  refine z_aload_n C 2 d_Model_list_23 rfl rfl ?_
  refine z_getI C 0 7 rfl in_Model (by decide) w_748 rfl d_Model_list_24 hf (fun v23 hf => ?_)
  refine z_ineg C d_Model_list_27 ?_
  refine z_istore C (lv' := [(6, .int (-v23)), (5, .int p22.1), (4, .int p19.1), (0, .ref x0), (1, .int x1), (2, .int x2), (3, .int x3)]) d_Model_list_28 (by decide) rfl ?_
  refine z_sub [3, 4, 5, 6, 2, 1, 0] rfl ?_
  exact k_Model_list_30 N C E N _ _ _ _ _ _ _ _ hf

theorem c_Model_list (N : Nat) {l : Launch} {D : va_G} {T : List (ClassId × FieldType)} (hT : T.map (fun q => q.2) = ztl) {x0 : Nat} {x1 : Int32} {x2 : Int32} {x3 : Int32} {h : zH} {p : Unit × zH} (hf : f_Model_list N x0 x1 x2 x3 h = some p) : zM l y_Model_list prog_10_method_33_code 8 none rm_Model_list D T [.ref x0, .int x1, .int x2, .int x3] h none p.2 :=
  z_enter (by decide) hT (Nat.le_of_ble_eq_true rfl) (fun X el eD eT hin C E => k_Model_list N C E x0 x1 x2 x3 h hf)
