/-! ===== LevelTablesModel.filled(I)I ===== -/
abbrev y_Model_filled : MethodName := ⟨R_Model, "filled", "(I)I"⟩
theorem pd_Model_filled : y_Model_filled.cls ≠ "java/lang/invoke/MethodHandle" ∧ y_Model_filled.cls ≠ "java/lang/invoke/VarHandle" ∧ (parseMethodDescriptor y_Model_filled.desc).map (fun d => d.parameters.length) = some 1 := ⟨by decide +kernel, by decide +kernel, by decide +kernel⟩
abbrev rm_Model_filled : Room := { frames := 2, cells := 0, slots := 0, locals := 44 }
def f_Model_filled (N : Nat) (x0 : Nat) (x1 : Int32) (h : zH) : Option (Int32 × zH) :=
  Option.bind (zck (zis h x0 0) (f_Model_isInside N x0 x1 h)) fun (p1 : Int32 × zH) =>
  (if p1.1 = 0 then
    Option.bind (zgR p1.2 x0 0 25) fun (v2 : Nat) =>
    Option.bind (zaI p1.2 0 v2 x1) fun (v3 : Int32) =>
    Option.bind (zgR p1.2 x0 0 2) fun (v4 : Nat) =>
    Option.bind (zaI p1.2 0 v4 x1) fun (v5 : Int32) =>
    some ((v3 - v5), p1.2)
  else
    some ((0 : Int32), p1.2))
theorem d_Model_filled_0 : decode prog_10_method_45_code 0 = .ok (.aload_n (0), 1) := by decide +kernel
theorem d_Model_filled_1 : decode prog_10_method_45_code 1 = .ok (.iload_n (1), 1) := by decide +kernel
theorem d_Model_filled_2 : decode prog_10_method_45_code 2 = .ok (.invokevirtual (224), 3) := by decide +kernel
theorem d_Model_filled_5 : decode prog_10_method_45_code 5 = .ok (.ifCond .eq (7), 3) := by decide +kernel
theorem d_Model_filled_8 : decode prog_10_method_45_code 8 = .ok (.iconst (0), 1) := by decide +kernel
theorem d_Model_filled_9 : decode prog_10_method_45_code 9 = .ok (.goto (16), 3) := by decide +kernel
theorem d_Model_filled_12 : decode prog_10_method_45_code 12 = .ok (.aload_n (0), 1) := by decide +kernel
theorem d_Model_filled_13 : decode prog_10_method_45_code 13 = .ok (.getfield (68), 3) := by decide +kernel
theorem d_Model_filled_16 : decode prog_10_method_45_code 16 = .ok (.iload_n (1), 1) := by decide +kernel
theorem d_Model_filled_17 : decode prog_10_method_45_code 17 = .ok (.iaload, 1) := by decide +kernel
theorem d_Model_filled_18 : decode prog_10_method_45_code 18 = .ok (.aload_n (0), 1) := by decide +kernel
theorem d_Model_filled_19 : decode prog_10_method_45_code 19 = .ok (.getfield (7), 3) := by decide +kernel
theorem d_Model_filled_22 : decode prog_10_method_45_code 22 = .ok (.iload_n (1), 1) := by decide +kernel
theorem d_Model_filled_23 : decode prog_10_method_45_code 23 = .ok (.iaload, 1) := by decide +kernel
theorem d_Model_filled_24 : decode prog_10_method_45_code 24 = .ok (.isub, 1) := by decide +kernel
theorem d_Model_filled_25 : decode prog_10_method_45_code 25 = .ok (.ireturn, 1) := by decide +kernel
set_option maxHeartbeats 4000000 in
set_option maxRecDepth 100000 in
theorem k_Model_filled (N : Nat) {X : zX} (C : zB X prog_10_method_45_code 2 R_Model rm_Model_filled) {h0 : zH} {p : Int32 × zH} (E : zR X (some .int) rm_Model_filled h0 (some (.int p.1)) p.2) : ∀ (x0 : Nat) (x1 : Int32) (h : zH), f_Model_filled N x0 x1 h = some p → Zt X 2 0 0 0 [(0, .ref x0), (1, .int x1)] [] h := by
  intro x0 x1 h hf
  unfold f_Model_filled at hf
  refine z_aload_n C 0 d_Model_filled_0 rfl rfl ?_
  refine z_iload_n C 1 d_Model_filled_1 rfl rfl ?_
  obtain ⟨p1, hc, hf⟩ := Option.bind_eq_some_iff.mp hf
  obtain ⟨hz, hc⟩ := zck_some hc
  refine z_callV C (ci := 0) (c_Model_isInside N C.2.2.1 hc) rfl hz w_1026 w_66 w_1023 w_1025 w_54 pd_Model_isInside rfl ⟨(Nat.le_of_ble_eq_true rfl), (Nat.le_of_ble_eq_true rfl)⟩ ⟨(Nat.le_of_ble_eq_true rfl), (Nat.le_of_ble_eq_true rfl)⟩ rfl (Nat.le_of_ble_eq_true rfl) d_Model_filled_2 (k' := 0) (n' := 0) (stk' := [.int p1.1]) rfl rfl rfl ?_
  refine z_if_eq (tgt := 12) C d_Model_filled_5 (by decide) hf (fun hf => ?_) (fun hf => ?_)
  · refine z_aload_n C 0 d_Model_filled_12 rfl rfl ?_
    refine z_getR C 0 25 rfl in_Model (by decide) w_766 rfl d_Model_filled_13 hf (fun v2 hf => ?_)
    refine z_iload_n C 1 d_Model_filled_16 rfl rfl ?_
    refine z_iald C d_Model_filled_17 hf (fun v3 hf => ?_)
    refine z_aload_n C 0 d_Model_filled_18 rfl rfl ?_
    refine z_getR C 0 2 rfl in_Model (by decide) w_743 rfl d_Model_filled_19 hf (fun v4 hf => ?_)
    refine z_iload_n C 1 d_Model_filled_22 rfl rfl ?_
    refine z_iald C d_Model_filled_23 hf (fun v5 hf => ?_)
    refine z_isub C d_Model_filled_24 ?_
    exact z_iret C E (Nat.le_of_ble_eq_true rfl) (Nat.le_of_ble_eq_true rfl) d_Model_filled_25 hf
  · refine z_iconst C (v := (0 : Int32)) d_Model_filled_8 (by decide) ?_
    refine z_goto (tgt := 25) C d_Model_filled_9 (by decide) ?_
    exact z_iret C E (Nat.le_of_ble_eq_true rfl) (Nat.le_of_ble_eq_true rfl) d_Model_filled_25 hf

theorem c_Model_filled (N : Nat) {l : Launch} {D : va_G} {T : List (ClassId × FieldType)} (hT : T.map (fun q => q.2) = ztl) {x0 : Nat} {x1 : Int32} {h : zH} {p : Int32 × zH} (hf : f_Model_filled N x0 x1 h = some p) : zM l y_Model_filled prog_10_method_45_code 2 (some .int) rm_Model_filled D T [.ref x0, .int x1] h (some (.int p.1)) p.2 :=
  z_enter (by decide) hT (Nat.le_of_ble_eq_true rfl) (fun X el eD eT hin C E => k_Model_filled N C E x0 x1 h hf)
/-! ===== LevelTablesModel.told(I)I ===== -/
abbrev y_Model_told : MethodName := ⟨R_Model, "told", "(I)I"⟩
theorem pd_Model_told : y_Model_told.cls ≠ "java/lang/invoke/MethodHandle" ∧ y_Model_told.cls ≠ "java/lang/invoke/VarHandle" ∧ (parseMethodDescriptor y_Model_told.desc).map (fun d => d.parameters.length) = some 1 := ⟨by decide +kernel, by decide +kernel, by decide +kernel⟩
abbrev rm_Model_told : Room := { frames := 3, cells := 0, slots := 0, locals := 65 }
def f_Model_told_198 (N : Nat) (rc112 : Nat → Int32 → Int32 → Int32 → zH → Option (Int32 × zH)) (x0 : Nat) (x1 : Int32) (x3 : Int32) (s0 : Int32) (h : zH) : Option (Int32 × zH) :=
  rc112 x0 x1 s0 (x3 + (1 : Int32)) h
def f_Model_told_197 (N : Nat) (rc112 : Nat → Int32 → Int32 → Int32 → zH → Option (Int32 × zH)) (x0 : Nat) (x1 : Int32) (x3 : Int32) (s0 : Int32) (s1 : Int32) (h : zH) : Option (Int32 × zH) :=
  f_Model_told_198 N rc112 x0 x1 x3 (s0 + s1) h
def f_Model_told_181 (N : Nat) (rc112 : Nat → Int32 → Int32 → Int32 → zH → Option (Int32 × zH)) (x0 : Nat) (x1 : Int32) (x3 : Int32) (s0 : Int32) (s1 : Int32) (h : zH) : Option (Int32 × zH) :=
  f_Model_told_198 N rc112 x0 x1 x3 (s0 + s1) h
def f_Model_told_159 (N : Nat) (rc112 : Nat → Int32 → Int32 → Int32 → zH → Option (Int32 × zH)) (x0 : Nat) (x1 : Int32) (x3 : Int32) (s0 : Int32) (s1 : Int32) (h : zH) : Option (Int32 × zH) :=
  f_Model_told_198 N rc112 x0 x1 x3 (s0 + s1) h
def b_Model_told_112 (N : Nat) (rc112 : Nat → Int32 → Int32 → Int32 → zH → Option (Int32 × zH)) (x0 : Nat) (x1 : Int32) (x2 : Int32) (x3 : Int32) (h : zH) : Option (Int32 × zH) :=
  Option.bind (zgI h x0 0 0) fun (v1 : Int32) =>
  (if v1 < x3 then
    some (x2, h)
  else
    Option.bind (zck (zis h x0 0) (f_Model_filled N x0 x3 h)) fun (p2 : Int32 × zH) =>
    (if x1 = (4 : Int32) then
      (if x3 ≤ 0 then
        f_Model_told_159 N rc112 x0 x1 x3 x2 (0 : Int32) p2.2
      else
        Option.bind (zgR p2.2 x0 0 25) fun (v3 : Nat) =>
        Option.bind (zaI p2.2 0 v3 x3) fun (v4 : Int32) =>
        Option.bind (zgR p2.2 x0 0 25) fun (v5 : Nat) =>
        Option.bind (zaI p2.2 0 v5 (x3 - (1 : Int32))) fun (v6 : Int32) =>
        Option.bind (f_Model_size N (v4 - v6) p2.2) fun (p7 : Int32 × zH) =>
        f_Model_told_159 N rc112 x0 x1 x3 x2 p7.1 p7.2)
    else
      (if x1 = (5 : Int32) then
        (if 0 ≤ p2.1 then
          f_Model_told_181 N rc112 x0 x1 x3 x2 (0 : Int32) p2.2
        else
          f_Model_told_181 N rc112 x0 x1 x3 x2 (-p2.1) p2.2)
      else
        (if p2.1 ≤ 0 then
          f_Model_told_197 N rc112 x0 x1 x3 x2 (0 : Int32) p2.2
        else
          f_Model_told_197 N rc112 x0 x1 x3 x2 p2.1 p2.2))))
def f_Model_told_112 (N : Nat) : Nat → Nat → Int32 → Int32 → Int32 → zH → Option (Int32 × zH)
  | 0 => fun _ _ _ _ _ => none
  | n + 1 => fun x0 x1 x2 x3 h => b_Model_told_112 N (f_Model_told_112 N n) x0 x1 x2 x3 h
def f_Model_told_60 (N : Nat) (rc21 : Nat → Int32 → Int32 → Int32 → zH → Option (Int32 × zH)) (x0 : Nat) (x1 : Int32) (x3 : Int32) (s0 : Int32) (h : zH) : Option (Int32 × zH) :=
  rc21 x0 x1 s0 (x3 + (1 : Int32)) h
def f_Model_told_49 (N : Nat) (rc21 : Nat → Int32 → Int32 → Int32 → zH → Option (Int32 × zH)) (x0 : Nat) (x1 : Int32) (x2 : Int32) (x3 : Int32) (s0 : Int32) (h : zH) : Option (Int32 × zH) :=
  (if s0 = (-1 : Int32) then
    f_Model_told_60 N rc21 x0 x1 x3 x2 h
  else
    f_Model_told_60 N rc21 x0 x1 x3 (x2 + (1 : Int32)) h)
def b_Model_told_21 (N : Nat) (rc21 : Nat → Int32 → Int32 → Int32 → zH → Option (Int32 × zH)) (x0 : Nat) (x1 : Int32) (x2 : Int32) (x3 : Int32) (h : zH) : Option (Int32 × zH) :=
  Option.bind (zgI h x0 0 0) fun (v8 : Int32) =>
  (if v8 < x3 then
    (if x1 = 0 then
      Option.bind (zgI h x0 0 10) fun (v9 : Int32) =>
      some (v9, h)
    else
      some (x2, h))
  else
    (if x1 = (1 : Int32) then
      Option.bind (zgR h x0 0 5) fun (v12 : Nat) =>
      Option.bind (zaI h 0 v12 x3) fun (v13 : Int32) =>
      f_Model_told_49 N rc21 x0 x1 x2 x3 v13 h
    else
      Option.bind (zgR h x0 0 6) fun (v10 : Nat) =>
      Option.bind (zaI h 0 v10 x3) fun (v11 : Int32) =>
      f_Model_told_49 N rc21 x0 x1 x2 x3 v11 h))
def f_Model_told_21 (N : Nat) : Nat → Nat → Int32 → Int32 → Int32 → zH → Option (Int32 × zH)
  | 0 => fun _ _ _ _ _ => none
  | n + 1 => fun x0 x1 x2 x3 h => b_Model_told_21 N (f_Model_told_21 N n) x0 x1 x2 x3 h
def f_Model_told (N : Nat) (x0 : Nat) (x1 : Int32) (h : zH) : Option (Int32 × zH) :=
  (if x1 < 0 then
    some ((-1 : Int32), h)
  else
    (if x1 ≤ (7 : Int32) then
      (if (3 : Int32) ≤ x1 then
        Option.bind (zgI h x0 0 24) fun (v14 : Int32) =>
        (if v14 = 0 then
          some ((-1 : Int32), h)
        else
          (if x1 = (3 : Int32) then
            Option.bind (zgI h x0 0 26) fun (v16 : Int32) =>
            some (v16, h)
          else
            (if x1 = (7 : Int32) then
              Option.bind (zck (zis h x0 0) (f_Model_curves N x0  h)) fun (p15 : Int32 × zH) =>
              some (p15.1, p15.2)
            else
              f_Model_told_112 N N x0 x1 (0 : Int32) (0 : Int32) h)))
      else
        f_Model_told_21 N N x0 x1 (0 : Int32) (0 : Int32) h)
    else
      some ((-1 : Int32), h)))
theorem d_Model_told_0 : decode prog_10_method_47_code 0 = .ok (.iload_n (1), 1) := by decide +kernel
theorem d_Model_told_1 : decode prog_10_method_47_code 1 = .ok (.ifCond .lt (9), 3) := by decide +kernel
theorem d_Model_told_4 : decode prog_10_method_47_code 4 = .ok (.iload_n (1), 1) := by decide +kernel
theorem d_Model_told_5 : decode prog_10_method_47_code 5 = .ok (.bipush (7), 2) := by decide +kernel
theorem d_Model_told_7 : decode prog_10_method_47_code 7 = .ok (.if_icmp .le (5), 3) := by decide +kernel
theorem d_Model_told_10 : decode prog_10_method_47_code 10 = .ok (.iconst (-1), 1) := by decide +kernel
theorem d_Model_told_11 : decode prog_10_method_47_code 11 = .ok (.ireturn, 1) := by decide +kernel
theorem d_Model_told_12 : decode prog_10_method_47_code 12 = .ok (.iconst (0), 1) := by decide +kernel
theorem d_Model_told_13 : decode prog_10_method_47_code 13 = .ok (.istore_n (2), 1) := by decide +kernel
theorem d_Model_told_14 : decode prog_10_method_47_code 14 = .ok (.iload_n (1), 1) := by decide +kernel
theorem d_Model_told_15 : decode prog_10_method_47_code 15 = .ok (.iconst (3), 1) := by decide +kernel
theorem d_Model_told_16 : decode prog_10_method_47_code 16 = .ok (.if_icmp .ge (64), 3) := by decide +kernel
theorem d_Model_told_19 : decode prog_10_method_47_code 19 = .ok (.iconst (0), 1) := by decide +kernel
theorem d_Model_told_20 : decode prog_10_method_47_code 20 = .ok (.istore_n (3), 1) := by decide +kernel
theorem d_Model_told_21 : decode prog_10_method_47_code 21 = .ok (.iload_n (3), 1) := by decide +kernel
theorem d_Model_told_22 : decode prog_10_method_47_code 22 = .ok (.aload_n (0), 1) := by decide +kernel
theorem d_Model_told_23 : decode prog_10_method_47_code 23 = .ok (.getfield (89), 3) := by decide +kernel
theorem d_Model_told_26 : decode prog_10_method_47_code 26 = .ok (.if_icmp .gt (41), 3) := by decide +kernel
theorem d_Model_told_29 : decode prog_10_method_47_code 29 = .ok (.iload_n (1), 1) := by decide +kernel
theorem d_Model_told_30 : decode prog_10_method_47_code 30 = .ok (.iconst (1), 1) := by decide +kernel
theorem d_Model_told_31 : decode prog_10_method_47_code 31 = .ok (.if_icmp .ne (12), 3) := by decide +kernel
theorem d_Model_told_34 : decode prog_10_method_47_code 34 = .ok (.aload_n (0), 1) := by decide +kernel
theorem d_Model_told_35 : decode prog_10_method_47_code 35 = .ok (.getfield (19), 3) := by decide +kernel
theorem d_Model_told_38 : decode prog_10_method_47_code 38 = .ok (.iload_n (3), 1) := by decide +kernel
theorem d_Model_told_39 : decode prog_10_method_47_code 39 = .ok (.iaload, 1) := by decide +kernel
theorem d_Model_told_40 : decode prog_10_method_47_code 40 = .ok (.goto (9), 3) := by decide +kernel
theorem d_Model_told_43 : decode prog_10_method_47_code 43 = .ok (.aload_n (0), 1) := by decide +kernel
theorem d_Model_told_44 : decode prog_10_method_47_code 44 = .ok (.getfield (22), 3) := by decide +kernel
theorem d_Model_told_47 : decode prog_10_method_47_code 47 = .ok (.iload_n (3), 1) := by decide +kernel
theorem d_Model_told_48 : decode prog_10_method_47_code 48 = .ok (.iaload, 1) := by decide +kernel
theorem d_Model_told_49 : decode prog_10_method_47_code 49 = .ok (.iconst (-1), 1) := by decide +kernel
theorem d_Model_told_50 : decode prog_10_method_47_code 50 = .ok (.if_icmp .eq (9), 3) := by decide +kernel
theorem d_Model_told_53 : decode prog_10_method_47_code 53 = .ok (.iload_n (2), 1) := by decide +kernel
theorem d_Model_told_54 : decode prog_10_method_47_code 54 = .ok (.iconst (1), 1) := by decide +kernel
theorem d_Model_told_55 : decode prog_10_method_47_code 55 = .ok (.iadd, 1) := by decide +kernel
theorem d_Model_told_56 : decode prog_10_method_47_code 56 = .ok (.goto (4), 3) := by decide +kernel
theorem d_Model_told_59 : decode prog_10_method_47_code 59 = .ok (.iload_n (2), 1) := by decide +kernel
theorem d_Model_told_60 : decode prog_10_method_47_code 60 = .ok (.istore_n (2), 1) := by decide +kernel
theorem d_Model_told_61 : decode prog_10_method_47_code 61 = .ok (.iinc (3) (1), 3) := by decide +kernel
theorem d_Model_told_64 : decode prog_10_method_47_code 64 = .ok (.goto (-43), 3) := by decide +kernel
theorem d_Model_told_67 : decode prog_10_method_47_code 67 = .ok (.iload_n (1), 1) := by decide +kernel
theorem d_Model_told_68 : decode prog_10_method_47_code 68 = .ok (.ifCond .ne (10), 3) := by decide +kernel
theorem d_Model_told_71 : decode prog_10_method_47_code 71 = .ok (.aload_n (0), 1) := by decide +kernel
theorem d_Model_told_72 : decode prog_10_method_47_code 72 = .ok (.getfield (119), 3) := by decide +kernel
theorem d_Model_told_75 : decode prog_10_method_47_code 75 = .ok (.goto (4), 3) := by decide +kernel
theorem d_Model_told_78 : decode prog_10_method_47_code 78 = .ok (.iload_n (2), 1) := by decide +kernel
theorem d_Model_told_79 : decode prog_10_method_47_code 79 = .ok (.ireturn, 1) := by decide +kernel
theorem d_Model_told_80 : decode prog_10_method_47_code 80 = .ok (.aload_n (0), 1) := by decide +kernel
theorem d_Model_told_81 : decode prog_10_method_47_code 81 = .ok (.getfield (95), 3) := by decide +kernel
theorem d_Model_told_84 : decode prog_10_method_47_code 84 = .ok (.ifCond .ne (5), 3) := by decide +kernel
theorem d_Model_told_87 : decode prog_10_method_47_code 87 = .ok (.iconst (-1), 1) := by decide +kernel
theorem d_Model_told_88 : decode prog_10_method_47_code 88 = .ok (.ireturn, 1) := by decide +kernel
theorem d_Model_told_89 : decode prog_10_method_47_code 89 = .ok (.iload_n (1), 1) := by decide +kernel
theorem d_Model_told_90 : decode prog_10_method_47_code 90 = .ok (.iconst (3), 1) := by decide +kernel
theorem d_Model_told_91 : decode prog_10_method_47_code 91 = .ok (.if_icmp .ne (8), 3) := by decide +kernel
theorem d_Model_told_94 : decode prog_10_method_47_code 94 = .ok (.aload_n (0), 1) := by decide +kernel
theorem d_Model_told_95 : decode prog_10_method_47_code 95 = .ok (.getfield (169), 3) := by decide +kernel
theorem d_Model_told_98 : decode prog_10_method_47_code 98 = .ok (.ireturn, 1) := by decide +kernel
theorem d_Model_told_99 : decode prog_10_method_47_code 99 = .ok (.iload_n (1), 1) := by decide +kernel
theorem d_Model_told_100 : decode prog_10_method_47_code 100 = .ok (.bipush (7), 2) := by decide +kernel
theorem d_Model_told_102 : decode prog_10_method_47_code 102 = .ok (.if_icmp .ne (8), 3) := by decide +kernel
theorem d_Model_told_105 : decode prog_10_method_47_code 105 = .ok (.aload_n (0), 1) := by decide +kernel
theorem d_Model_told_106 : decode prog_10_method_47_code 106 = .ok (.invokevirtual (212), 3) := by decide +kernel
theorem d_Model_told_109 : decode prog_10_method_47_code 109 = .ok (.ireturn, 1) := by decide +kernel
theorem d_Model_told_110 : decode prog_10_method_47_code 110 = .ok (.iconst (0), 1) := by decide +kernel
theorem d_Model_told_111 : decode prog_10_method_47_code 111 = .ok (.istore_n (3), 1) := by decide +kernel
theorem d_Model_told_112 : decode prog_10_method_47_code 112 = .ok (.iload_n (3), 1) := by decide +kernel
theorem d_Model_told_113 : decode prog_10_method_47_code 113 = .ok (.aload_n (0), 1) := by decide +kernel
theorem d_Model_told_114 : decode prog_10_method_47_code 114 = .ok (.getfield (89), 3) := by decide +kernel
theorem d_Model_told_117 : decode prog_10_method_47_code 117 = .ok (.if_icmp .gt (88), 3) := by decide +kernel
theorem d_Model_told_120 : decode prog_10_method_47_code 120 = .ok (.aload_n (0), 1) := by decide +kernel
theorem d_Model_told_121 : decode prog_10_method_47_code 121 = .ok (.iload_n (3), 1) := by decide +kernel
theorem d_Model_told_122 : decode prog_10_method_47_code 122 = .ok (.invokevirtual (227), 3) := by decide +kernel
theorem d_Model_told_125 : decode prog_10_method_47_code 125 = .ok (.istore (4), 2) := by decide +kernel
theorem d_Model_told_127 : decode prog_10_method_47_code 127 = .ok (.iload_n (1), 1) := by decide +kernel
theorem d_Model_told_128 : decode prog_10_method_47_code 128 = .ok (.iconst (4), 1) := by decide +kernel
theorem d_Model_told_129 : decode prog_10_method_47_code 129 = .ok (.if_icmp .ne (34), 3) := by decide +kernel
theorem d_Model_told_132 : decode prog_10_method_47_code 132 = .ok (.iload_n (2), 1) := by decide +kernel
theorem d_Model_told_133 : decode prog_10_method_47_code 133 = .ok (.iload_n (3), 1) := by decide +kernel
theorem d_Model_told_134 : decode prog_10_method_47_code 134 = .ok (.ifCond .le (24), 3) := by decide +kernel
theorem d_Model_told_137 : decode prog_10_method_47_code 137 = .ok (.aload_n (0), 1) := by decide +kernel
theorem d_Model_told_138 : decode prog_10_method_47_code 138 = .ok (.getfield (68), 3) := by decide +kernel
theorem d_Model_told_141 : decode prog_10_method_47_code 141 = .ok (.iload_n (3), 1) := by decide +kernel
theorem d_Model_told_142 : decode prog_10_method_47_code 142 = .ok (.iaload, 1) := by decide +kernel
theorem d_Model_told_143 : decode prog_10_method_47_code 143 = .ok (.aload_n (0), 1) := by decide +kernel
theorem d_Model_told_144 : decode prog_10_method_47_code 144 = .ok (.getfield (68), 3) := by decide +kernel
theorem d_Model_told_147 : decode prog_10_method_47_code 147 = .ok (.iload_n (3), 1) := by decide +kernel
theorem d_Model_told_148 : decode prog_10_method_47_code 148 = .ok (.iconst (1), 1) := by decide +kernel
theorem d_Model_told_149 : decode prog_10_method_47_code 149 = .ok (.isub, 1) := by decide +kernel
theorem d_Model_told_150 : decode prog_10_method_47_code 150 = .ok (.iaload, 1) := by decide +kernel
theorem d_Model_told_151 : decode prog_10_method_47_code 151 = .ok (.isub, 1) := by decide +kernel
theorem d_Model_told_152 : decode prog_10_method_47_code 152 = .ok (.invokestatic (129), 3) := by decide +kernel
theorem d_Model_told_155 : decode prog_10_method_47_code 155 = .ok (.goto (4), 3) := by decide +kernel
theorem d_Model_told_158 : decode prog_10_method_47_code 158 = .ok (.iconst (0), 1) := by decide +kernel
theorem d_Model_told_159 : decode prog_10_method_47_code 159 = .ok (.iadd, 1) := by decide +kernel
theorem d_Model_told_160 : decode prog_10_method_47_code 160 = .ok (.goto (38), 3) := by decide +kernel
theorem d_Model_told_163 : decode prog_10_method_47_code 163 = .ok (.iload_n (1), 1) := by decide +kernel
theorem d_Model_told_164 : decode prog_10_method_47_code 164 = .ok (.iconst (5), 1) := by decide +kernel
theorem d_Model_told_165 : decode prog_10_method_47_code 165 = .ok (.if_icmp .ne (20), 3) := by decide +kernel
theorem d_Model_told_168 : decode prog_10_method_47_code 168 = .ok (.iload_n (2), 1) := by decide +kernel
theorem d_Model_told_169 : decode prog_10_method_47_code 169 = .ok (.iload (4), 2) := by decide +kernel
theorem d_Model_told_171 : decode prog_10_method_47_code 171 = .ok (.ifCond .ge (9), 3) := by decide +kernel
theorem d_Model_told_174 : decode prog_10_method_47_code 174 = .ok (.iload (4), 2) := by decide +kernel
theorem d_Model_told_176 : decode prog_10_method_47_code 176 = .ok (.ineg, 1) := by decide +kernel
theorem d_Model_told_177 : decode prog_10_method_47_code 177 = .ok (.goto (4), 3) := by decide +kernel
theorem d_Model_told_180 : decode prog_10_method_47_code 180 = .ok (.iconst (0), 1) := by decide +kernel
theorem d_Model_told_181 : decode prog_10_method_47_code 181 = .ok (.iadd, 1) := by decide +kernel
theorem d_Model_told_182 : decode prog_10_method_47_code 182 = .ok (.goto (16), 3) := by decide +kernel
theorem d_Model_told_185 : decode prog_10_method_47_code 185 = .ok (.iload_n (2), 1) := by decide +kernel
theorem d_Model_told_186 : decode prog_10_method_47_code 186 = .ok (.iload (4), 2) := by decide +kernel
theorem d_Model_told_188 : decode prog_10_method_47_code 188 = .ok (.ifCond .le (8), 3) := by decide +kernel
theorem d_Model_told_191 : decode prog_10_method_47_code 191 = .ok (.iload (4), 2) := by decide +kernel
theorem d_Model_told_193 : decode prog_10_method_47_code 193 = .ok (.goto (4), 3) := by decide +kernel
theorem d_Model_told_196 : decode prog_10_method_47_code 196 = .ok (.iconst (0), 1) := by decide +kernel
theorem d_Model_told_197 : decode prog_10_method_47_code 197 = .ok (.iadd, 1) := by decide +kernel
theorem d_Model_told_198 : decode prog_10_method_47_code 198 = .ok (.istore_n (2), 1) := by decide +kernel
theorem d_Model_told_199 : decode prog_10_method_47_code 199 = .ok (.iinc (3) (1), 3) := by decide +kernel
theorem d_Model_told_202 : decode prog_10_method_47_code 202 = .ok (.goto (-90), 3) := by decide +kernel
theorem d_Model_told_205 : decode prog_10_method_47_code 205 = .ok (.iload_n (2), 1) := by decide +kernel
theorem d_Model_told_206 : decode prog_10_method_47_code 206 = .ok (.ireturn, 1) := by decide +kernel
set_option maxHeartbeats 4000000 in
set_option maxRecDepth 100000 in
theorem k_Model_told_198 (N : Nat) {X : zX} (C : zB X prog_10_method_47_code 5 R_Model rm_Model_told) {h0 : zH} {p : Int32 × zH} (E : zR X (some .int) rm_Model_told h0 (some (.int p.1)) p.2) {rc112 : Nat → Int32 → Int32 → Int32 → zH → Option (Int32 × zH)} (H112 : ∀ (x0 : Nat) (x1 : Int32) (x2 : Int32) (x3 : Int32) (h : zH), rc112 x0 x1 x2 x3 h = some p → Zt X 5 0 0 112 [(0, .ref x0), (1, .int x1), (2, .int x2), (3, .int x3)] [] h) : ∀ (x0 : Nat) (x1 : Int32) (x3 : Int32) (s0 : Int32) (h : zH), f_Model_told_198 N rc112 x0 x1 x3 s0 h = some p → Zt X 5 0 0 198 [(0, .ref x0), (1, .int x1), (3, .int x3)] [.int s0] h := by
  intro x0 x1 x3 s0 h hf
  unfold f_Model_told_198 at hf
  refine z_istore_n C (lv' := [(2, .int s0), (0, .ref x0), (1, .int x1), (3, .int x3)]) d_Model_told_198 rfl (by decide) rfl ?_
  refine z_iinc C (v := (x3 + (1 : Int32))) (lv' := [(3, .int (x3 + (1 : Int32))), (2, .int s0), (0, .ref x0), (1, .int x1)]) 3 d_Model_told_199 rfl (by rfl) (by decide) rfl ?_
  refine z_goto (tgt := 112) C d_Model_told_202 (by decide) ?_
  refine z_sub [2, 3, 1, 0] rfl ?_
  exact H112 _ _ _ _ _ hf

set_option maxHeartbeats 4000000 in
set_option maxRecDepth 100000 in
theorem k_Model_told_197 (N : Nat) {X : zX} (C : zB X prog_10_method_47_code 5 R_Model rm_Model_told) {h0 : zH} {p : Int32 × zH} (E : zR X (some .int) rm_Model_told h0 (some (.int p.1)) p.2) {rc112 : Nat → Int32 → Int32 → Int32 → zH → Option (Int32 × zH)} (H112 : ∀ (x0 : Nat) (x1 : Int32) (x2 : Int32) (x3 : Int32) (h : zH), rc112 x0 x1 x2 x3 h = some p → Zt X 5 0 0 112 [(0, .ref x0), (1, .int x1), (2, .int x2), (3, .int x3)] [] h) : ∀ (x0 : Nat) (x1 : Int32) (x3 : Int32) (s0 : Int32) (s1 : Int32) (h : zH), f_Model_told_197 N rc112 x0 x1 x3 s0 s1 h = some p → Zt X 5 0 0 197 [(0, .ref x0), (1, .int x1), (3, .int x3)] [.int s1, .int s0] h := by
  intro x0 x1 x3 s0 s1 h hf
  unfold f_Model_told_197 at hf
  refine z_iadd C d_Model_told_197 ?_
  refine z_sub [0, 1, 2] rfl ?_
  exact k_Model_told_198 N C E H112 _ _ _ _ _ hf

set_option maxHeartbeats 4000000 in
set_option maxRecDepth 100000 in
theorem k_Model_told_181 (N : Nat) {X : zX} (C : zB X prog_10_method_47_code 5 R_Model rm_Model_told) {h0 : zH} {p : Int32 × zH} (E : zR X (some .int) rm_Model_told h0 (some (.int p.1)) p.2) {rc112 : Nat → Int32 → Int32 → Int32 → zH → Option (Int32 × zH)} (H112 : ∀ (x0 : Nat) (x1 : Int32) (x2 : Int32) (x3 : Int32) (h : zH), rc112 x0 x1 x2 x3 h = some p → Zt X 5 0 0 112 [(0, .ref x0), (1, .int x1), (2, .int x2), (3, .int x3)] [] h) : ∀ (x0 : Nat) (x1 : Int32) (x3 : Int32) (s0 : Int32) (s1 : Int32) (h : zH), f_Model_told_181 N rc112 x0 x1 x3 s0 s1 h = some p → Zt X 5 0 0 181 [(0, .ref x0), (1, .int x1), (3, .int x3)] [.int s1, .int s0] h := by
  intro x0 x1 x3 s0 s1 h hf
  unfold f_Model_told_181 at hf
  refine z_iadd C d_Model_told_181 ?_
  refine z_goto (tgt := 198) C d_Model_told_182 (by decide) ?_
  refine z_sub [0, 1, 2] rfl ?_
  exact k_Model_told_198 N C E H112 _ _ _ _ _ hf

set_option maxHeartbeats 4000000 in
set_option maxRecDepth 100000 in
theorem k_Model_told_159 (N : Nat) {X : zX} (C : zB X prog_10_method_47_code 5 R_Model rm_Model_told) {h0 : zH} {p : Int32 × zH} (E : zR X (some .int) rm_Model_told h0 (some (.int p.1)) p.2) {rc112 : Nat → Int32 → Int32 → Int32 → zH → Option (Int32 × zH)} (H112 : ∀ (x0 : Nat) (x1 : Int32) (x2 : Int32) (x3 : Int32) (h : zH), rc112 x0 x1 x2 x3 h = some p → Zt X 5 0 0 112 [(0, .ref x0), (1, .int x1), (2, .int x2), (3, .int x3)] [] h) : ∀ (x0 : Nat) (x1 : Int32) (x3 : Int32) (s0 : Int32) (s1 : Int32) (h : zH), f_Model_told_159 N rc112 x0 x1 x3 s0 s1 h = some p → Zt X 5 0 0 159 [(0, .ref x0), (1, .int x1), (3, .int x3)] [.int s1, .int s0] h := by
  intro x0 x1 x3 s0 s1 h hf
  unfold f_Model_told_159 at hf
  refine z_iadd C d_Model_told_159 ?_
  refine z_goto (tgt := 198) C d_Model_told_160 (by decide) ?_
  refine z_sub [0, 1, 2] rfl ?_
  exact k_Model_told_198 N C E H112 _ _ _ _ _ hf

set_option maxHeartbeats 4000000 in
set_option maxRecDepth 100000 in
theorem k_Model_told_112 (N : Nat) {X : zX} (C : zB X prog_10_method_47_code 5 R_Model rm_Model_told) {h0 : zH} {p : Int32 × zH} (E : zR X (some .int) rm_Model_told h0 (some (.int p.1)) p.2) : ∀ n : Nat, ∀ (x0 : Nat) (x1 : Int32) (x2 : Int32) (x3 : Int32) (h : zH), f_Model_told_112 N n x0 x1 x2 x3 h = some p → Zt X 5 0 0 112 [(0, .ref x0), (1, .int x1), (2, .int x2), (3, .int x3)] [] h := by
  intro n
  induction n with
  | zero => intro x0 x1 x2 x3 h hf; cases hf
  | succ n ih =>
  intro x0 x1 x2 x3 h hf
  have H112 := ih
  replace hf : b_Model_told_112 N (f_Model_told_112 N n) x0 x1 x2 x3 h = some p := hf
  unfold b_Model_told_112 at hf
  refine z_iload_n C 3 d_Model_told_112 rfl rfl ?_
  refine z_aload_n C 0 d_Model_told_113 rfl rfl ?_
  refine z_getI C 0 0 rfl in_Model (by decide) w_741 rfl d_Model_told_114 hf (fun v1 hf => ?_)
  refine z_ic_gt (tgt := 205) C d_Model_told_117 (by decide) hf (fun hf => ?_) (fun hf => ?_)
  · refine z_iload_n C 2 d_Model_told_205 rfl rfl ?_
    exact z_iret C E (Nat.le_of_ble_eq_true rfl) (Nat.le_of_ble_eq_true rfl) d_Model_told_206 hf
  · refine z_aload_n C 0 d_Model_told_120 rfl rfl ?_
    refine z_iload_n C 3 d_Model_told_121 rfl rfl ?_
    obtain ⟨p2, hc, hf⟩ := Option.bind_eq_some_iff.mp hf
    obtain ⟨hz, hc⟩ := zck_some hc
    refine z_callV C (ci := 0) (c_Model_filled N C.2.2.1 hc) rfl hz w_1022 w_66 w_1019 w_1021 w_53 pd_Model_filled rfl ⟨(Nat.le_of_ble_eq_true rfl), (Nat.le_of_ble_eq_true rfl)⟩ ⟨(Nat.le_of_ble_eq_true rfl), (Nat.le_of_ble_eq_true rfl)⟩ rfl (Nat.le_of_ble_eq_true rfl) d_Model_told_122 (k' := 0) (n' := 0) (stk' := [.int p2.1]) rfl rfl rfl ?_
    refine z_istore C (lv' := [(4, .int p2.1), (0, .ref x0), (1, .int x1), (2, .int x2), (3, .int x3)]) d_Model_told_125 (by decide) rfl ?_
    refine z_iload_n C 2 d_Model_told_127 rfl rfl ?_
    refine z_iconst C (v := (4 : Int32)) d_Model_told_128 (by decide) ?_
    refine z_ic_ne (tgt := 163) C d_Model_told_129 (by decide) hf (fun hf => ?_) (fun hf => ?_)
    · refine z_iload_n C 2 d_Model_told_163 rfl rfl ?_
      refine z_iconst C (v := (5 : Int32)) d_Model_told_164 (by decide) ?_
      refine z_ic_ne (tgt := 185) C d_Model_told_165 (by decide) hf (fun hf => ?_) (fun hf => ?_)
      · refine z_iload_n C 3 d_Model_told_185 rfl rfl ?_
        refine z_iload C 0 d_Model_told_186 rfl ?_
        refine z_if_le (tgt := 196) C d_Model_told_188 (by decide) hf (fun hf => ?_) (fun hf => ?_)
        · refine z_iconst C (v := (0 : Int32)) d_Model_told_196 (by decide) ?_
          refine z_sub [1, 2, 4] rfl ?_
          exact k_Model_told_197 N C E H112 _ _ _ _ _ _ hf
        · refine z_iload C 0 d_Model_told_191 rfl ?_
          refine z_goto (tgt := 197) C d_Model_told_193 (by decide) ?_
          refine z_sub [1, 2, 4] rfl ?_
          exact k_Model_told_197 N C E H112 _ _ _ _ _ _ hf
      · refine z_iload_n C 3 d_Model_told_168 rfl rfl ?_
        refine z_iload C 0 d_Model_told_169 rfl ?_
        refine z_if_ge (tgt := 180) C d_Model_told_171 (by decide) hf (fun hf => ?_) (fun hf => ?_)
        · refine z_iconst C (v := (0 : Int32)) d_Model_told_180 (by decide) ?_
          refine z_sub [1, 2, 4] rfl ?_
          exact k_Model_told_181 N C E H112 _ _ _ _ _ _ hf
        · refine z_iload C 0 d_Model_told_174 rfl ?_
          refine z_ineg C d_Model_told_176 ?_
          refine z_goto (tgt := 181) C d_Model_told_177 (by decide) ?_
          refine z_sub [1, 2, 4] rfl ?_
          exact k_Model_told_181 N C E H112 _ _ _ _ _ _ hf
    · refine z_iload_n C 3 d_Model_told_132 rfl rfl ?_
      refine z_iload_n C 4 d_Model_told_133 rfl rfl ?_
      refine z_if_le (tgt := 158) C d_Model_told_134 (by decide) hf (fun hf => ?_) (fun hf => ?_)
      · refine z_iconst C (v := (0 : Int32)) d_Model_told_158 (by decide) ?_
        refine z_sub [1, 2, 4] rfl ?_
        exact k_Model_told_159 N C E H112 _ _ _ _ _ _ hf
      · refine z_aload_n C 1 d_Model_told_137 rfl rfl ?_
        refine z_getR C 0 25 rfl in_Model (by decide) w_766 rfl d_Model_told_138 hf (fun v3 hf => ?_)
        refine z_iload_n C 4 d_Model_told_141 rfl rfl ?_
        refine z_iald C d_Model_told_142 hf (fun v4 hf => ?_)
        refine z_aload_n C 1 d_Model_told_143 rfl rfl ?_
        refine z_getR C 0 25 rfl in_Model (by decide) w_766 rfl d_Model_told_144 hf (fun v5 hf => ?_)
        refine z_iload_n C 4 d_Model_told_147 rfl rfl ?_
        refine z_iconst C (v := (1 : Int32)) d_Model_told_148 (by decide) ?_
        refine z_isub C d_Model_told_149 ?_
        refine z_iald C d_Model_told_150 hf (fun v6 hf => ?_)
        refine z_isub C d_Model_told_151 ?_
        obtain ⟨p7, hc, hf⟩ := Option.bind_eq_some_iff.mp hf
        refine z_callS C (c_Model_size N C.2.2.1 hc) w_912 w_66 w_910 w_911 pd_Model_size rfl ⟨(Nat.le_of_ble_eq_true rfl), (Nat.le_of_ble_eq_true rfl)⟩ ⟨(Nat.le_of_ble_eq_true rfl), (Nat.le_of_ble_eq_true rfl)⟩ rfl (Nat.le_of_ble_eq_true rfl) d_Model_told_152 (k' := 0) (n' := 0) (stk' := [.int p7.1, .int x2]) rfl rfl rfl ?_
        refine z_goto (tgt := 159) C d_Model_told_155 (by decide) ?_
        refine z_sub [1, 2, 4] rfl ?_
        exact k_Model_told_159 N C E H112 _ _ _ _ _ _ hf

set_option maxHeartbeats 4000000 in
set_option maxRecDepth 100000 in
theorem k_Model_told_60 (N : Nat) {X : zX} (C : zB X prog_10_method_47_code 5 R_Model rm_Model_told) {h0 : zH} {p : Int32 × zH} (E : zR X (some .int) rm_Model_told h0 (some (.int p.1)) p.2) {rc21 : Nat → Int32 → Int32 → Int32 → zH → Option (Int32 × zH)} (H21 : ∀ (x0 : Nat) (x1 : Int32) (x2 : Int32) (x3 : Int32) (h : zH), rc21 x0 x1 x2 x3 h = some p → Zt X 5 0 0 21 [(0, .ref x0), (1, .int x1), (2, .int x2), (3, .int x3)] [] h) : ∀ (x0 : Nat) (x1 : Int32) (x3 : Int32) (s0 : Int32) (h : zH), f_Model_told_60 N rc21 x0 x1 x3 s0 h = some p → Zt X 5 0 0 60 [(0, .ref x0), (1, .int x1), (3, .int x3)] [.int s0] h := by
  intro x0 x1 x3 s0 h hf
  unfold f_Model_told_60 at hf
  refine z_istore_n C (lv' := [(2, .int s0), (0, .ref x0), (1, .int x1), (3, .int x3)]) d_Model_told_60 rfl (by decide) rfl ?_
  refine z_iinc C (v := (x3 + (1 : Int32))) (lv' := [(3, .int (x3 + (1 : Int32))), (2, .int s0), (0, .ref x0), (1, .int x1)]) 3 d_Model_told_61 rfl (by rfl) (by decide) rfl ?_
  refine z_goto (tgt := 21) C d_Model_told_64 (by decide) ?_
  refine z_sub [2, 3, 1, 0] rfl ?_
  exact H21 _ _ _ _ _ hf

set_option maxHeartbeats 4000000 in
set_option maxRecDepth 100000 in
theorem k_Model_told_49 (N : Nat) {X : zX} (C : zB X prog_10_method_47_code 5 R_Model rm_Model_told) {h0 : zH} {p : Int32 × zH} (E : zR X (some .int) rm_Model_told h0 (some (.int p.1)) p.2) {rc21 : Nat → Int32 → Int32 → Int32 → zH → Option (Int32 × zH)} (H21 : ∀ (x0 : Nat) (x1 : Int32) (x2 : Int32) (x3 : Int32) (h : zH), rc21 x0 x1 x2 x3 h = some p → Zt X 5 0 0 21 [(0, .ref x0), (1, .int x1), (2, .int x2), (3, .int x3)] [] h) : ∀ (x0 : Nat) (x1 : Int32) (x2 : Int32) (x3 : Int32) (s0 : Int32) (h : zH), f_Model_told_49 N rc21 x0 x1 x2 x3 s0 h = some p → Zt X 5 0 0 49 [(0, .ref x0), (1, .int x1), (2, .int x2), (3, .int x3)] [.int s0] h := by
  intro x0 x1 x2 x3 s0 h hf
  unfold f_Model_told_49 at hf
  refine z_iconst C (v := (-1 : Int32)) d_Model_told_49 (by decide) ?_
  refine z_ic_eq (tgt := 59) C d_Model_told_50 (by decide) hf (fun hf => ?_) (fun hf => ?_)
  · refine z_iload_n C 2 d_Model_told_59 rfl rfl ?_
    refine z_sub [0, 1, 3] rfl ?_
    exact k_Model_told_60 N C E H21 _ _ _ _ _ hf
  · refine z_iload_n C 2 d_Model_told_53 rfl rfl ?_
    refine z_iconst C (v := (1 : Int32)) d_Model_told_54 (by decide) ?_
    refine z_iadd C d_Model_told_55 ?_
    refine z_goto (tgt := 60) C d_Model_told_56 (by decide) ?_
    refine z_sub [0, 1, 3] rfl ?_
    exact k_Model_told_60 N C E H21 _ _ _ _ _ hf

set_option maxHeartbeats 4000000 in
set_option maxRecDepth 100000 in
theorem k_Model_told_21 (N : Nat) {X : zX} (C : zB X prog_10_method_47_code 5 R_Model rm_Model_told) {h0 : zH} {p : Int32 × zH} (E : zR X (some .int) rm_Model_told h0 (some (.int p.1)) p.2) : ∀ n : Nat, ∀ (x0 : Nat) (x1 : Int32) (x2 : Int32) (x3 : Int32) (h : zH), f_Model_told_21 N n x0 x1 x2 x3 h = some p → Zt X 5 0 0 21 [(0, .ref x0), (1, .int x1), (2, .int x2), (3, .int x3)] [] h := by
  intro n
  induction n with
  | zero => intro x0 x1 x2 x3 h hf; cases hf
  | succ n ih =>
  intro x0 x1 x2 x3 h hf
  have H21 := ih
  replace hf : b_Model_told_21 N (f_Model_told_21 N n) x0 x1 x2 x3 h = some p := hf
  unfold b_Model_told_21 at hf
  refine z_iload_n C 3 d_Model_told_21 rfl rfl ?_
  refine z_aload_n C 0 d_Model_told_22 rfl rfl ?_
  refine z_getI C 0 0 rfl in_Model (by decide) w_741 rfl d_Model_told_23 hf (fun v8 hf => ?_)
  refine z_ic_gt (tgt := 67) C d_Model_told_26 (by decide) hf (fun hf => ?_) (fun hf => ?_)
  · refine z_iload_n C 1 d_Model_told_67 rfl rfl ?_
    refine z_if_ne (tgt := 78) C d_Model_told_68 (by decide) hf (fun hf => ?_) (fun hf => ?_)
    · refine z_iload_n C 2 d_Model_told_78 rfl rfl ?_
      exact z_iret C E (Nat.le_of_ble_eq_true rfl) (Nat.le_of_ble_eq_true rfl) d_Model_told_79 hf
    · refine z_aload_n C 0 d_Model_told_71 rfl rfl ?_
      refine z_getI C 0 10 rfl in_Model (by decide) w_751 rfl d_Model_told_72 hf (fun v9 hf => ?_)
      refine z_goto (tgt := 79) C d_Model_told_75 (by decide) ?_
      exact z_iret C E (Nat.le_of_ble_eq_true rfl) (Nat.le_of_ble_eq_true rfl) d_Model_told_79 hf
  · refine z_iload_n C 1 d_Model_told_29 rfl rfl ?_
    refine z_iconst C (v := (1 : Int32)) d_Model_told_30 (by decide) ?_
    refine z_ic_ne (tgt := 43) C d_Model_told_31 (by decide) hf (fun hf => ?_) (fun hf => ?_)
    · refine z_aload_n C 0 d_Model_told_43 rfl rfl ?_
      refine z_getR C 0 6 rfl in_Model (by decide) w_747 rfl d_Model_told_44 hf (fun v10 hf => ?_)
      refine z_iload_n C 3 d_Model_told_47 rfl rfl ?_
      refine z_iald C d_Model_told_48 hf (fun v11 hf => ?_)
      refine z_sub [0, 1, 2, 3] rfl ?_
      exact k_Model_told_49 N C E H21 _ _ _ _ _ _ hf
    · refine z_aload_n C 0 d_Model_told_34 rfl rfl ?_
      refine z_getR C 0 5 rfl in_Model (by decide) w_746 rfl d_Model_told_35 hf (fun v12 hf => ?_)
      refine z_iload_n C 3 d_Model_told_38 rfl rfl ?_
      refine z_iald C d_Model_told_39 hf (fun v13 hf => ?_)
      refine z_goto (tgt := 49) C d_Model_told_40 (by decide) ?_
      refine z_sub [0, 1, 2, 3] rfl ?_
      exact k_Model_told_49 N C E H21 _ _ _ _ _ _ hf

set_option maxHeartbeats 4000000 in
set_option maxRecDepth 100000 in
theorem k_Model_told (N : Nat) {X : zX} (C : zB X prog_10_method_47_code 5 R_Model rm_Model_told) {h0 : zH} {p : Int32 × zH} (E : zR X (some .int) rm_Model_told h0 (some (.int p.1)) p.2) : ∀ (x0 : Nat) (x1 : Int32) (h : zH), f_Model_told N x0 x1 h = some p → Zt X 5 0 0 0 [(0, .ref x0), (1, .int x1)] [] h := by
  intro x0 x1 h hf
  unfold f_Model_told at hf
  refine z_iload_n C 1 d_Model_told_0 rfl rfl ?_
  refine z_if_lt (tgt := 10) C d_Model_told_1 (by decide) hf (fun hf => ?_) (fun hf => ?_)
  · refine z_iconst C (v := (-1 : Int32)) d_Model_told_10 (by decide) ?_
    exact z_iret C E (Nat.le_of_ble_eq_true rfl) (Nat.le_of_ble_eq_true rfl) d_Model_told_11 hf
  · refine z_iload_n C 1 d_Model_told_4 rfl rfl ?_
    refine z_bipush C (v := (7 : Int32)) d_Model_told_5 (by decide) ?_
    refine z_ic_le (tgt := 12) C d_Model_told_7 (by decide) hf (fun hf => ?_) (fun hf => ?_)
    · refine z_iconst C (v := (0 : Int32)) d_Model_told_12 (by decide) ?_
      refine z_istore_n C (lv' := [(2, .int (0 : Int32)), (0, .ref x0), (1, .int x1)]) d_Model_told_13 rfl (by decide) rfl ?_
      refine z_iload_n C 2 d_Model_told_14 rfl rfl ?_
      refine z_iconst C (v := (3 : Int32)) d_Model_told_15 (by decide) ?_
      refine z_ic_ge (tgt := 80) C d_Model_told_16 (by decide) hf (fun hf => ?_) (fun hf => ?_)
      · refine z_aload_n C 1 d_Model_told_80 rfl rfl ?_
        refine z_getI C 0 24 rfl in_Model (by decide) w_765 rfl d_Model_told_81 hf (fun v14 hf => ?_)
        refine z_if_ne (tgt := 89) C d_Model_told_84 (by decide) hf (fun hf => ?_) (fun hf => ?_)
        · refine z_iload_n C 2 d_Model_told_89 rfl rfl ?_
          refine z_iconst C (v := (3 : Int32)) d_Model_told_90 (by decide) ?_
          refine z_ic_ne (tgt := 99) C d_Model_told_91 (by decide) hf (fun hf => ?_) (fun hf => ?_)
          · refine z_iload_n C 2 d_Model_told_99 rfl rfl ?_
            refine z_bipush C (v := (7 : Int32)) d_Model_told_100 (by decide) ?_
            refine z_ic_ne (tgt := 110) C d_Model_told_102 (by decide) hf (fun hf => ?_) (fun hf => ?_)
            · refine z_iconst C (v := (0 : Int32)) d_Model_told_110 (by decide) ?_
              refine z_istore_n C (lv' := [(3, .int (0 : Int32)), (2, .int (0 : Int32)), (0, .ref x0), (1, .int x1)]) d_Model_told_111 rfl (by decide) rfl ?_
              refine z_sub [2, 3, 1, 0] rfl ?_
              exact k_Model_told_112 N C E N _ _ _ _ _ hf
            · refine z_aload_n C 1 d_Model_told_105 rfl rfl ?_
              obtain ⟨p15, hc, hf⟩ := Option.bind_eq_some_iff.mp hf
              obtain ⟨hz, hc⟩ := zck_some hc
              refine z_callV C (ci := 0) (c_Model_curves N C.2.2.1 hc) rfl hz w_999 w_66 w_996 w_998 w_52 pd_Model_curves rfl ⟨(Nat.le_of_ble_eq_true rfl), (Nat.le_of_ble_eq_true rfl)⟩ ⟨(Nat.le_of_ble_eq_true rfl), (Nat.le_of_ble_eq_true rfl)⟩ rfl (Nat.le_of_ble_eq_true rfl) d_Model_told_106 (k' := 0) (n' := 0) (stk' := [.int p15.1]) rfl rfl rfl ?_
              exact z_iret C E (Nat.le_of_ble_eq_true rfl) (Nat.le_of_ble_eq_true rfl) d_Model_told_109 hf
          · refine z_aload_n C 1 d_Model_told_94 rfl rfl ?_
            refine z_getI C 0 26 rfl in_Model (by decide) w_767 rfl d_Model_told_95 hf (fun v16 hf => ?_)
            exact z_iret C E (Nat.le_of_ble_eq_true rfl) (Nat.le_of_ble_eq_true rfl) d_Model_told_98 hf
        · refine z_iconst C (v := (-1 : Int32)) d_Model_told_87 (by decide) ?_
          exact z_iret C E (Nat.le_of_ble_eq_true rfl) (Nat.le_of_ble_eq_true rfl) d_Model_told_88 hf
      · refine z_iconst C (v := (0 : Int32)) d_Model_told_19 (by decide) ?_
        refine z_istore_n C (lv' := [(3, .int (0 : Int32)), (2, .int (0 : Int32)), (0, .ref x0), (1, .int x1)]) d_Model_told_20 rfl (by decide) rfl ?_
        refine z_sub [2, 3, 1, 0] rfl ?_
        exact k_Model_told_21 N C E N _ _ _ _ _ hf
    · refine z_iconst C (v := (-1 : Int32)) d_Model_told_10 (by decide) ?_
      exact z_iret C E (Nat.le_of_ble_eq_true rfl) (Nat.le_of_ble_eq_true rfl) d_Model_told_11 hf

theorem c_Model_told (N : Nat) {l : Launch} {D : va_G} {T : List (ClassId × FieldType)} (hT : T.map (fun q => q.2) = ztl) {x0 : Nat} {x1 : Int32} {h : zH} {p : Int32 × zH} (hf : f_Model_told N x0 x1 h = some p) : zM l y_Model_told prog_10_method_47_code 5 (some .int) rm_Model_told D T [.ref x0, .int x1] h (some (.int p.1)) p.2 :=
  z_enter (by decide) hT (Nat.le_of_ble_eq_true rfl) (fun X el eD eT hin C E => k_Model_told N C E x0 x1 h hf)
/-! ===== LevelTablesModel.run()I ===== -/
abbrev y_Model_run : MethodName := ⟨R_Model, "run", "()I"⟩
theorem pd_Model_run : y_Model_run.cls ≠ "java/lang/invoke/MethodHandle" ∧ y_Model_run.cls ≠ "java/lang/invoke/VarHandle" ∧ (parseMethodDescriptor y_Model_run.desc).map (fun d => d.parameters.length) = some 0 := ⟨by decide +kernel, by decide +kernel, by decide +kernel⟩
abbrev rm_Model_run : Room := { frames := 5, cells := 0, slots := 0, locals := 126 }
def f_Model_run (N : Nat) (x0 : Nat) (h : zH) : Option (Int32 × zH) :=
  Option.bind (zck (zis h x0 0) (f_Model_forget N x0  h)) fun (p1 : Unit × zH) =>
  Option.bind (zck (zis p1.2 x0 0) (f_Model_barred N x0  p1.2)) fun (p2 : Int32 × zH) =>
  (if p2.1 < 0 then
    Option.bind (zck (zis p2.2 x0 0) (f_Model_search N x0  p2.2)) fun (p3 : Int32 × zH) =>
    Option.bind (zpZ p3.2 x0 0 24 p3.1) fun (h4 : zH) =>
    Option.bind (zck (zis h4 x0 0) (f_Model_goAlong N x0  h4)) fun (p5 : Unit × zH) =>
    Option.bind (zck (zis p5.2 x0 0) (f_Model_usedSpans N x0  p5.2)) fun (p6 : Int32 × zH) =>
    some (p6.1, p6.2)
  else
    some (((-1 : Int32) - p2.1), p2.2))
theorem d_Model_run_0 : decode prog_10_method_26_code 0 = .ok (.aload_n (0), 1) := by decide +kernel
theorem d_Model_run_1 : decode prog_10_method_26_code 1 = .ok (.invokevirtual (112), 3) := by decide +kernel
theorem d_Model_run_4 : decode prog_10_method_26_code 4 = .ok (.aload_n (0), 1) := by decide +kernel
theorem d_Model_run_5 : decode prog_10_method_26_code 5 = .ok (.invokevirtual (176), 3) := by decide +kernel
theorem d_Model_run_8 : decode prog_10_method_26_code 8 = .ok (.istore_n (1), 1) := by decide +kernel
theorem d_Model_run_9 : decode prog_10_method_26_code 9 = .ok (.iload_n (1), 1) := by decide +kernel
theorem d_Model_run_10 : decode prog_10_method_26_code 10 = .ok (.ifCond .lt (7), 3) := by decide +kernel
theorem d_Model_run_13 : decode prog_10_method_26_code 13 = .ok (.iconst (-1), 1) := by decide +kernel
theorem d_Model_run_14 : decode prog_10_method_26_code 14 = .ok (.iload_n (1), 1) := by decide +kernel
theorem d_Model_run_15 : decode prog_10_method_26_code 15 = .ok (.isub, 1) := by decide +kernel
theorem d_Model_run_16 : decode prog_10_method_26_code 16 = .ok (.ireturn, 1) := by decide +kernel
theorem d_Model_run_17 : decode prog_10_method_26_code 17 = .ok (.aload_n (0), 1) := by decide +kernel
theorem d_Model_run_18 : decode prog_10_method_26_code 18 = .ok (.aload_n (0), 1) := by decide +kernel
theorem d_Model_run_19 : decode prog_10_method_26_code 19 = .ok (.invokevirtual (179), 3) := by decide +kernel
theorem d_Model_run_22 : decode prog_10_method_26_code 22 = .ok (.putfield (95), 3) := by decide +kernel
theorem d_Model_run_25 : decode prog_10_method_26_code 25 = .ok (.aload_n (0), 1) := by decide +kernel
theorem d_Model_run_26 : decode prog_10_method_26_code 26 = .ok (.invokevirtual (183), 3) := by decide +kernel
theorem d_Model_run_29 : decode prog_10_method_26_code 29 = .ok (.aload_n (0), 1) := by decide +kernel
theorem d_Model_run_30 : decode prog_10_method_26_code 30 = .ok (.invokevirtual (186), 3) := by decide +kernel
theorem d_Model_run_33 : decode prog_10_method_26_code 33 = .ok (.ireturn, 1) := by decide +kernel
set_option maxHeartbeats 4000000 in
set_option maxRecDepth 100000 in
theorem k_Model_run (N : Nat) {X : zX} (C : zB X prog_10_method_26_code 2 R_Model rm_Model_run) {h0 : zH} {p : Int32 × zH} (E : zR X (some .int) rm_Model_run h0 (some (.int p.1)) p.2) : ∀ (x0 : Nat) (h : zH), f_Model_run N x0 h = some p → Zt X 2 0 0 0 [(0, .ref x0)] [] h := by
  intro x0 h hf
  unfold f_Model_run at hf
  refine z_aload_n C 0 d_Model_run_0 rfl rfl ?_
  obtain ⟨p1, hc, hf⟩ := Option.bind_eq_some_iff.mp hf
  obtain ⟨hz, hc⟩ := zck_some hc
  refine z_callV C (ci := 0) (c_Model_forget N C.2.2.1 hc) rfl hz w_863 w_66 w_860 w_862 w_34 pd_Model_forget rfl ⟨(Nat.le_of_ble_eq_true rfl), (Nat.le_of_ble_eq_true rfl)⟩ ⟨(Nat.le_of_ble_eq_true rfl), (Nat.le_of_ble_eq_true rfl)⟩ rfl (Nat.le_of_ble_eq_true rfl) d_Model_run_1 (k' := 0) (n' := 0) (stk' := []) rfl rfl rfl ?_
  refine z_aload_n C 0 d_Model_run_4 rfl rfl ?_
  obtain ⟨p2, hc, hf⟩ := Option.bind_eq_some_iff.mp hf
  obtain ⟨hz, hc⟩ := zck_some hc
  refine z_callV C (ci := 0) (c_Model_barred N C.2.2.1 hc) rfl hz w_901 w_66 w_898 w_900 w_36 pd_Model_barred rfl ⟨(Nat.le_of_ble_eq_true rfl), (Nat.le_of_ble_eq_true rfl)⟩ ⟨(Nat.le_of_ble_eq_true rfl), (Nat.le_of_ble_eq_true rfl)⟩ rfl (Nat.le_of_ble_eq_true rfl) d_Model_run_5 (k' := 0) (n' := 0) (stk' := [.int p2.1]) rfl rfl rfl ?_
  refine z_istore_n C (lv' := [(1, .int p2.1), (0, .ref x0)]) d_Model_run_8 rfl (by decide) rfl ?_
  refine z_iload_n C 0 d_Model_run_9 rfl rfl ?_
  refine z_if_lt (tgt := 17) C d_Model_run_10 (by decide) hf (fun hf => ?_) (fun hf => ?_)
  · refine z_aload_n C 1 d_Model_run_17 rfl rfl ?_
    refine z_aload_n C 1 d_Model_run_18 rfl rfl ?_
    obtain ⟨p3, hc, hf⟩ := Option.bind_eq_some_iff.mp hf
    obtain ⟨hz, hc⟩ := zck_some hc
    refine z_callV C (ci := 0) (c_Model_search N C.2.2.1 hc) rfl hz w_916 w_66 w_913 w_915 w_39 pd_Model_search rfl ⟨(Nat.le_of_ble_eq_true rfl), (Nat.le_of_ble_eq_true rfl)⟩ ⟨(Nat.le_of_ble_eq_true rfl), (Nat.le_of_ble_eq_true rfl)⟩ rfl (Nat.le_of_ble_eq_true rfl) d_Model_run_19 (k' := 0) (n' := 0) (stk' := [.int p3.1, .ref x0]) rfl rfl rfl ?_
    refine z_putZ C 0 24 ty_Model rfl in_Model tyok_Model nm_Model (by decide) w_765 rfl (Or.inl rfl) rfl d_Model_run_22 hf (fun h4 hf => ?_)
    refine z_aload_n C 1 d_Model_run_25 rfl rfl ?_
    obtain ⟨p5, hc, hf⟩ := Option.bind_eq_some_iff.mp hf
    obtain ⟨hz, hc⟩ := zck_some hc
    refine z_callV C (ci := 0) (c_Model_goAlong N C.2.2.1 hc) rfl hz w_948 w_66 w_945 w_947 w_46 pd_Model_goAlong rfl ⟨(Nat.le_of_ble_eq_true rfl), (Nat.le_of_ble_eq_true rfl)⟩ ⟨(Nat.le_of_ble_eq_true rfl), (Nat.le_of_ble_eq_true rfl)⟩ rfl (Nat.le_of_ble_eq_true rfl) d_Model_run_26 (k' := 0) (n' := 0) (stk' := []) rfl rfl rfl ?_
    refine z_aload_n C 1 d_Model_run_29 rfl rfl ?_
    obtain ⟨p6, hc, hf⟩ := Option.bind_eq_some_iff.mp hf
    obtain ⟨hz, hc⟩ := zck_some hc
    refine z_callV C (ci := 0) (c_Model_usedSpans N C.2.2.1 hc) rfl hz w_952 w_66 w_949 w_951 w_47 pd_Model_usedSpans rfl ⟨(Nat.le_of_ble_eq_true rfl), (Nat.le_of_ble_eq_true rfl)⟩ ⟨(Nat.le_of_ble_eq_true rfl), (Nat.le_of_ble_eq_true rfl)⟩ rfl (Nat.le_of_ble_eq_true rfl) d_Model_run_30 (k' := 0) (n' := 0) (stk' := [.int p6.1]) rfl rfl rfl ?_
    exact z_iret C E (Nat.le_of_ble_eq_true rfl) (Nat.le_of_ble_eq_true rfl) d_Model_run_33 hf
  · refine z_iconst C (v := (-1 : Int32)) d_Model_run_13 (by decide) ?_
    refine z_iload_n C 0 d_Model_run_14 rfl rfl ?_
    refine z_isub C d_Model_run_15 ?_
    exact z_iret C E (Nat.le_of_ble_eq_true rfl) (Nat.le_of_ble_eq_true rfl) d_Model_run_16 hf

theorem c_Model_run (N : Nat) {l : Launch} {D : va_G} {T : List (ClassId × FieldType)} (hT : T.map (fun q => q.2) = ztl) {x0 : Nat} {h : zH} {p : Int32 × zH} (hf : f_Model_run N x0 h = some p) : zM l y_Model_run prog_10_method_26_code 2 (some .int) rm_Model_run D T [.ref x0] h (some (.int p.1)) p.2 :=
  z_enter (by decide) hT (Nat.le_of_ble_eq_true rfl) (fun X el eD eT hin C E => k_Model_run N C E x0 h hf)
/-! ===== LevelTablesModel.listAll()V ===== -/
abbrev y_Model_listAll : MethodName := ⟨R_Model, "listAll", "()V"⟩
theorem pd_Model_listAll : y_Model_listAll.cls ≠ "java/lang/invoke/MethodHandle" ∧ y_Model_listAll.cls ≠ "java/lang/invoke/VarHandle" ∧ (parseMethodDescriptor y_Model_listAll.desc).map (fun d => d.parameters.length) = some 0 := ⟨by decide +kernel, by decide +kernel, by decide +kernel⟩
abbrev rm_Model_listAll : Room := { frames := 4, cells := 0, slots := 0, locals := 97 }
def f_Model_listAll_230 (N : Nat) (rc153 : Nat → Int32 → zH → Option (Unit × zH)) (x0 : Nat) (x1 : Int32) (h : zH) : Option (Unit × zH) :=
  rc153 x0 (x1 + (1 : Int32)) h
def b_Model_listAll_171 (N : Nat) (rc153 : Nat → Int32 → zH → Option (Unit × zH)) (rc171 : Nat → Int32 → Int32 → Int32 → zH → Option (Unit × zH)) (x0 : Nat) (x1 : Int32) (x2 : Int32) (x3 : Int32) (h : zH) : Option (Unit × zH) :=
  Option.bind (zgR h x0 0 18) fun (v1 : Nat) =>
  Option.bind (zaI h 0 v1 x2) fun (v2 : Int32) =>
  (if v2 ≤ x3 then
    f_Model_listAll_230 N rc153 x0 x1 h
  else
    Option.bind (zck (zis h x0 0) (f_Model_may N x0 (0 : Int32) x1 h)) fun (p3 : Int32 × zH) =>
    (if p3.1 = 0 then
      f_Model_listAll_230 N rc153 x0 x1 p3.2
    else
      Option.bind (zgR p3.2 x0 0 21) fun (v4 : Nat) =>
      Option.bind (zgI p3.2 x0 0 20) fun (v5 : Int32) =>
      Option.bind (zgR p3.2 x0 0 17) fun (v6 : Nat) =>
      Option.bind (zaJ p3.2 1 v6 (((6 : Int32) * x2) + x3)) fun (v7 : Int64) =>
      Option.bind (zck (zis p3.2 x0 0) (f_Model_placeCost N x0 (0 : Int32) x1 p3.2)) fun (p8 : Int64 × zH) =>
      Option.bind (f_Model_insert N v4 (0 : Int32) v5 (v7 + p8.1) p8.2) fun (p9 : Int32 × zH) =>
      Option.bind (zp p9.2 x0 0 20 (.int p9.1)) fun (h10 : zH) =>
      rc171 x0 x1 x2 (x3 + (1 : Int32)) h10))
def f_Model_listAll_171 (N : Nat) (rc153 : Nat → Int32 → zH → Option (Unit × zH)) : Nat → Nat → Int32 → Int32 → Int32 → zH → Option (Unit × zH)
  | 0 => fun _ _ _ _ _ => none
  | n + 1 => fun x0 x1 x2 x3 h => b_Model_listAll_171 N rc153 (f_Model_listAll_171 N rc153 n) x0 x1 x2 x3 h
def b_Model_listAll_153 (N : Nat) (rc153 : Nat → Int32 → zH → Option (Unit × zH)) (x0 : Nat) (x1 : Int32) (h : zH) : Option (Unit × zH) :=
  Option.bind (zgI h x0 0 1) fun (v11 : Int32) =>
  (if v11 < x1 then
    Option.bind (zpZ h x0 0 19 (1 : Int32)) fun (h12 : zH) =>
    some ((), h12)
  else
    Option.bind (f_Model_at N (0 : Int32) x1 (49 : Int32) h) fun (p13 : Int32 × zH) =>
    f_Model_listAll_171 N rc153 N x0 x1 p13.1 (0 : Int32) p13.2)
def f_Model_listAll_153 (N : Nat) : Nat → Nat → Int32 → zH → Option (Unit × zH)
  | 0 => fun _ _ _ => none
  | n + 1 => fun x0 x1 h => b_Model_listAll_153 N (f_Model_listAll_153 N n) x0 x1 h
def f_Model_listAll_118 (N : Nat) (rc70 : Nat → Int32 → zH → Option (Unit × zH)) (rc76 : Nat → Int32 → Int32 → zH → Option (Unit × zH)) (rc101 : Nat → Int32 → Int32 → Int32 → zH → Option (Unit × zH)) (x0 : Nat) (x1 : Int32) (x2 : Int32) (x3 : Int32) (s0 : Int32) (s1 : Int32) (h : zH) : Option (Unit × zH) :=
  (if s1 < s0 then
    rc76 x0 x1 (x2 + (1 : Int32)) h
  else
    Option.bind (zck (zis h x0 0) (f_Model_list N x0 x1 x2 x3 h)) fun (p14 : Unit × zH) =>
    rc101 x0 x1 x2 (x3 + (1 : Int32)) p14.2)
def b_Model_listAll_101 (N : Nat) (rc70 : Nat → Int32 → zH → Option (Unit × zH)) (rc76 : Nat → Int32 → Int32 → zH → Option (Unit × zH)) (rc101 : Nat → Int32 → Int32 → Int32 → zH → Option (Unit × zH)) (x0 : Nat) (x1 : Int32) (x2 : Int32) (x3 : Int32) (h : zH) : Option (Unit × zH) :=
  (if x1 = 0 then
    f_Model_listAll_118 N rc70 rc76 rc101 x0 x1 x2 x3 x3 (49 : Int32) h
  else
    Option.bind (zgI h x0 0 7) fun (v15 : Int32) =>
    f_Model_listAll_118 N rc70 rc76 rc101 x0 x1 x2 x3 x3 ((24 : Int32) + v15) h)
def f_Model_listAll_101 (N : Nat) (rc70 : Nat → Int32 → zH → Option (Unit × zH)) (rc76 : Nat → Int32 → Int32 → zH → Option (Unit × zH)) : Nat → Nat → Int32 → Int32 → Int32 → zH → Option (Unit × zH)
  | 0 => fun _ _ _ _ _ => none
  | n + 1 => fun x0 x1 x2 x3 h => b_Model_listAll_101 N rc70 rc76 (f_Model_listAll_101 N rc70 rc76 n) x0 x1 x2 x3 h
def f_Model_listAll_100 (N : Nat) (rc70 : Nat → Int32 → zH → Option (Unit × zH)) (rc76 : Nat → Int32 → Int32 → zH → Option (Unit × zH)) (x0 : Nat) (x1 : Int32) (x2 : Int32) (s0 : Int32) (h : zH) : Option (Unit × zH) :=
  f_Model_listAll_101 N rc70 rc76 N x0 x1 x2 s0 h
def b_Model_listAll_76 (N : Nat) (rc70 : Nat → Int32 → zH → Option (Unit × zH)) (rc76 : Nat → Int32 → Int32 → zH → Option (Unit × zH)) (x0 : Nat) (x1 : Int32) (x2 : Int32) (h : zH) : Option (Unit × zH) :=
  Option.bind (zgI h x0 0 1) fun (v16 : Int32) =>
  (if v16 < x2 then
    rc70 x0 (x1 + (-1 : Int32)) h
  else
    (if x1 = 0 then
      f_Model_listAll_100 N rc70 rc76 x0 x1 x2 (49 : Int32) h
    else
      Option.bind (zgI h x0 0 7) fun (v17 : Int32) =>
      f_Model_listAll_100 N rc70 rc76 x0 x1 x2 ((24 : Int32) - v17) h))
def f_Model_listAll_76 (N : Nat) (rc70 : Nat → Int32 → zH → Option (Unit × zH)) : Nat → Nat → Int32 → Int32 → zH → Option (Unit × zH)
  | 0 => fun _ _ _ _ => none
  | n + 1 => fun x0 x1 x2 h => b_Model_listAll_76 N rc70 (f_Model_listAll_76 N rc70 n) x0 x1 x2 h
def b_Model_listAll_70 (N : Nat) (rc70 : Nat → Int32 → zH → Option (Unit × zH)) (x0 : Nat) (x1 : Int32) (h : zH) : Option (Unit × zH) :=
  (if x1 < 0 then
    Option.bind (zp h x0 0 20 (.int (0 : Int32))) fun (h18 : zH) =>
    f_Model_listAll_153 N N x0 (0 : Int32) h18
  else
    f_Model_listAll_76 N rc70 N x0 x1 (0 : Int32) h)
def f_Model_listAll_70 (N : Nat) : Nat → Nat → Int32 → zH → Option (Unit × zH)
  | 0 => fun _ _ _ => none
  | n + 1 => fun x0 x1 h => b_Model_listAll_70 N (f_Model_listAll_70 N n) x0 x1 h
def b_Model_listAll_12 (N : Nat) (rc2 : Nat → Int32 → zH → Option (Unit × zH)) (rc12 : Nat → Int32 → Int32 → zH → Option (Unit × zH)) (x0 : Nat) (x1 : Int32) (x2 : Int32) (h : zH) : Option (Unit × zH) :=
  (if (50 : Int32) ≤ x2 then
    rc2 x0 (x1 + (1 : Int32)) h
  else
    Option.bind (zgR h x0 0 18) fun (v19 : Nat) =>
    Option.bind (zgI h x0 0 0) fun (v20 : Int32) =>
    Option.bind (f_Model_at N v20 x1 x2 h) fun (p21 : Int32 × zH) =>
    Option.bind (zsI p21.2 0 v19 p21.1 (1 : Int32)) fun (h22 : zH) =>
    Option.bind (zgR h22 x0 0 17) fun (v23 : Nat) =>
    Option.bind (zgI h22 x0 0 0) fun (v24 : Int32) =>
    Option.bind (f_Model_at N v24 x1 x2 h22) fun (p25 : Int32 × zH) =>
    Option.bind (zsJ p25.2 1 v23 ((6 : Int32) * p25.1) (0 : Int64)) fun (h26 : zH) =>
    rc12 x0 x1 (x2 + (1 : Int32)) h26)
def f_Model_listAll_12 (N : Nat) (rc2 : Nat → Int32 → zH → Option (Unit × zH)) : Nat → Nat → Int32 → Int32 → zH → Option (Unit × zH)
  | 0 => fun _ _ _ _ => none
  | n + 1 => fun x0 x1 x2 h => b_Model_listAll_12 N rc2 (f_Model_listAll_12 N rc2 n) x0 x1 x2 h
def b_Model_listAll_2 (N : Nat) (rc2 : Nat → Int32 → zH → Option (Unit × zH)) (x0 : Nat) (x1 : Int32) (h : zH) : Option (Unit × zH) :=
  Option.bind (zgI h x0 0 1) fun (v27 : Int32) =>
  (if v27 < x1 then
    Option.bind (zgI h x0 0 0) fun (v28 : Int32) =>
    f_Model_listAll_70 N N x0 (v28 - (1 : Int32)) h
  else
    f_Model_listAll_12 N rc2 N x0 x1 (0 : Int32) h)
def f_Model_listAll_2 (N : Nat) : Nat → Nat → Int32 → zH → Option (Unit × zH)
  | 0 => fun _ _ _ => none
  | n + 1 => fun x0 x1 h => b_Model_listAll_2 N (f_Model_listAll_2 N n) x0 x1 h
def f_Model_listAll (N : Nat) (x0 : Nat) (h : zH) : Option (Unit × zH) :=
  f_Model_listAll_2 N N x0 (0 : Int32) h
theorem d_Model_listAll_0 : decode prog_10_method_34_code 0 = .ok (.iconst (0), 1) := by decide +kernel
theorem d_Model_listAll_1 : decode prog_10_method_34_code 1 = .ok (.istore_n (1), 1) := by decide +kernel
theorem d_Model_listAll_2 : decode prog_10_method_34_code 2 = .ok (.iload_n (1), 1) := by decide +kernel
theorem d_Model_listAll_3 : decode prog_10_method_34_code 3 = .ok (.aload_n (0), 1) := by decide +kernel
theorem d_Model_listAll_4 : decode prog_10_method_34_code 4 = .ok (.getfield (92), 3) := by decide +kernel
theorem d_Model_listAll_7 : decode prog_10_method_34_code 7 = .ok (.if_icmp .gt (56), 3) := by decide +kernel
theorem d_Model_listAll_10 : decode prog_10_method_34_code 10 = .ok (.iconst (0), 1) := by decide +kernel
theorem d_Model_listAll_11 : decode prog_10_method_34_code 11 = .ok (.istore_n (2), 1) := by decide +kernel
theorem d_Model_listAll_12 : decode prog_10_method_34_code 12 = .ok (.iload_n (2), 1) := by decide +kernel
theorem d_Model_listAll_13 : decode prog_10_method_34_code 13 = .ok (.bipush (50), 2) := by decide +kernel
theorem d_Model_listAll_15 : decode prog_10_method_34_code 15 = .ok (.if_icmp .ge (42), 3) := by decide +kernel
theorem d_Model_listAll_18 : decode prog_10_method_34_code 18 = .ok (.aload_n (0), 1) := by decide +kernel
theorem d_Model_listAll_19 : decode prog_10_method_34_code 19 = .ok (.getfield (55), 3) := by decide +kernel
theorem d_Model_listAll_22 : decode prog_10_method_34_code 22 = .ok (.aload_n (0), 1) := by decide +kernel
theorem d_Model_listAll_23 : decode prog_10_method_34_code 23 = .ok (.getfield (89), 3) := by decide +kernel
theorem d_Model_listAll_26 : decode prog_10_method_34_code 26 = .ok (.iload_n (1), 1) := by decide +kernel
theorem d_Model_listAll_27 : decode prog_10_method_34_code 27 = .ok (.iload_n (2), 1) := by decide +kernel
theorem d_Model_listAll_28 : decode prog_10_method_34_code 28 = .ok (.invokestatic (145), 3) := by decide +kernel
theorem d_Model_listAll_31 : decode prog_10_method_34_code 31 = .ok (.iconst (1), 1) := by decide +kernel
theorem d_Model_listAll_32 : decode prog_10_method_34_code 32 = .ok (.iastore, 1) := by decide +kernel
theorem d_Model_listAll_33 : decode prog_10_method_34_code 33 = .ok (.aload_n (0), 1) := by decide +kernel
theorem d_Model_listAll_34 : decode prog_10_method_34_code 34 = .ok (.getfield (52), 3) := by decide +kernel
theorem d_Model_listAll_37 : decode prog_10_method_34_code 37 = .ok (.bipush (6), 2) := by decide +kernel
theorem d_Model_listAll_39 : decode prog_10_method_34_code 39 = .ok (.aload_n (0), 1) := by decide +kernel
theorem d_Model_listAll_40 : decode prog_10_method_34_code 40 = .ok (.getfield (89), 3) := by decide +kernel
theorem d_Model_listAll_43 : decode prog_10_method_34_code 43 = .ok (.iload_n (1), 1) := by decide +kernel
theorem d_Model_listAll_44 : decode prog_10_method_34_code 44 = .ok (.iload_n (2), 1) := by decide +kernel
theorem d_Model_listAll_45 : decode prog_10_method_34_code 45 = .ok (.invokestatic (145), 3) := by decide +kernel
theorem d_Model_listAll_48 : decode prog_10_method_34_code 48 = .ok (.imul, 1) := by decide +kernel
theorem d_Model_listAll_49 : decode prog_10_method_34_code 49 = .ok (.lconst (0), 1) := by decide +kernel
theorem d_Model_listAll_50 : decode prog_10_method_34_code 50 = .ok (.lastore, 1) := by decide +kernel
theorem d_Model_listAll_51 : decode prog_10_method_34_code 51 = .ok (.iinc (2) (1), 3) := by decide +kernel
theorem d_Model_listAll_54 : decode prog_10_method_34_code 54 = .ok (.goto (-42), 3) := by decide +kernel
theorem d_Model_listAll_57 : decode prog_10_method_34_code 57 = .ok (.iinc (1) (1), 3) := by decide +kernel
theorem d_Model_listAll_60 : decode prog_10_method_34_code 60 = .ok (.goto (-58), 3) := by decide +kernel
theorem d_Model_listAll_63 : decode prog_10_method_34_code 63 = .ok (.aload_n (0), 1) := by decide +kernel
theorem d_Model_listAll_64 : decode prog_10_method_34_code 64 = .ok (.getfield (89), 3) := by decide +kernel
theorem d_Model_listAll_67 : decode prog_10_method_34_code 67 = .ok (.iconst (1), 1) := by decide +kernel
theorem d_Model_listAll_68 : decode prog_10_method_34_code 68 = .ok (.isub, 1) := by decide +kernel
theorem d_Model_listAll_69 : decode prog_10_method_34_code 69 = .ok (.istore_n (1), 1) := by decide +kernel
theorem d_Model_listAll_70 : decode prog_10_method_34_code 70 = .ok (.iload_n (1), 1) := by decide +kernel
theorem d_Model_listAll_71 : decode prog_10_method_34_code 71 = .ok (.ifCond .lt (75), 3) := by decide +kernel
theorem d_Model_listAll_74 : decode prog_10_method_34_code 74 = .ok (.iconst (0), 1) := by decide +kernel
theorem d_Model_listAll_75 : decode prog_10_method_34_code 75 = .ok (.istore_n (2), 1) := by decide +kernel
theorem d_Model_listAll_76 : decode prog_10_method_34_code 76 = .ok (.iload_n (2), 1) := by decide +kernel
theorem d_Model_listAll_77 : decode prog_10_method_34_code 77 = .ok (.aload_n (0), 1) := by decide +kernel
theorem d_Model_listAll_78 : decode prog_10_method_34_code 78 = .ok (.getfield (92), 3) := by decide +kernel
theorem d_Model_listAll_81 : decode prog_10_method_34_code 81 = .ok (.if_icmp .gt (59), 3) := by decide +kernel
theorem d_Model_listAll_84 : decode prog_10_method_34_code 84 = .ok (.iload_n (1), 1) := by decide +kernel
theorem d_Model_listAll_85 : decode prog_10_method_34_code 85 = .ok (.ifCond .ne (8), 3) := by decide +kernel
theorem d_Model_listAll_88 : decode prog_10_method_34_code 88 = .ok (.bipush (49), 2) := by decide +kernel
theorem d_Model_listAll_90 : decode prog_10_method_34_code 90 = .ok (.goto (10), 3) := by decide +kernel
theorem d_Model_listAll_93 : decode prog_10_method_34_code 93 = .ok (.bipush (24), 2) := by decide +kernel
theorem d_Model_listAll_95 : decode prog_10_method_34_code 95 = .ok (.aload_n (0), 1) := by decide +kernel
theorem d_Model_listAll_96 : decode prog_10_method_34_code 96 = .ok (.getfield (25), 3) := by decide +kernel
theorem d_Model_listAll_99 : decode prog_10_method_34_code 99 = .ok (.isub, 1) := by decide +kernel
theorem d_Model_listAll_100 : decode prog_10_method_34_code 100 = .ok (.istore_n (3), 1) := by decide +kernel
theorem d_Model_listAll_101 : decode prog_10_method_34_code 101 = .ok (.iload_n (3), 1) := by decide +kernel
theorem d_Model_listAll_102 : decode prog_10_method_34_code 102 = .ok (.iload_n (1), 1) := by decide +kernel
theorem d_Model_listAll_103 : decode prog_10_method_34_code 103 = .ok (.ifCond .ne (8), 3) := by decide +kernel
theorem d_Model_listAll_106 : decode prog_10_method_34_code 106 = .ok (.bipush (49), 2) := by decide +kernel
theorem d_Model_listAll_108 : decode prog_10_method_34_code 108 = .ok (.goto (10), 3) := by decide +kernel
theorem d_Model_listAll_111 : decode prog_10_method_34_code 111 = .ok (.bipush (24), 2) := by decide +kernel
theorem d_Model_listAll_113 : decode prog_10_method_34_code 113 = .ok (.aload_n (0), 1) := by decide +kernel
theorem d_Model_listAll_114 : decode prog_10_method_34_code 114 = .ok (.getfield (25), 3) := by decide +kernel
theorem d_Model_listAll_117 : decode prog_10_method_34_code 117 = .ok (.iadd, 1) := by decide +kernel
theorem d_Model_listAll_118 : decode prog_10_method_34_code 118 = .ok (.if_icmp .gt (16), 3) := by decide +kernel
theorem d_Model_listAll_121 : decode prog_10_method_34_code 121 = .ok (.aload_n (0), 1) := by decide +kernel
theorem d_Model_listAll_122 : decode prog_10_method_34_code 122 = .ok (.iload_n (1), 1) := by decide +kernel
theorem d_Model_listAll_123 : decode prog_10_method_34_code 123 = .ok (.iload_n (2), 1) := by decide +kernel
theorem d_Model_listAll_124 : decode prog_10_method_34_code 124 = .ok (.iload_n (3), 1) := by decide +kernel
theorem d_Model_listAll_125 : decode prog_10_method_34_code 125 = .ok (.invokevirtual (197), 3) := by decide +kernel
theorem d_Model_listAll_128 : decode prog_10_method_34_code 128 = .ok (.iinc (3) (1), 3) := by decide +kernel
theorem d_Model_listAll_131 : decode prog_10_method_34_code 131 = .ok (.goto (-30), 3) := by decide +kernel
theorem d_Model_listAll_134 : decode prog_10_method_34_code 134 = .ok (.iinc (2) (1), 3) := by decide +kernel
theorem d_Model_listAll_137 : decode prog_10_method_34_code 137 = .ok (.goto (-61), 3) := by decide +kernel
theorem d_Model_listAll_140 : decode prog_10_method_34_code 140 = .ok (.iinc (1) (-1), 3) := by decide +kernel
theorem d_Model_listAll_143 : decode prog_10_method_34_code 143 = .ok (.goto (-73), 3) := by decide +kernel
theorem d_Model_listAll_146 : decode prog_10_method_34_code 146 = .ok (.aload_n (0), 1) := by decide +kernel
theorem d_Model_listAll_147 : decode prog_10_method_34_code 147 = .ok (.iconst (0), 1) := by decide +kernel
theorem d_Model_listAll_148 : decode prog_10_method_34_code 148 = .ok (.putfield (200), 3) := by decide +kernel
theorem d_Model_listAll_151 : decode prog_10_method_34_code 151 = .ok (.iconst (0), 1) := by decide +kernel
theorem d_Model_listAll_152 : decode prog_10_method_34_code 152 = .ok (.istore_n (1), 1) := by decide +kernel
theorem d_Model_listAll_153 : decode prog_10_method_34_code 153 = .ok (.iload_n (1), 1) := by decide +kernel
theorem d_Model_listAll_154 : decode prog_10_method_34_code 154 = .ok (.aload_n (0), 1) := by decide +kernel
theorem d_Model_listAll_155 : decode prog_10_method_34_code 155 = .ok (.getfield (92), 3) := by decide +kernel
theorem d_Model_listAll_158 : decode prog_10_method_34_code 158 = .ok (.if_icmp .gt (78), 3) := by decide +kernel
theorem d_Model_listAll_161 : decode prog_10_method_34_code 161 = .ok (.iconst (0), 1) := by decide +kernel
theorem d_Model_listAll_162 : decode prog_10_method_34_code 162 = .ok (.iload_n (1), 1) := by decide +kernel
theorem d_Model_listAll_163 : decode prog_10_method_34_code 163 = .ok (.bipush (49), 2) := by decide +kernel
theorem d_Model_listAll_165 : decode prog_10_method_34_code 165 = .ok (.invokestatic (145), 3) := by decide +kernel
theorem d_Model_listAll_168 : decode prog_10_method_34_code 168 = .ok (.istore_n (2), 1) := by decide +kernel
theorem d_Model_listAll_169 : decode prog_10_method_34_code 169 = .ok (.iconst (0), 1) := by decide +kernel
theorem d_Model_listAll_170 : decode prog_10_method_34_code 170 = .ok (.istore_n (3), 1) := by decide +kernel
theorem d_Model_listAll_171 : decode prog_10_method_34_code 171 = .ok (.iload_n (3), 1) := by decide +kernel
theorem d_Model_listAll_172 : decode prog_10_method_34_code 172 = .ok (.aload_n (0), 1) := by decide +kernel
theorem d_Model_listAll_173 : decode prog_10_method_34_code 173 = .ok (.getfield (55), 3) := by decide +kernel
theorem d_Model_listAll_176 : decode prog_10_method_34_code 176 = .ok (.iload_n (2), 1) := by decide +kernel
theorem d_Model_listAll_177 : decode prog_10_method_34_code 177 = .ok (.iaload, 1) := by decide +kernel
theorem d_Model_listAll_178 : decode prog_10_method_34_code 178 = .ok (.if_icmp .ge (52), 3) := by decide +kernel
theorem d_Model_listAll_181 : decode prog_10_method_34_code 181 = .ok (.aload_n (0), 1) := by decide +kernel
theorem d_Model_listAll_182 : decode prog_10_method_34_code 182 = .ok (.iconst (0), 1) := by decide +kernel
theorem d_Model_listAll_183 : decode prog_10_method_34_code 183 = .ok (.iload_n (1), 1) := by decide +kernel
theorem d_Model_listAll_184 : decode prog_10_method_34_code 184 = .ok (.invokevirtual (133), 3) := by decide +kernel
theorem d_Model_listAll_187 : decode prog_10_method_34_code 187 = .ok (.ifCond .eq (43), 3) := by decide +kernel
theorem d_Model_listAll_190 : decode prog_10_method_34_code 190 = .ok (.aload_n (0), 1) := by decide +kernel
theorem d_Model_listAll_191 : decode prog_10_method_34_code 191 = .ok (.aload_n (0), 1) := by decide +kernel
theorem d_Model_listAll_192 : decode prog_10_method_34_code 192 = .ok (.getfield (58), 3) := by decide +kernel
theorem d_Model_listAll_195 : decode prog_10_method_34_code 195 = .ok (.iconst (0), 1) := by decide +kernel
theorem d_Model_listAll_196 : decode prog_10_method_34_code 196 = .ok (.aload_n (0), 1) := by decide +kernel
theorem d_Model_listAll_197 : decode prog_10_method_34_code 197 = .ok (.getfield (200), 3) := by decide +kernel
theorem d_Model_listAll_200 : decode prog_10_method_34_code 200 = .ok (.aload_n (0), 1) := by decide +kernel
theorem d_Model_listAll_201 : decode prog_10_method_34_code 201 = .ok (.getfield (52), 3) := by decide +kernel
theorem d_Model_listAll_204 : decode prog_10_method_34_code 204 = .ok (.bipush (6), 2) := by decide +kernel
theorem d_Model_listAll_206 : decode prog_10_method_34_code 206 = .ok (.iload_n (2), 1) := by decide +kernel
theorem d_Model_listAll_207 : decode prog_10_method_34_code 207 = .ok (.imul, 1) := by decide +kernel
theorem d_Model_listAll_208 : decode prog_10_method_34_code 208 = .ok (.iload_n (3), 1) := by decide +kernel
theorem d_Model_listAll_209 : decode prog_10_method_34_code 209 = .ok (.iadd, 1) := by decide +kernel
theorem d_Model_listAll_210 : decode prog_10_method_34_code 210 = .ok (.laload, 1) := by decide +kernel
theorem d_Model_listAll_211 : decode prog_10_method_34_code 211 = .ok (.aload_n (0), 1) := by decide +kernel
theorem d_Model_listAll_212 : decode prog_10_method_34_code 212 = .ok (.iconst (0), 1) := by decide +kernel
theorem d_Model_listAll_213 : decode prog_10_method_34_code 213 = .ok (.iload_n (1), 1) := by decide +kernel
theorem d_Model_listAll_214 : decode prog_10_method_34_code 214 = .ok (.invokevirtual (149), 3) := by decide +kernel
theorem d_Model_listAll_217 : decode prog_10_method_34_code 217 = .ok (.ladd, 1) := by decide +kernel
theorem d_Model_listAll_218 : decode prog_10_method_34_code 218 = .ok (.invokestatic (189), 3) := by decide +kernel
theorem d_Model_listAll_221 : decode prog_10_method_34_code 221 = .ok (.putfield (200), 3) := by decide +kernel
theorem d_Model_listAll_224 : decode prog_10_method_34_code 224 = .ok (.iinc (3) (1), 3) := by decide +kernel
theorem d_Model_listAll_227 : decode prog_10_method_34_code 227 = .ok (.goto (-56), 3) := by decide +kernel
theorem d_Model_listAll_230 : decode prog_10_method_34_code 230 = .ok (.iinc (1) (1), 3) := by decide +kernel
theorem d_Model_listAll_233 : decode prog_10_method_34_code 233 = .ok (.goto (-80), 3) := by decide +kernel
theorem d_Model_listAll_236 : decode prog_10_method_34_code 236 = .ok (.aload_n (0), 1) := by decide +kernel
theorem d_Model_listAll_237 : decode prog_10_method_34_code 237 = .ok (.iconst (1), 1) := by decide +kernel
theorem d_Model_listAll_238 : decode prog_10_method_34_code 238 = .ok (.putfield (99), 3) := by decide +kernel
theorem d_Model_listAll_241 : decode prog_10_method_34_code 241 = .ok (.return_, 1) := by decide +kernel
set_option maxHeartbeats 4000000 in
set_option maxRecDepth 100000 in
theorem k_Model_listAll_230 (N : Nat) {X : zX} (C : zB X prog_10_method_34_code 4 R_Model rm_Model_listAll) {h0 : zH} {p : Unit × zH} (E : zR X none rm_Model_listAll h0 none p.2) {rc153 : Nat → Int32 → zH → Option (Unit × zH)} (H153 : ∀ (x0 : Nat) (x1 : Int32) (h : zH), rc153 x0 x1 h = some p → Zt X 4 0 0 153 [(0, .ref x0), (1, .int x1)] [] h) : ∀ (x0 : Nat) (x1 : Int32) (h : zH), f_Model_listAll_230 N rc153 x0 x1 h = some p → Zt X 4 0 0 230 [(0, .ref x0), (1, .int x1)] [] h := by
  intro x0 x1 h hf
  unfold f_Model_listAll_230 at hf
  refine z_iinc C (v := (x1 + (1 : Int32))) (lv' := [(1, .int (x1 + (1 : Int32))), (0, .ref x0)]) 1 d_Model_listAll_230 rfl (by rfl) (by decide) rfl ?_
  refine z_goto (tgt := 153) C d_Model_listAll_233 (by decide) ?_
  refine z_sub [1, 0] rfl ?_
  exact H153 _ _ _ hf

set_option maxHeartbeats 4000000 in
set_option maxRecDepth 100000 in
theorem k_Model_listAll_171 (N : Nat) {X : zX} (C : zB X prog_10_method_34_code 4 R_Model rm_Model_listAll) {h0 : zH} {p : Unit × zH} (E : zR X none rm_Model_listAll h0 none p.2) {rc153 : Nat → Int32 → zH → Option (Unit × zH)} (H153 : ∀ (x0 : Nat) (x1 : Int32) (h : zH), rc153 x0 x1 h = some p → Zt X 4 0 0 153 [(0, .ref x0), (1, .int x1)] [] h) : ∀ n : Nat, ∀ (x0 : Nat) (x1 : Int32) (x2 : Int32) (x3 : Int32) (h : zH), f_Model_listAll_171 N rc153 n x0 x1 x2 x3 h = some p → Zt X 4 0 0 171 [(0, .ref x0), (1, .int x1), (2, .int x2), (3, .int x3)] [] h := by
  intro n
  induction n with
  | zero => intro x0 x1 x2 x3 h hf; cases hf
  | succ n ih =>
  intro x0 x1 x2 x3 h hf
  have H171 := ih
  replace hf : b_Model_listAll_171 N rc153 (f_Model_listAll_171 N rc153 n) x0 x1 x2 x3 h = some p := hf
  unfold b_Model_listAll_171 at hf
  refine z_iload_n C 3 d_Model_listAll_171 rfl rfl ?_
  refine z_aload_n C 0 d_Model_listAll_172 rfl rfl ?_
  refine z_getR C 0 18 rfl in_Model (by decide) w_759 rfl d_Model_listAll_173 hf (fun v1 hf => ?_)
  refine z_iload_n C 2 d_Model_listAll_176 rfl rfl ?_
  refine z_iald C d_Model_listAll_177 hf (fun v2 hf => ?_)
  refine z_ic_ge (tgt := 230) C d_Model_listAll_178 (by decide) hf (fun hf => ?_) (fun hf => ?_)
  · refine z_sub [0, 1] rfl ?_
    exact k_Model_listAll_230 N C E H153 _ _ _ hf
  · refine z_aload_n C 0 d_Model_listAll_181 rfl rfl ?_
    refine z_iconst C (v := (0 : Int32)) d_Model_listAll_182 (by decide) ?_
    refine z_iload_n C 1 d_Model_listAll_183 rfl rfl ?_
    obtain ⟨p3, hc, hf⟩ := Option.bind_eq_some_iff.mp hf
    obtain ⟨hz, hc⟩ := zck_some hc
    refine z_callV C (ci := 0) (c_Model_may N C.2.2.1 hc) rfl hz w_905 w_66 w_902 w_904 w_37 pd_Model_may rfl ⟨(Nat.le_of_ble_eq_true rfl), (Nat.le_of_ble_eq_true rfl)⟩ ⟨(Nat.le_of_ble_eq_true rfl), (Nat.le_of_ble_eq_true rfl)⟩ rfl (Nat.le_of_ble_eq_true rfl) d_Model_listAll_184 (k' := 0) (n' := 0) (stk' := [.int p3.1]) rfl rfl rfl ?_
    refine z_if_eq (tgt := 230) C d_Model_listAll_187 (by decide) hf (fun hf => ?_) (fun hf => ?_)
    · refine z_sub [0, 1] rfl ?_
      exact k_Model_listAll_230 N C E H153 _ _ _ hf
    · refine z_aload_n C 0 d_Model_listAll_190 rfl rfl ?_
      refine z_aload_n C 0 d_Model_listAll_191 rfl rfl ?_
      refine z_getR C 0 21 rfl in_Model (by decide) w_762 rfl d_Model_listAll_192 hf (fun v4 hf => ?_)
      refine z_iconst C (v := (0 : Int32)) d_Model_listAll_195 (by decide) ?_
      refine z_aload_n C 0 d_Model_listAll_196 rfl rfl ?_
      refine z_getI C 0 20 rfl in_Model (by decide) w_761 rfl d_Model_listAll_197 hf (fun v5 hf => ?_)
      refine z_aload_n C 0 d_Model_listAll_200 rfl rfl ?_
      refine z_getR C 0 17 rfl in_Model (by decide) w_758 rfl d_Model_listAll_201 hf (fun v6 hf => ?_)
      refine z_bipush C (v := (6 : Int32)) d_Model_listAll_204 (by decide) ?_
      refine z_iload_n C 2 d_Model_listAll_206 rfl rfl ?_
      refine z_imul C d_Model_listAll_207 ?_
      refine z_iload_n C 3 d_Model_listAll_208 rfl rfl ?_
      refine z_iadd C d_Model_listAll_209 ?_
      refine z_lald C d_Model_listAll_210 hf (fun v7 hf => ?_)
      refine z_aload_n C 0 d_Model_listAll_211 rfl rfl ?_
      refine z_iconst C (v := (0 : Int32)) d_Model_listAll_212 (by decide) ?_
      refine z_iload_n C 1 d_Model_listAll_213 rfl rfl ?_
      obtain ⟨p8, hc, hf⟩ := Option.bind_eq_some_iff.mp hf
      obtain ⟨hz, hc⟩ := zck_some hc
      refine z_callV C (ci := 0) (c_Model_placeCost N C.2.2.1 hc) rfl hz w_932 w_66 w_929 w_931 w_42 pd_Model_placeCost rfl ⟨(Nat.le_of_ble_eq_true rfl), (Nat.le_of_ble_eq_true rfl)⟩ ⟨(Nat.le_of_ble_eq_true rfl), (Nat.le_of_ble_eq_true rfl)⟩ rfl (Nat.le_of_ble_eq_true rfl) d_Model_listAll_214 (k' := 0) (n' := 0) (stk' := [.long p8.1, .long v7, .int v5, .int (0 : Int32), .ref v4, .ref x0]) rfl rfl rfl ?_
      refine z_ladd C d_Model_listAll_217 ?_
      obtain ⟨p9, hc, hf⟩ := Option.bind_eq_some_iff.mp hf
      refine z_callS C (c_Model_insert N C.2.2.1 hc) w_983 w_66 w_981 w_982 pd_Model_insert rfl ⟨(Nat.le_of_ble_eq_true rfl), (Nat.le_of_ble_eq_true rfl)⟩ ⟨(Nat.le_of_ble_eq_true rfl), (Nat.le_of_ble_eq_true rfl)⟩ rfl (Nat.le_of_ble_eq_true rfl) d_Model_listAll_218 (k' := 0) (n' := 0) (stk' := [.int p9.1, .ref x0]) rfl rfl rfl ?_
      refine z_put C 0 20 ty_Model rfl in_Model tyok_Model nm_Model (by decide) w_761 rfl (Or.inl rfl) rfl rfl rfl d_Model_listAll_221 hf (fun h10 hf => ?_)
      refine z_iinc C (v := (x3 + (1 : Int32))) (lv' := [(3, .int (x3 + (1 : Int32))), (0, .ref x0), (1, .int x1), (2, .int x2)]) 3 d_Model_listAll_224 rfl (by rfl) (by decide) rfl ?_
      refine z_goto (tgt := 171) C d_Model_listAll_227 (by decide) ?_
      refine z_sub [1, 2, 3, 0] rfl ?_
      exact H171 _ _ _ _ _ hf

set_option maxHeartbeats 4000000 in
set_option maxRecDepth 100000 in
theorem k_Model_listAll_153 (N : Nat) {X : zX} (C : zB X prog_10_method_34_code 4 R_Model rm_Model_listAll) {h0 : zH} {p : Unit × zH} (E : zR X none rm_Model_listAll h0 none p.2) : ∀ n : Nat, ∀ (x0 : Nat) (x1 : Int32) (h : zH), f_Model_listAll_153 N n x0 x1 h = some p → Zt X 4 0 0 153 [(0, .ref x0), (1, .int x1)] [] h := by
  intro n
  induction n with
  | zero => intro x0 x1 h hf; cases hf
  | succ n ih =>
  intro x0 x1 h hf
  have H153 := ih
  replace hf : b_Model_listAll_153 N (f_Model_listAll_153 N n) x0 x1 h = some p := hf
  unfold b_Model_listAll_153 at hf
  refine z_iload_n C 1 d_Model_listAll_153 rfl rfl ?_
  refine z_aload_n C 0 d_Model_listAll_154 rfl rfl ?_
  refine z_getI C 0 1 rfl in_Model (by decide) w_742 rfl d_Model_listAll_155 hf (fun v11 hf => ?_)
  refine z_ic_gt (tgt := 236) C d_Model_listAll_158 (by decide) hf (fun hf => ?_) (fun hf => ?_)
  · refine z_aload_n C 0 d_Model_listAll_236 rfl rfl ?_
    refine z_iconst C (v := (1 : Int32)) d_Model_listAll_237 (by decide) ?_
    refine z_putZ C 0 19 ty_Model rfl in_Model tyok_Model nm_Model (by decide) w_760 rfl (Or.inl rfl) rfl d_Model_listAll_238 hf (fun h12 hf => ?_)
    exact z_vret C E (Nat.le_of_ble_eq_true rfl) (Nat.le_of_ble_eq_true rfl) d_Model_listAll_241 hf
  · refine z_iconst C (v := (0 : Int32)) d_Model_listAll_161 (by decide) ?_
    refine z_iload_n C 1 d_Model_listAll_162 rfl rfl ?_
    refine z_bipush C (v := (49 : Int32)) d_Model_listAll_163 (by decide) ?_
    obtain ⟨p13, hc, hf⟩ := Option.bind_eq_some_iff.mp hf
    refine z_callS C (c_Model_at N C.2.2.1 hc) w_919 w_66 w_917 w_918 pd_Model_at rfl ⟨(Nat.le_of_ble_eq_true rfl), (Nat.le_of_ble_eq_true rfl)⟩ ⟨(Nat.le_of_ble_eq_true rfl), (Nat.le_of_ble_eq_true rfl)⟩ rfl (Nat.le_of_ble_eq_true rfl) d_Model_listAll_165 (k' := 0) (n' := 0) (stk' := [.int p13.1]) rfl rfl rfl ?_
    refine z_istore_n C (lv' := [(2, .int p13.1), (0, .ref x0), (1, .int x1)]) d_Model_listAll_168 rfl (by decide) rfl ?_
    refine z_iconst C (v := (0 : Int32)) d_Model_listAll_169 (by decide) ?_
    refine z_istore_n C (lv' := [(3, .int (0 : Int32)), (2, .int p13.1), (0, .ref x0), (1, .int x1)]) d_Model_listAll_170 rfl (by decide) rfl ?_
    refine z_sub [2, 3, 1, 0] rfl ?_
    exact k_Model_listAll_171 N C E H153 N _ _ _ _ _ hf

set_option maxHeartbeats 4000000 in
set_option maxRecDepth 100000 in
theorem k_Model_listAll_118 (N : Nat) {X : zX} (C : zB X prog_10_method_34_code 4 R_Model rm_Model_listAll) {h0 : zH} {p : Unit × zH} (E : zR X none rm_Model_listAll h0 none p.2) {rc70 : Nat → Int32 → zH → Option (Unit × zH)} (H70 : ∀ (x0 : Nat) (x1 : Int32) (h : zH), rc70 x0 x1 h = some p → Zt X 4 0 0 70 [(0, .ref x0), (1, .int x1)] [] h) {rc76 : Nat → Int32 → Int32 → zH → Option (Unit × zH)} (H76 : ∀ (x0 : Nat) (x1 : Int32) (x2 : Int32) (h : zH), rc76 x0 x1 x2 h = some p → Zt X 4 0 0 76 [(0, .ref x0), (1, .int x1), (2, .int x2)] [] h) {rc101 : Nat → Int32 → Int32 → Int32 → zH → Option (Unit × zH)} (H101 : ∀ (x0 : Nat) (x1 : Int32) (x2 : Int32) (x3 : Int32) (h : zH), rc101 x0 x1 x2 x3 h = some p → Zt X 4 0 0 101 [(0, .ref x0), (1, .int x1), (2, .int x2), (3, .int x3)] [] h) : ∀ (x0 : Nat) (x1 : Int32) (x2 : Int32) (x3 : Int32) (s0 : Int32) (s1 : Int32) (h : zH), f_Model_listAll_118 N rc70 rc76 rc101 x0 x1 x2 x3 s0 s1 h = some p → Zt X 4 0 0 118 [(0, .ref x0), (1, .int x1), (2, .int x2), (3, .int x3)] [.int s1, .int s0] h := by
  intro x0 x1 x2 x3 s0 s1 h hf
  unfold f_Model_listAll_118 at hf
  refine z_ic_gt (tgt := 134) C d_Model_listAll_118 (by decide) hf (fun hf => ?_) (fun hf => ?_)
  · refine z_iinc C (v := (x2 + (1 : Int32))) (lv' := [(2, .int (x2 + (1 : Int32))), (0, .ref x0), (1, .int x1), (3, .int x3)]) 2 d_Model_listAll_134 rfl (by rfl) (by decide) rfl ?_
    refine z_goto (tgt := 76) C d_Model_listAll_137 (by decide) ?_
    refine z_sub [1, 2, 0] rfl ?_
    exact H76 _ _ _ _ hf
  · refine z_aload_n C 0 d_Model_listAll_121 rfl rfl ?_
    refine z_iload_n C 1 d_Model_listAll_122 rfl rfl ?_
    refine z_iload_n C 2 d_Model_listAll_123 rfl rfl ?_
    refine z_iload_n C 3 d_Model_listAll_124 rfl rfl ?_
    obtain ⟨p14, hc, hf⟩ := Option.bind_eq_some_iff.mp hf
    obtain ⟨hz, hc⟩ := zck_some hc
    refine z_callV C (ci := 0) (c_Model_list N C.2.2.1 hc) rfl hz w_976 w_66 w_973 w_975 w_49 pd_Model_list rfl ⟨(Nat.le_of_ble_eq_true rfl), (Nat.le_of_ble_eq_true rfl)⟩ ⟨(Nat.le_of_ble_eq_true rfl), (Nat.le_of_ble_eq_true rfl)⟩ rfl (Nat.le_of_ble_eq_true rfl) d_Model_listAll_125 (k' := 0) (n' := 0) (stk' := []) rfl rfl rfl ?_
    refine z_iinc C (v := (x3 + (1 : Int32))) (lv' := [(3, .int (x3 + (1 : Int32))), (0, .ref x0), (1, .int x1), (2, .int x2)]) 3 d_Model_listAll_128 rfl (by rfl) (by decide) rfl ?_
    refine z_goto (tgt := 101) C d_Model_listAll_131 (by decide) ?_
    refine z_sub [1, 2, 3, 0] rfl ?_
    exact H101 _ _ _ _ _ hf

set_option maxHeartbeats 4000000 in
set_option maxRecDepth 100000 in
theorem k_Model_listAll_101 (N : Nat) {X : zX} (C : zB X prog_10_method_34_code 4 R_Model rm_Model_listAll) {h0 : zH} {p : Unit × zH} (E : zR X none rm_Model_listAll h0 none p.2) {rc70 : Nat → Int32 → zH → Option (Unit × zH)} (H70 : ∀ (x0 : Nat) (x1 : Int32) (h : zH), rc70 x0 x1 h = some p → Zt X 4 0 0 70 [(0, .ref x0), (1, .int x1)] [] h) {rc76 : Nat → Int32 → Int32 → zH → Option (Unit × zH)} (H76 : ∀ (x0 : Nat) (x1 : Int32) (x2 : Int32) (h : zH), rc76 x0 x1 x2 h = some p → Zt X 4 0 0 76 [(0, .ref x0), (1, .int x1), (2, .int x2)] [] h) : ∀ n : Nat, ∀ (x0 : Nat) (x1 : Int32) (x2 : Int32) (x3 : Int32) (h : zH), f_Model_listAll_101 N rc70 rc76 n x0 x1 x2 x3 h = some p → Zt X 4 0 0 101 [(0, .ref x0), (1, .int x1), (2, .int x2), (3, .int x3)] [] h := by
  intro n
  induction n with
  | zero => intro x0 x1 x2 x3 h hf; cases hf
  | succ n ih =>
  intro x0 x1 x2 x3 h hf
  have H101 := ih
  replace hf : b_Model_listAll_101 N rc70 rc76 (f_Model_listAll_101 N rc70 rc76 n) x0 x1 x2 x3 h = some p := hf
  unfold b_Model_listAll_101 at hf
  refine z_iload_n C 3 d_Model_listAll_101 rfl rfl ?_
  refine z_iload_n C 1 d_Model_listAll_102 rfl rfl ?_
  refine z_if_ne (tgt := 111) C d_Model_listAll_103 (by decide) hf (fun hf => ?_) (fun hf => ?_)
  · refine z_bipush C (v := (24 : Int32)) d_Model_listAll_111 (by decide) ?_
    refine z_aload_n C 0 d_Model_listAll_113 rfl rfl ?_
    refine z_getI C 0 7 rfl in_Model (by decide) w_748 rfl d_Model_listAll_114 hf (fun v15 hf => ?_)
    refine z_iadd C d_Model_listAll_117 ?_
    refine z_sub [0, 1, 2, 3] rfl ?_
    exact k_Model_listAll_118 N C E H70 H76 H101 _ _ _ _ _ _ _ hf
  · refine z_bipush C (v := (49 : Int32)) d_Model_listAll_106 (by decide) ?_
    refine z_goto (tgt := 118) C d_Model_listAll_108 (by decide) ?_
    refine z_sub [0, 1, 2, 3] rfl ?_
    exact k_Model_listAll_118 N C E H70 H76 H101 _ _ _ _ _ _ _ hf

set_option maxHeartbeats 4000000 in
set_option maxRecDepth 100000 in
theorem k_Model_listAll_100 (N : Nat) {X : zX} (C : zB X prog_10_method_34_code 4 R_Model rm_Model_listAll) {h0 : zH} {p : Unit × zH} (E : zR X none rm_Model_listAll h0 none p.2) {rc70 : Nat → Int32 → zH → Option (Unit × zH)} (H70 : ∀ (x0 : Nat) (x1 : Int32) (h : zH), rc70 x0 x1 h = some p → Zt X 4 0 0 70 [(0, .ref x0), (1, .int x1)] [] h) {rc76 : Nat → Int32 → Int32 → zH → Option (Unit × zH)} (H76 : ∀ (x0 : Nat) (x1 : Int32) (x2 : Int32) (h : zH), rc76 x0 x1 x2 h = some p → Zt X 4 0 0 76 [(0, .ref x0), (1, .int x1), (2, .int x2)] [] h) : ∀ (x0 : Nat) (x1 : Int32) (x2 : Int32) (s0 : Int32) (h : zH), f_Model_listAll_100 N rc70 rc76 x0 x1 x2 s0 h = some p → Zt X 4 0 0 100 [(0, .ref x0), (1, .int x1), (2, .int x2)] [.int s0] h := by
  intro x0 x1 x2 s0 h hf
  unfold f_Model_listAll_100 at hf
  refine z_istore_n C (lv' := [(3, .int s0), (0, .ref x0), (1, .int x1), (2, .int x2)]) d_Model_listAll_100 rfl (by decide) rfl ?_
  refine z_sub [1, 2, 3, 0] rfl ?_
  exact k_Model_listAll_101 N C E H70 H76 N _ _ _ _ _ hf

set_option maxHeartbeats 4000000 in
set_option maxRecDepth 100000 in
theorem k_Model_listAll_76 (N : Nat) {X : zX} (C : zB X prog_10_method_34_code 4 R_Model rm_Model_listAll) {h0 : zH} {p : Unit × zH} (E : zR X none rm_Model_listAll h0 none p.2) {rc70 : Nat → Int32 → zH → Option (Unit × zH)} (H70 : ∀ (x0 : Nat) (x1 : Int32) (h : zH), rc70 x0 x1 h = some p → Zt X 4 0 0 70 [(0, .ref x0), (1, .int x1)] [] h) : ∀ n : Nat, ∀ (x0 : Nat) (x1 : Int32) (x2 : Int32) (h : zH), f_Model_listAll_76 N rc70 n x0 x1 x2 h = some p → Zt X 4 0 0 76 [(0, .ref x0), (1, .int x1), (2, .int x2)] [] h := by
  intro n
  induction n with
  | zero => intro x0 x1 x2 h hf; cases hf
  | succ n ih =>
  intro x0 x1 x2 h hf
  have H76 := ih
  replace hf : b_Model_listAll_76 N rc70 (f_Model_listAll_76 N rc70 n) x0 x1 x2 h = some p := hf
  unfold b_Model_listAll_76 at hf
  refine z_iload_n C 2 d_Model_listAll_76 rfl rfl ?_
  refine z_aload_n C 0 d_Model_listAll_77 rfl rfl ?_
  refine z_getI C 0 1 rfl in_Model (by decide) w_742 rfl d_Model_listAll_78 hf (fun v16 hf => ?_)
  refine z_ic_gt (tgt := 140) C d_Model_listAll_81 (by decide) hf (fun hf => ?_) (fun hf => ?_)
  · refine z_iinc C (v := (x1 + (-1 : Int32))) (lv' := [(1, .int (x1 + (-1 : Int32))), (0, .ref x0), (2, .int x2)]) 1 d_Model_listAll_140 rfl (by rfl) (by decide) rfl ?_
    refine z_goto (tgt := 70) C d_Model_listAll_143 (by decide) ?_
    refine z_sub [1, 0] rfl ?_
    exact H70 _ _ _ hf
  · refine z_iload_n C 1 d_Model_listAll_84 rfl rfl ?_
    refine z_if_ne (tgt := 93) C d_Model_listAll_85 (by decide) hf (fun hf => ?_) (fun hf => ?_)
    · refine z_bipush C (v := (24 : Int32)) d_Model_listAll_93 (by decide) ?_
      refine z_aload_n C 0 d_Model_listAll_95 rfl rfl ?_
      refine z_getI C 0 7 rfl in_Model (by decide) w_748 rfl d_Model_listAll_96 hf (fun v17 hf => ?_)
      refine z_isub C d_Model_listAll_99 ?_
      refine z_sub [0, 1, 2] rfl ?_
      exact k_Model_listAll_100 N C E H70 H76 _ _ _ _ _ hf
    · refine z_bipush C (v := (49 : Int32)) d_Model_listAll_88 (by decide) ?_
      refine z_goto (tgt := 100) C d_Model_listAll_90 (by decide) ?_
      refine z_sub [0, 1, 2] rfl ?_
      exact k_Model_listAll_100 N C E H70 H76 _ _ _ _ _ hf

set_option maxHeartbeats 4000000 in
set_option maxRecDepth 100000 in
theorem k_Model_listAll_70 (N : Nat) {X : zX} (C : zB X prog_10_method_34_code 4 R_Model rm_Model_listAll) {h0 : zH} {p : Unit × zH} (E : zR X none rm_Model_listAll h0 none p.2) : ∀ n : Nat, ∀ (x0 : Nat) (x1 : Int32) (h : zH), f_Model_listAll_70 N n x0 x1 h = some p → Zt X 4 0 0 70 [(0, .ref x0), (1, .int x1)] [] h := by
  intro n
  induction n with
  | zero => intro x0 x1 h hf; cases hf
  | succ n ih =>
  intro x0 x1 h hf
  have H70 := ih
  replace hf : b_Model_listAll_70 N (f_Model_listAll_70 N n) x0 x1 h = some p := hf
  unfold b_Model_listAll_70 at hf
  refine z_iload_n C 1 d_Model_listAll_70 rfl rfl ?_
  refine z_if_lt (tgt := 146) C d_Model_listAll_71 (by decide) hf (fun hf => ?_) (fun hf => ?_)
  · refine z_aload_n C 0 d_Model_listAll_146 rfl rfl ?_
    refine z_iconst C (v := (0 : Int32)) d_Model_listAll_147 (by decide) ?_
    refine z_put C 0 20 ty_Model rfl in_Model tyok_Model nm_Model (by decide) w_761 rfl (Or.inl rfl) rfl rfl rfl d_Model_listAll_148 hf (fun h18 hf => ?_)
    refine z_iconst C (v := (0 : Int32)) d_Model_listAll_151 (by decide) ?_
    refine z_istore_n C (lv' := [(1, .int (0 : Int32)), (0, .ref x0)]) d_Model_listAll_152 rfl (by decide) rfl ?_
    refine z_sub [1, 0] rfl ?_
    exact k_Model_listAll_153 N C E N _ _ _ hf
  · refine z_iconst C (v := (0 : Int32)) d_Model_listAll_74 (by decide) ?_
    refine z_istore_n C (lv' := [(2, .int (0 : Int32)), (0, .ref x0), (1, .int x1)]) d_Model_listAll_75 rfl (by decide) rfl ?_
    refine z_sub [1, 2, 0] rfl ?_
    exact k_Model_listAll_76 N C E H70 N _ _ _ _ hf

set_option maxHeartbeats 4000000 in
set_option maxRecDepth 100000 in
theorem k_Model_listAll_12 (N : Nat) {X : zX} (C : zB X prog_10_method_34_code 4 R_Model rm_Model_listAll) {h0 : zH} {p : Unit × zH} (E : zR X none rm_Model_listAll h0 none p.2) {rc2 : Nat → Int32 → zH → Option (Unit × zH)} (H2 : ∀ (x0 : Nat) (x1 : Int32) (h : zH), rc2 x0 x1 h = some p → Zt X 4 0 0 2 [(0, .ref x0), (1, .int x1)] [] h) : ∀ n : Nat, ∀ (x0 : Nat) (x1 : Int32) (x2 : Int32) (h : zH), f_Model_listAll_12 N rc2 n x0 x1 x2 h = some p → Zt X 4 0 0 12 [(0, .ref x0), (1, .int x1), (2, .int x2)] [] h := by
  intro n
  induction n with
  | zero => intro x0 x1 x2 h hf; cases hf
  | succ n ih =>
  intro x0 x1 x2 h hf
  have H12 := ih
  replace hf : b_Model_listAll_12 N rc2 (f_Model_listAll_12 N rc2 n) x0 x1 x2 h = some p := hf
  unfold b_Model_listAll_12 at hf
  refine z_iload_n C 2 d_Model_listAll_12 rfl rfl ?_
  refine z_bipush C (v := (50 : Int32)) d_Model_listAll_13 (by decide) ?_
  refine z_ic_ge (tgt := 57) C d_Model_listAll_15 (by decide) hf (fun hf => ?_) (fun hf => ?_)
  · refine z_iinc C (v := (x1 + (1 : Int32))) (lv' := [(1, .int (x1 + (1 : Int32))), (0, .ref x0), (2, .int x2)]) 1 d_Model_listAll_57 rfl (by rfl) (by decide) rfl ?_
    refine z_goto (tgt := 2) C d_Model_listAll_60 (by decide) ?_
    refine z_sub [1, 0] rfl ?_
    exact H2 _ _ _ hf
  · refine z_aload_n C 0 d_Model_listAll_18 rfl rfl ?_
    refine z_getR C 0 18 rfl in_Model (by decide) w_759 rfl d_Model_listAll_19 hf (fun v19 hf => ?_)
    refine z_aload_n C 0 d_Model_listAll_22 rfl rfl ?_
    refine z_getI C 0 0 rfl in_Model (by decide) w_741 rfl d_Model_listAll_23 hf (fun v20 hf => ?_)
    refine z_iload_n C 1 d_Model_listAll_26 rfl rfl ?_
    refine z_iload_n C 2 d_Model_listAll_27 rfl rfl ?_
    obtain ⟨p21, hc, hf⟩ := Option.bind_eq_some_iff.mp hf
    refine z_callS C (c_Model_at N C.2.2.1 hc) w_919 w_66 w_917 w_918 pd_Model_at rfl ⟨(Nat.le_of_ble_eq_true rfl), (Nat.le_of_ble_eq_true rfl)⟩ ⟨(Nat.le_of_ble_eq_true rfl), (Nat.le_of_ble_eq_true rfl)⟩ rfl (Nat.le_of_ble_eq_true rfl) d_Model_listAll_28 (k' := 0) (n' := 0) (stk' := [.int p21.1, .ref v19]) rfl rfl rfl ?_
    refine z_iconst C (v := (1 : Int32)) d_Model_listAll_31 (by decide) ?_
    refine z_iast C d_Model_listAll_32 hf (fun h22 hf => ?_)
    refine z_aload_n C 0 d_Model_listAll_33 rfl rfl ?_
    refine z_getR C 0 17 rfl in_Model (by decide) w_758 rfl d_Model_listAll_34 hf (fun v23 hf => ?_)
    refine z_bipush C (v := (6 : Int32)) d_Model_listAll_37 (by decide) ?_
    refine z_aload_n C 0 d_Model_listAll_39 rfl rfl ?_
    refine z_getI C 0 0 rfl in_Model (by decide) w_741 rfl d_Model_listAll_40 hf (fun v24 hf => ?_)
    refine z_iload_n C 1 d_Model_listAll_43 rfl rfl ?_
    refine z_iload_n C 2 d_Model_listAll_44 rfl rfl ?_
    obtain ⟨p25, hc, hf⟩ := Option.bind_eq_some_iff.mp hf
    refine z_callS C (c_Model_at N C.2.2.1 hc) w_919 w_66 w_917 w_918 pd_Model_at rfl ⟨(Nat.le_of_ble_eq_true rfl), (Nat.le_of_ble_eq_true rfl)⟩ ⟨(Nat.le_of_ble_eq_true rfl), (Nat.le_of_ble_eq_true rfl)⟩ rfl (Nat.le_of_ble_eq_true rfl) d_Model_listAll_45 (k' := 0) (n' := 0) (stk' := [.int p25.1, .int (6 : Int32), .ref v23]) rfl rfl rfl ?_
    refine z_imul C d_Model_listAll_48 ?_
    refine z_lconst C (v := (0 : Int64)) d_Model_listAll_49 (by decide) ?_
    refine z_last C d_Model_listAll_50 hf (fun h26 hf => ?_)
    refine z_iinc C (v := (x2 + (1 : Int32))) (lv' := [(2, .int (x2 + (1 : Int32))), (0, .ref x0), (1, .int x1)]) 2 d_Model_listAll_51 rfl (by rfl) (by decide) rfl ?_
    refine z_goto (tgt := 12) C d_Model_listAll_54 (by decide) ?_
    refine z_sub [1, 2, 0] rfl ?_
    exact H12 _ _ _ _ hf

set_option maxHeartbeats 4000000 in
set_option maxRecDepth 100000 in
theorem k_Model_listAll_2 (N : Nat) {X : zX} (C : zB X prog_10_method_34_code 4 R_Model rm_Model_listAll) {h0 : zH} {p : Unit × zH} (E : zR X none rm_Model_listAll h0 none p.2) : ∀ n : Nat, ∀ (x0 : Nat) (x1 : Int32) (h : zH), f_Model_listAll_2 N n x0 x1 h = some p → Zt X 4 0 0 2 [(0, .ref x0), (1, .int x1)] [] h := by
  intro n
  induction n with
  | zero => intro x0 x1 h hf; cases hf
  | succ n ih =>
  intro x0 x1 h hf
  have H2 := ih
  replace hf : b_Model_listAll_2 N (f_Model_listAll_2 N n) x0 x1 h = some p := hf
  unfold b_Model_listAll_2 at hf
  refine z_iload_n C 1 d_Model_listAll_2 rfl rfl ?_
  refine z_aload_n C 0 d_Model_listAll_3 rfl rfl ?_
  refine z_getI C 0 1 rfl in_Model (by decide) w_742 rfl d_Model_listAll_4 hf (fun v27 hf => ?_)
  refine z_ic_gt (tgt := 63) C d_Model_listAll_7 (by decide) hf (fun hf => ?_) (fun hf => ?_)
  · refine z_aload_n C 0 d_Model_listAll_63 rfl rfl ?_
    refine z_getI C 0 0 rfl in_Model (by decide) w_741 rfl d_Model_listAll_64 hf (fun v28 hf => ?_)
    refine z_iconst C (v := (1 : Int32)) d_Model_listAll_67 (by decide) ?_
    refine z_isub C d_Model_listAll_68 ?_
    refine z_istore_n C (lv' := [(1, .int (v28 - (1 : Int32))), (0, .ref x0)]) d_Model_listAll_69 rfl (by decide) rfl ?_
    refine z_sub [1, 0] rfl ?_
    exact k_Model_listAll_70 N C E N _ _ _ hf
  · refine z_iconst C (v := (0 : Int32)) d_Model_listAll_10 (by decide) ?_
    refine z_istore_n C (lv' := [(2, .int (0 : Int32)), (0, .ref x0), (1, .int x1)]) d_Model_listAll_11 rfl (by decide) rfl ?_
    refine z_sub [1, 2, 0] rfl ?_
    exact k_Model_listAll_12 N C E H2 N _ _ _ _ hf

set_option maxHeartbeats 4000000 in
set_option maxRecDepth 100000 in
theorem k_Model_listAll (N : Nat) {X : zX} (C : zB X prog_10_method_34_code 4 R_Model rm_Model_listAll) {h0 : zH} {p : Unit × zH} (E : zR X none rm_Model_listAll h0 none p.2) : ∀ (x0 : Nat) (h : zH), f_Model_listAll N x0 h = some p → Zt X 4 0 0 0 [(0, .ref x0)] [] h := by
  intro x0 h hf
  unfold f_Model_listAll at hf
  refine z_iconst C (v := (0 : Int32)) d_Model_listAll_0 (by decide) ?_
  refine z_istore_n C (lv' := [(1, .int (0 : Int32)), (0, .ref x0)]) d_Model_listAll_1 rfl (by decide) rfl ?_
  refine z_sub [1, 0] rfl ?_
  exact k_Model_listAll_2 N C E N _ _ _ hf

theorem c_Model_listAll (N : Nat) {l : Launch} {D : va_G} {T : List (ClassId × FieldType)} (hT : T.map (fun q => q.2) = ztl) {x0 : Nat} {h : zH} {p : Unit × zH} (hf : f_Model_listAll N x0 h = some p) : zM l y_Model_listAll prog_10_method_34_code 4 none rm_Model_listAll D T [.ref x0] h none p.2 :=
  z_enter (by decide) hT (Nat.le_of_ble_eq_true rfl) (fun X el eD eT hin C E => k_Model_listAll N C E x0 h hf)
/-! ===== LevelTablesModel.order(I)I ===== -/
abbrev y_Model_order : MethodName := ⟨R_Model, "order", "(I)I"⟩
theorem pd_Model_order : y_Model_order.cls ≠ "java/lang/invoke/MethodHandle" ∧ y_Model_order.cls ≠ "java/lang/invoke/VarHandle" ∧ (parseMethodDescriptor y_Model_order.desc).map (fun d => d.parameters.length) = some 1 := ⟨by decide +kernel, by decide +kernel, by decide +kernel⟩
abbrev rm_Model_order : Room := { frames := 3, cells := 0, slots := 0, locals := 65 }
def f_Model_order_98 (N : Nat) (rc23 : Nat → Int32 → Int32 → zH → Option (Int32 × zH)) (rc36 : Nat → Int32 → Int32 → Int32 → Int32 → zH → Option (Int32 × zH)) (x0 : Nat) (x1 : Int32) (x2 : Int32) (x4 : Int32) (s0 : Int32) (h : zH) : Option (Int32 × zH) :=
  rc36 x0 x1 x2 s0 (x4 + (1 : Int32)) h
def f_Model_order_91 (N : Nat) (rc23 : Nat → Int32 → Int32 → zH → Option (Int32 × zH)) (rc36 : Nat → Int32 → Int32 → Int32 → Int32 → zH → Option (Int32 × zH)) (x0 : Nat) (x1 : Int32) (x2 : Int32) (x3 : Int32) (x4 : Int32) (h : zH) : Option (Int32 × zH) :=
  f_Model_order_98 N rc23 rc36 x0 x1 x2 x4 (x3 + (1 : Int32)) h
def f_Model_order_97 (N : Nat) (rc23 : Nat → Int32 → Int32 → zH → Option (Int32 × zH)) (rc36 : Nat → Int32 → Int32 → Int32 → Int32 → zH → Option (Int32 × zH)) (x0 : Nat) (x1 : Int32) (x2 : Int32) (x3 : Int32) (x4 : Int32) (h : zH) : Option (Int32 × zH) :=
  f_Model_order_98 N rc23 rc36 x0 x1 x2 x4 x3 h
def b_Model_order_36 (N : Nat) (rc23 : Nat → Int32 → Int32 → zH → Option (Int32 × zH)) (rc36 : Nat → Int32 → Int32 → Int32 → Int32 → zH → Option (Int32 × zH)) (x0 : Nat) (x1 : Int32) (x2 : Int32) (x3 : Int32) (x4 : Int32) (h : zH) : Option (Int32 × zH) :=
  Option.bind (zgI h x0 0 0) fun (v1 : Int32) =>
  (if v1 < x4 then
    (if x3 = x1 then
      some (x2, h)
    else
      rc23 x0 x1 (x2 + (1 : Int32)) h)
  else
    Option.bind (zck (zis h x0 0) (f_Model_filled N x0 x4 h)) fun (p2 : Int32 × zH) =>
    Option.bind (f_Model_size N p2.1 p2.2) fun (p3 : Int32 × zH) =>
    Option.bind (zck (zis p3.2 x0 0) (f_Model_filled N x0 x2 p3.2)) fun (p4 : Int32 × zH) =>
    Option.bind (f_Model_size N p4.1 p4.2) fun (p5 : Int32 × zH) =>
    (if p5.1 < p3.1 then
      f_Model_order_91 N rc23 rc36 x0 x1 x2 x3 x4 p5.2
    else
      Option.bind (zck (zis p5.2 x0 0) (f_Model_filled N x0 x4 p5.2)) fun (p6 : Int32 × zH) =>
      Option.bind (f_Model_size N p6.1 p6.2) fun (p7 : Int32 × zH) =>
      Option.bind (zck (zis p7.2 x0 0) (f_Model_filled N x0 x2 p7.2)) fun (p8 : Int32 × zH) =>
      Option.bind (f_Model_size N p8.1 p8.2) fun (p9 : Int32 × zH) =>
      (if p7.1 = p9.1 then
        (if x2 ≤ x4 then
          f_Model_order_97 N rc23 rc36 x0 x1 x2 x3 x4 p9.2
        else
          f_Model_order_91 N rc23 rc36 x0 x1 x2 x3 x4 p9.2)
      else
        f_Model_order_97 N rc23 rc36 x0 x1 x2 x3 x4 p9.2)))
def f_Model_order_36 (N : Nat) (rc23 : Nat → Int32 → Int32 → zH → Option (Int32 × zH)) : Nat → Nat → Int32 → Int32 → Int32 → Int32 → zH → Option (Int32 × zH)
  | 0 => fun _ _ _ _ _ _ => none
  | n + 1 => fun x0 x1 x2 x3 x4 h => b_Model_order_36 N rc23 (f_Model_order_36 N rc23 n) x0 x1 x2 x3 x4 h
def b_Model_order_23 (N : Nat) (rc23 : Nat → Int32 → Int32 → zH → Option (Int32 × zH)) (x0 : Nat) (x1 : Int32) (x2 : Int32) (h : zH) : Option (Int32 × zH) :=
  Option.bind (zgI h x0 0 0) fun (v10 : Int32) =>
  (if v10 < x2 then
    some ((-1 : Int32), h)
  else
    f_Model_order_36 N rc23 N x0 x1 x2 (0 : Int32) (0 : Int32) h)
def f_Model_order_23 (N : Nat) : Nat → Nat → Int32 → Int32 → zH → Option (Int32 × zH)
  | 0 => fun _ _ _ _ => none
  | n + 1 => fun x0 x1 x2 h => b_Model_order_23 N (f_Model_order_23 N n) x0 x1 x2 h
def f_Model_order (N : Nat) (x0 : Nat) (x1 : Int32) (h : zH) : Option (Int32 × zH) :=
  Option.bind (zgI h x0 0 24) fun (v11 : Int32) =>
  (if v11 = 0 then
    some ((-1 : Int32), h)
  else
    (if x1 < 0 then
      some ((-1 : Int32), h)
    else
      Option.bind (zgI h x0 0 0) fun (v12 : Int32) =>
      (if x1 ≤ v12 then
        f_Model_order_23 N N x0 x1 (0 : Int32) h
      else
        some ((-1 : Int32), h))))
theorem d_Model_order_0 : decode prog_10_method_46_code 0 = .ok (.aload_n (0), 1) := by decide +kernel
theorem d_Model_order_1 : decode prog_10_method_46_code 1 = .ok (.getfield (95), 3) := by decide +kernel
theorem d_Model_order_4 : decode prog_10_method_46_code 4 = .ok (.ifCond .eq (15), 3) := by decide +kernel
theorem d_Model_order_7 : decode prog_10_method_46_code 7 = .ok (.iload_n (1), 1) := by decide +kernel
theorem d_Model_order_8 : decode prog_10_method_46_code 8 = .ok (.ifCond .lt (11), 3) := by decide +kernel
theorem d_Model_order_11 : decode prog_10_method_46_code 11 = .ok (.iload_n (1), 1) := by decide +kernel
theorem d_Model_order_12 : decode prog_10_method_46_code 12 = .ok (.aload_n (0), 1) := by decide +kernel
theorem d_Model_order_13 : decode prog_10_method_46_code 13 = .ok (.getfield (89), 3) := by decide +kernel
theorem d_Model_order_16 : decode prog_10_method_46_code 16 = .ok (.if_icmp .le (5), 3) := by decide +kernel
theorem d_Model_order_19 : decode prog_10_method_46_code 19 = .ok (.iconst (-1), 1) := by decide +kernel
theorem d_Model_order_20 : decode prog_10_method_46_code 20 = .ok (.ireturn, 1) := by decide +kernel
theorem d_Model_order_21 : decode prog_10_method_46_code 21 = .ok (.iconst (0), 1) := by decide +kernel
theorem d_Model_order_22 : decode prog_10_method_46_code 22 = .ok (.istore_n (2), 1) := by decide +kernel
theorem d_Model_order_23 : decode prog_10_method_46_code 23 = .ok (.iload_n (2), 1) := by decide +kernel
theorem d_Model_order_24 : decode prog_10_method_46_code 24 = .ok (.aload_n (0), 1) := by decide +kernel
theorem d_Model_order_25 : decode prog_10_method_46_code 25 = .ok (.getfield (89), 3) := by decide +kernel
theorem d_Model_order_28 : decode prog_10_method_46_code 28 = .ok (.if_icmp .gt (90), 3) := by decide +kernel
theorem d_Model_order_31 : decode prog_10_method_46_code 31 = .ok (.iconst (0), 1) := by decide +kernel
theorem d_Model_order_32 : decode prog_10_method_46_code 32 = .ok (.istore_n (3), 1) := by decide +kernel
theorem d_Model_order_33 : decode prog_10_method_46_code 33 = .ok (.iconst (0), 1) := by decide +kernel
theorem d_Model_order_34 : decode prog_10_method_46_code 34 = .ok (.istore (4), 2) := by decide +kernel
theorem d_Model_order_36 : decode prog_10_method_46_code 36 = .ok (.iload (4), 2) := by decide +kernel
theorem d_Model_order_38 : decode prog_10_method_46_code 38 = .ok (.aload_n (0), 1) := by decide +kernel
theorem d_Model_order_39 : decode prog_10_method_46_code 39 = .ok (.getfield (89), 3) := by decide +kernel
theorem d_Model_order_42 : decode prog_10_method_46_code 42 = .ok (.if_icmp .gt (63), 3) := by decide +kernel
theorem d_Model_order_45 : decode prog_10_method_46_code 45 = .ok (.aload_n (0), 1) := by decide +kernel
theorem d_Model_order_46 : decode prog_10_method_46_code 46 = .ok (.iload (4), 2) := by decide +kernel
theorem d_Model_order_48 : decode prog_10_method_46_code 48 = .ok (.invokevirtual (227), 3) := by decide +kernel
theorem d_Model_order_51 : decode prog_10_method_46_code 51 = .ok (.invokestatic (129), 3) := by decide +kernel
theorem d_Model_order_54 : decode prog_10_method_46_code 54 = .ok (.aload_n (0), 1) := by decide +kernel
theorem d_Model_order_55 : decode prog_10_method_46_code 55 = .ok (.iload_n (2), 1) := by decide +kernel
theorem d_Model_order_56 : decode prog_10_method_46_code 56 = .ok (.invokevirtual (227), 3) := by decide +kernel
theorem d_Model_order_59 : decode prog_10_method_46_code 59 = .ok (.invokestatic (129), 3) := by decide +kernel
theorem d_Model_order_62 : decode prog_10_method_46_code 62 = .ok (.if_icmp .gt (29), 3) := by decide +kernel
theorem d_Model_order_65 : decode prog_10_method_46_code 65 = .ok (.aload_n (0), 1) := by decide +kernel
theorem d_Model_order_66 : decode prog_10_method_46_code 66 = .ok (.iload (4), 2) := by decide +kernel
theorem d_Model_order_68 : decode prog_10_method_46_code 68 = .ok (.invokevirtual (227), 3) := by decide +kernel
theorem d_Model_order_71 : decode prog_10_method_46_code 71 = .ok (.invokestatic (129), 3) := by decide +kernel
theorem d_Model_order_74 : decode prog_10_method_46_code 74 = .ok (.aload_n (0), 1) := by decide +kernel
theorem d_Model_order_75 : decode prog_10_method_46_code 75 = .ok (.iload_n (2), 1) := by decide +kernel
theorem d_Model_order_76 : decode prog_10_method_46_code 76 = .ok (.invokevirtual (227), 3) := by decide +kernel
theorem d_Model_order_79 : decode prog_10_method_46_code 79 = .ok (.invokestatic (129), 3) := by decide +kernel
theorem d_Model_order_82 : decode prog_10_method_46_code 82 = .ok (.if_icmp .ne (15), 3) := by decide +kernel
theorem d_Model_order_85 : decode prog_10_method_46_code 85 = .ok (.iload (4), 2) := by decide +kernel
theorem d_Model_order_87 : decode prog_10_method_46_code 87 = .ok (.iload_n (2), 1) := by decide +kernel
theorem d_Model_order_88 : decode prog_10_method_46_code 88 = .ok (.if_icmp .ge (9), 3) := by decide +kernel
theorem d_Model_order_91 : decode prog_10_method_46_code 91 = .ok (.iload_n (3), 1) := by decide +kernel
theorem d_Model_order_92 : decode prog_10_method_46_code 92 = .ok (.iconst (1), 1) := by decide +kernel
theorem d_Model_order_93 : decode prog_10_method_46_code 93 = .ok (.iadd, 1) := by decide +kernel
theorem d_Model_order_94 : decode prog_10_method_46_code 94 = .ok (.goto (4), 3) := by decide +kernel
theorem d_Model_order_97 : decode prog_10_method_46_code 97 = .ok (.iload_n (3), 1) := by decide +kernel
theorem d_Model_order_98 : decode prog_10_method_46_code 98 = .ok (.istore_n (3), 1) := by decide +kernel
theorem d_Model_order_99 : decode prog_10_method_46_code 99 = .ok (.iinc (4) (1), 3) := by decide +kernel
theorem d_Model_order_102 : decode prog_10_method_46_code 102 = .ok (.goto (-66), 3) := by decide +kernel
theorem d_Model_order_105 : decode prog_10_method_46_code 105 = .ok (.iload_n (3), 1) := by decide +kernel
theorem d_Model_order_106 : decode prog_10_method_46_code 106 = .ok (.iload_n (1), 1) := by decide +kernel
theorem d_Model_order_107 : decode prog_10_method_46_code 107 = .ok (.if_icmp .ne (5), 3) := by decide +kernel
theorem d_Model_order_110 : decode prog_10_method_46_code 110 = .ok (.iload_n (2), 1) := by decide +kernel
theorem d_Model_order_111 : decode prog_10_method_46_code 111 = .ok (.ireturn, 1) := by decide +kernel
theorem d_Model_order_112 : decode prog_10_method_46_code 112 = .ok (.iinc (2) (1), 3) := by decide +kernel
theorem d_Model_order_115 : decode prog_10_method_46_code 115 = .ok (.goto (-92), 3) := by decide +kernel
theorem d_Model_order_118 : decode prog_10_method_46_code 118 = .ok (.iconst (-1), 1) := by decide +kernel
theorem d_Model_order_119 : decode prog_10_method_46_code 119 = .ok (.ireturn, 1) := by decide +kernel
set_option maxHeartbeats 4000000 in
set_option maxRecDepth 100000 in
theorem k_Model_order_98 (N : Nat) {X : zX} (C : zB X prog_10_method_46_code 5 R_Model rm_Model_order) {h0 : zH} {p : Int32 × zH} (E : zR X (some .int) rm_Model_order h0 (some (.int p.1)) p.2) {rc23 : Nat → Int32 → Int32 → zH → Option (Int32 × zH)} (H23 : ∀ (x0 : Nat) (x1 : Int32) (x2 : Int32) (h : zH), rc23 x0 x1 x2 h = some p → Zt X 5 0 0 23 [(0, .ref x0), (1, .int x1), (2, .int x2)] [] h) {rc36 : Nat → Int32 → Int32 → Int32 → Int32 → zH → Option (Int32 × zH)} (H36 : ∀ (x0 : Nat) (x1 : Int32) (x2 : Int32) (x3 : Int32) (x4 : Int32) (h : zH), rc36 x0 x1 x2 x3 x4 h = some p → Zt X 5 0 0 36 [(0, .ref x0), (1, .int x1), (2, .int x2), (3, .int x3), (4, .int x4)] [] h) : ∀ (x0 : Nat) (x1 : Int32) (x2 : Int32) (x4 : Int32) (s0 : Int32) (h : zH), f_Model_order_98 N rc23 rc36 x0 x1 x2 x4 s0 h = some p → Zt X 5 0 0 98 [(0, .ref x0), (1, .int x1), (2, .int x2), (4, .int x4)] [.int s0] h := by
  intro x0 x1 x2 x4 s0 h hf
  unfold f_Model_order_98 at hf
  refine z_istore_n C (lv' := [(3, .int s0), (0, .ref x0), (1, .int x1), (2, .int x2), (4, .int x4)]) d_Model_order_98 rfl (by decide) rfl ?_
  refine z_iinc C (v := (x4 + (1 : Int32))) (lv' := [(4, .int (x4 + (1 : Int32))), (3, .int s0), (0, .ref x0), (1, .int x1), (2, .int x2)]) 4 d_Model_order_99 rfl (by rfl) (by decide) rfl ?_
  refine z_goto (tgt := 36) C d_Model_order_102 (by decide) ?_
  refine z_sub [2, 3, 4, 1, 0] rfl ?_
  exact H36 _ _ _ _ _ _ hf

set_option maxHeartbeats 4000000 in
set_option maxRecDepth 100000 in
theorem k_Model_order_91 (N : Nat) {X : zX} (C : zB X prog_10_method_46_code 5 R_Model rm_Model_order) {h0 : zH} {p : Int32 × zH} (E : zR X (some .int) rm_Model_order h0 (some (.int p.1)) p.2) {rc23 : Nat → Int32 → Int32 → zH → Option (Int32 × zH)} (H23 : ∀ (x0 : Nat) (x1 : Int32) (x2 : Int32) (h : zH), rc23 x0 x1 x2 h = some p → Zt X 5 0 0 23 [(0, .ref x0), (1, .int x1), (2, .int x2)] [] h) {rc36 : Nat → Int32 → Int32 → Int32 → Int32 → zH → Option (Int32 × zH)} (H36 : ∀ (x0 : Nat) (x1 : Int32) (x2 : Int32) (x3 : Int32) (x4 : Int32) (h : zH), rc36 x0 x1 x2 x3 x4 h = some p → Zt X 5 0 0 36 [(0, .ref x0), (1, .int x1), (2, .int x2), (3, .int x3), (4, .int x4)] [] h) : ∀ (x0 : Nat) (x1 : Int32) (x2 : Int32) (x3 : Int32) (x4 : Int32) (h : zH), f_Model_order_91 N rc23 rc36 x0 x1 x2 x3 x4 h = some p → Zt X 5 0 0 91 [(0, .ref x0), (1, .int x1), (2, .int x2), (3, .int x3), (4, .int x4)] [] h := by
  intro x0 x1 x2 x3 x4 h hf
  unfold f_Model_order_91 at hf
  refine z_iload_n C 3 d_Model_order_91 rfl rfl ?_
  refine z_iconst C (v := (1 : Int32)) d_Model_order_92 (by decide) ?_
  refine z_iadd C d_Model_order_93 ?_
  refine z_goto (tgt := 98) C d_Model_order_94 (by decide) ?_
  refine z_sub [0, 1, 2, 4] rfl ?_
  exact k_Model_order_98 N C E H23 H36 _ _ _ _ _ _ hf

set_option maxHeartbeats 4000000 in
set_option maxRecDepth 100000 in
theorem k_Model_order_97 (N : Nat) {X : zX} (C : zB X prog_10_method_46_code 5 R_Model rm_Model_order) {h0 : zH} {p : Int32 × zH} (E : zR X (some .int) rm_Model_order h0 (some (.int p.1)) p.2) {rc23 : Nat → Int32 → Int32 → zH → Option (Int32 × zH)} (H23 : ∀ (x0 : Nat) (x1 : Int32) (x2 : Int32) (h : zH), rc23 x0 x1 x2 h = some p → Zt X 5 0 0 23 [(0, .ref x0), (1, .int x1), (2, .int x2)] [] h) {rc36 : Nat → Int32 → Int32 → Int32 → Int32 → zH → Option (Int32 × zH)} (H36 : ∀ (x0 : Nat) (x1 : Int32) (x2 : Int32) (x3 : Int32) (x4 : Int32) (h : zH), rc36 x0 x1 x2 x3 x4 h = some p → Zt X 5 0 0 36 [(0, .ref x0), (1, .int x1), (2, .int x2), (3, .int x3), (4, .int x4)] [] h) : ∀ (x0 : Nat) (x1 : Int32) (x2 : Int32) (x3 : Int32) (x4 : Int32) (h : zH), f_Model_order_97 N rc23 rc36 x0 x1 x2 x3 x4 h = some p → Zt X 5 0 0 97 [(0, .ref x0), (1, .int x1), (2, .int x2), (3, .int x3), (4, .int x4)] [] h := by
  intro x0 x1 x2 x3 x4 h hf
  unfold f_Model_order_97 at hf
  refine z_iload_n C 3 d_Model_order_97 rfl rfl ?_
  refine z_sub [0, 1, 2, 4] rfl ?_
  exact k_Model_order_98 N C E H23 H36 _ _ _ _ _ _ hf

set_option maxHeartbeats 4000000 in
set_option maxRecDepth 100000 in
theorem k_Model_order_36 (N : Nat) {X : zX} (C : zB X prog_10_method_46_code 5 R_Model rm_Model_order) {h0 : zH} {p : Int32 × zH} (E : zR X (some .int) rm_Model_order h0 (some (.int p.1)) p.2) {rc23 : Nat → Int32 → Int32 → zH → Option (Int32 × zH)} (H23 : ∀ (x0 : Nat) (x1 : Int32) (x2 : Int32) (h : zH), rc23 x0 x1 x2 h = some p → Zt X 5 0 0 23 [(0, .ref x0), (1, .int x1), (2, .int x2)] [] h) : ∀ n : Nat, ∀ (x0 : Nat) (x1 : Int32) (x2 : Int32) (x3 : Int32) (x4 : Int32) (h : zH), f_Model_order_36 N rc23 n x0 x1 x2 x3 x4 h = some p → Zt X 5 0 0 36 [(0, .ref x0), (1, .int x1), (2, .int x2), (3, .int x3), (4, .int x4)] [] h := by
  intro n
  induction n with
  | zero => intro x0 x1 x2 x3 x4 h hf; cases hf
  | succ n ih =>
  intro x0 x1 x2 x3 x4 h hf
  have H36 := ih
  replace hf : b_Model_order_36 N rc23 (f_Model_order_36 N rc23 n) x0 x1 x2 x3 x4 h = some p := hf
  unfold b_Model_order_36 at hf
  refine z_iload C 4 d_Model_order_36 rfl ?_
  refine z_aload_n C 0 d_Model_order_38 rfl rfl ?_
  refine z_getI C 0 0 rfl in_Model (by decide) w_741 rfl d_Model_order_39 hf (fun v1 hf => ?_)
  refine z_ic_gt (tgt := 105) C d_Model_order_42 (by decide) hf (fun hf => ?_) (fun hf => ?_)
  · refine z_iload_n C 3 d_Model_order_105 rfl rfl ?_
    refine z_iload_n C 1 d_Model_order_106 rfl rfl ?_
    refine z_ic_ne (tgt := 112) C d_Model_order_107 (by decide) hf (fun hf => ?_) (fun hf => ?_)
    · refine z_iinc C (v := (x2 + (1 : Int32))) (lv' := [(2, .int (x2 + (1 : Int32))), (0, .ref x0), (1, .int x1), (3, .int x3), (4, .int x4)]) 2 d_Model_order_112 rfl (by rfl) (by decide) rfl ?_
      refine z_goto (tgt := 23) C d_Model_order_115 (by decide) ?_
      refine z_sub [1, 2, 0] rfl ?_
      exact H23 _ _ _ _ hf
    · refine z_iload_n C 2 d_Model_order_110 rfl rfl ?_
      exact z_iret C E (Nat.le_of_ble_eq_true rfl) (Nat.le_of_ble_eq_true rfl) d_Model_order_111 hf
  · refine z_aload_n C 0 d_Model_order_45 rfl rfl ?_
    refine z_iload C 4 d_Model_order_46 rfl ?_
    obtain ⟨p2, hc, hf⟩ := Option.bind_eq_some_iff.mp hf
    obtain ⟨hz, hc⟩ := zck_some hc
    refine z_callV C (ci := 0) (c_Model_filled N C.2.2.1 hc) rfl hz w_1022 w_66 w_1019 w_1021 w_53 pd_Model_filled rfl ⟨(Nat.le_of_ble_eq_true rfl), (Nat.le_of_ble_eq_true rfl)⟩ ⟨(Nat.le_of_ble_eq_true rfl), (Nat.le_of_ble_eq_true rfl)⟩ rfl (Nat.le_of_ble_eq_true rfl) d_Model_order_48 (k' := 0) (n' := 0) (stk' := [.int p2.1]) rfl rfl rfl ?_
    obtain ⟨p3, hc, hf⟩ := Option.bind_eq_some_iff.mp hf
    refine z_callS C (c_Model_size N C.2.2.1 hc) w_912 w_66 w_910 w_911 pd_Model_size rfl ⟨(Nat.le_of_ble_eq_true rfl), (Nat.le_of_ble_eq_true rfl)⟩ ⟨(Nat.le_of_ble_eq_true rfl), (Nat.le_of_ble_eq_true rfl)⟩ rfl (Nat.le_of_ble_eq_true rfl) d_Model_order_51 (k' := 0) (n' := 0) (stk' := [.int p3.1]) rfl rfl rfl ?_
    refine z_aload_n C 0 d_Model_order_54 rfl rfl ?_
    refine z_iload_n C 2 d_Model_order_55 rfl rfl ?_
    obtain ⟨p4, hc, hf⟩ := Option.bind_eq_some_iff.mp hf
    obtain ⟨hz, hc⟩ := zck_some hc
    refine z_callV C (ci := 0) (c_Model_filled N C.2.2.1 hc) rfl hz w_1022 w_66 w_1019 w_1021 w_53 pd_Model_filled rfl ⟨(Nat.le_of_ble_eq_true rfl), (Nat.le_of_ble_eq_true rfl)⟩ ⟨(Nat.le_of_ble_eq_true rfl), (Nat.le_of_ble_eq_true rfl)⟩ rfl (Nat.le_of_ble_eq_true rfl) d_Model_order_56 (k' := 0) (n' := 0) (stk' := [.int p4.1, .int p3.1]) rfl rfl rfl ?_
    obtain ⟨p5, hc, hf⟩ := Option.bind_eq_some_iff.mp hf
    refine z_callS C (c_Model_size N C.2.2.1 hc) w_912 w_66 w_910 w_911 pd_Model_size rfl ⟨(Nat.le_of_ble_eq_true rfl), (Nat.le_of_ble_eq_true rfl)⟩ ⟨(Nat.le_of_ble_eq_true rfl), (Nat.le_of_ble_eq_true rfl)⟩ rfl (Nat.le_of_ble_eq_true rfl) d_Model_order_59 (k' := 0) (n' := 0) (stk' := [.int p5.1, .int p3.1]) rfl rfl rfl ?_
    refine z_ic_gt (tgt := 91) C d_Model_order_62 (by decide) hf (fun hf => ?_) (fun hf => ?_)
    · refine z_sub [0, 1, 2, 3, 4] rfl ?_
      exact k_Model_order_91 N C E H23 H36 _ _ _ _ _ _ hf
    · refine z_aload_n C 0 d_Model_order_65 rfl rfl ?_
      refine z_iload C 4 d_Model_order_66 rfl ?_
      obtain ⟨p6, hc, hf⟩ := Option.bind_eq_some_iff.mp hf
      obtain ⟨hz, hc⟩ := zck_some hc
      refine z_callV C (ci := 0) (c_Model_filled N C.2.2.1 hc) rfl hz w_1022 w_66 w_1019 w_1021 w_53 pd_Model_filled rfl ⟨(Nat.le_of_ble_eq_true rfl), (Nat.le_of_ble_eq_true rfl)⟩ ⟨(Nat.le_of_ble_eq_true rfl), (Nat.le_of_ble_eq_true rfl)⟩ rfl (Nat.le_of_ble_eq_true rfl) d_Model_order_68 (k' := 0) (n' := 0) (stk' := [.int p6.1]) rfl rfl rfl ?_
      obtain ⟨p7, hc, hf⟩ := Option.bind_eq_some_iff.mp hf
      refine z_callS C (c_Model_size N C.2.2.1 hc) w_912 w_66 w_910 w_911 pd_Model_size rfl ⟨(Nat.le_of_ble_eq_true rfl), (Nat.le_of_ble_eq_true rfl)⟩ ⟨(Nat.le_of_ble_eq_true rfl), (Nat.le_of_ble_eq_true rfl)⟩ rfl (Nat.le_of_ble_eq_true rfl) d_Model_order_71 (k' := 0) (n' := 0) (stk' := [.int p7.1]) rfl rfl rfl ?_
      refine z_aload_n C 0 d_Model_order_74 rfl rfl ?_
      refine z_iload_n C 2 d_Model_order_75 rfl rfl ?_
      obtain ⟨p8, hc, hf⟩ := Option.bind_eq_some_iff.mp hf
      obtain ⟨hz, hc⟩ := zck_some hc
      refine z_callV C (ci := 0) (c_Model_filled N C.2.2.1 hc) rfl hz w_1022 w_66 w_1019 w_1021 w_53 pd_Model_filled rfl ⟨(Nat.le_of_ble_eq_true rfl), (Nat.le_of_ble_eq_true rfl)⟩ ⟨(Nat.le_of_ble_eq_true rfl), (Nat.le_of_ble_eq_true rfl)⟩ rfl (Nat.le_of_ble_eq_true rfl) d_Model_order_76 (k' := 0) (n' := 0) (stk' := [.int p8.1, .int p7.1]) rfl rfl rfl ?_
      obtain ⟨p9, hc, hf⟩ := Option.bind_eq_some_iff.mp hf
      refine z_callS C (c_Model_size N C.2.2.1 hc) w_912 w_66 w_910 w_911 pd_Model_size rfl ⟨(Nat.le_of_ble_eq_true rfl), (Nat.le_of_ble_eq_true rfl)⟩ ⟨(Nat.le_of_ble_eq_true rfl), (Nat.le_of_ble_eq_true rfl)⟩ rfl (Nat.le_of_ble_eq_true rfl) d_Model_order_79 (k' := 0) (n' := 0) (stk' := [.int p9.1, .int p7.1]) rfl rfl rfl ?_
      refine z_ic_ne (tgt := 97) C d_Model_order_82 (by decide) hf (fun hf => ?_) (fun hf => ?_)
      · refine z_sub [0, 1, 2, 3, 4] rfl ?_
        exact k_Model_order_97 N C E H23 H36 _ _ _ _ _ _ hf
      · refine z_iload C 4 d_Model_order_85 rfl ?_
        refine z_iload_n C 2 d_Model_order_87 rfl rfl ?_
        refine z_ic_ge (tgt := 97) C d_Model_order_88 (by decide) hf (fun hf => ?_) (fun hf => ?_)
        · refine z_sub [0, 1, 2, 3, 4] rfl ?_
          exact k_Model_order_97 N C E H23 H36 _ _ _ _ _ _ hf
        · refine z_sub [0, 1, 2, 3, 4] rfl ?_
          exact k_Model_order_91 N C E H23 H36 _ _ _ _ _ _ hf

set_option maxHeartbeats 4000000 in
set_option maxRecDepth 100000 in
theorem k_Model_order_23 (N : Nat) {X : zX} (C : zB X prog_10_method_46_code 5 R_Model rm_Model_order) {h0 : zH} {p : Int32 × zH} (E : zR X (some .int) rm_Model_order h0 (some (.int p.1)) p.2) : ∀ n : Nat, ∀ (x0 : Nat) (x1 : Int32) (x2 : Int32) (h : zH), f_Model_order_23 N n x0 x1 x2 h = some p → Zt X 5 0 0 23 [(0, .ref x0), (1, .int x1), (2, .int x2)] [] h := by
  intro n
  induction n with
  | zero => intro x0 x1 x2 h hf; cases hf
  | succ n ih =>
  intro x0 x1 x2 h hf
  have H23 := ih
  replace hf : b_Model_order_23 N (f_Model_order_23 N n) x0 x1 x2 h = some p := hf
  unfold b_Model_order_23 at hf
  refine z_iload_n C 2 d_Model_order_23 rfl rfl ?_
  refine z_aload_n C 0 d_Model_order_24 rfl rfl ?_
  refine z_getI C 0 0 rfl in_Model (by decide) w_741 rfl d_Model_order_25 hf (fun v10 hf => ?_)
  refine z_ic_gt (tgt := 118) C d_Model_order_28 (by decide) hf (fun hf => ?_) (fun hf => ?_)
  · refine z_iconst C (v := (-1 : Int32)) d_Model_order_118 (by decide) ?_
    exact z_iret C E (Nat.le_of_ble_eq_true rfl) (Nat.le_of_ble_eq_true rfl) d_Model_order_119 hf
  · refine z_iconst C (v := (0 : Int32)) d_Model_order_31 (by decide) ?_
    refine z_istore_n C (lv' := [(3, .int (0 : Int32)), (0, .ref x0), (1, .int x1), (2, .int x2)]) d_Model_order_32 rfl (by decide) rfl ?_
    refine z_iconst C (v := (0 : Int32)) d_Model_order_33 (by decide) ?_
    refine z_istore C (lv' := [(4, .int (0 : Int32)), (3, .int (0 : Int32)), (0, .ref x0), (1, .int x1), (2, .int x2)]) d_Model_order_34 (by decide) rfl ?_
    refine z_sub [2, 3, 4, 1, 0] rfl ?_
    exact k_Model_order_36 N C E H23 N _ _ _ _ _ _ hf

set_option maxHeartbeats 4000000 in
set_option maxRecDepth 100000 in
theorem k_Model_order (N : Nat) {X : zX} (C : zB X prog_10_method_46_code 5 R_Model rm_Model_order) {h0 : zH} {p : Int32 × zH} (E : zR X (some .int) rm_Model_order h0 (some (.int p.1)) p.2) : ∀ (x0 : Nat) (x1 : Int32) (h : zH), f_Model_order N x0 x1 h = some p → Zt X 5 0 0 0 [(0, .ref x0), (1, .int x1)] [] h := by
  intro x0 x1 h hf
  unfold f_Model_order at hf
  refine z_aload_n C 0 d_Model_order_0 rfl rfl ?_
  refine z_getI C 0 24 rfl in_Model (by decide) w_765 rfl d_Model_order_1 hf (fun v11 hf => ?_)
  refine z_if_eq (tgt := 19) C d_Model_order_4 (by decide) hf (fun hf => ?_) (fun hf => ?_)
  · refine z_iconst C (v := (-1 : Int32)) d_Model_order_19 (by decide) ?_
    exact z_iret C E (Nat.le_of_ble_eq_true rfl) (Nat.le_of_ble_eq_true rfl) d_Model_order_20 hf
  · refine z_iload_n C 1 d_Model_order_7 rfl rfl ?_
    refine z_if_lt (tgt := 19) C d_Model_order_8 (by decide) hf (fun hf => ?_) (fun hf => ?_)
    · refine z_iconst C (v := (-1 : Int32)) d_Model_order_19 (by decide) ?_
      exact z_iret C E (Nat.le_of_ble_eq_true rfl) (Nat.le_of_ble_eq_true rfl) d_Model_order_20 hf
    · refine z_iload_n C 1 d_Model_order_11 rfl rfl ?_
      refine z_aload_n C 0 d_Model_order_12 rfl rfl ?_
      refine z_getI C 0 0 rfl in_Model (by decide) w_741 rfl d_Model_order_13 hf (fun v12 hf => ?_)
      refine z_ic_le (tgt := 21) C d_Model_order_16 (by decide) hf (fun hf => ?_) (fun hf => ?_)
      · refine z_iconst C (v := (0 : Int32)) d_Model_order_21 (by decide) ?_
        refine z_istore_n C (lv' := [(2, .int (0 : Int32)), (0, .ref x0), (1, .int x1)]) d_Model_order_22 rfl (by decide) rfl ?_
        refine z_sub [1, 2, 0] rfl ?_
        exact k_Model_order_23 N C E N _ _ _ _ hf
      · refine z_iconst C (v := (-1 : Int32)) d_Model_order_19 (by decide) ?_
        exact z_iret C E (Nat.le_of_ble_eq_true rfl) (Nat.le_of_ble_eq_true rfl) d_Model_order_20 hf

theorem c_Model_order (N : Nat) {l : Launch} {D : va_G} {T : List (ClassId × FieldType)} (hT : T.map (fun q => q.2) = ztl) {x0 : Nat} {x1 : Int32} {h : zH} {p : Int32 × zH} (hf : f_Model_order N x0 x1 h = some p) : zM l y_Model_order prog_10_method_46_code 5 (some .int) rm_Model_order D T [.ref x0, .int x1] h (some (.int p.1)) p.2 :=
  z_enter (by decide) hT (Nat.le_of_ble_eq_true rfl) (fun X el eD eT hin C E => k_Model_order N C E x0 x1 h hf)
/-! ===== LevelTablesModel.other(I)J ===== -/
abbrev y_Model_other : MethodName := ⟨R_Model, "other", "(I)J"⟩
theorem pd_Model_other : y_Model_other.cls ≠ "java/lang/invoke/MethodHandle" ∧ y_Model_other.cls ≠ "java/lang/invoke/VarHandle" ∧ (parseMethodDescriptor y_Model_other.desc).map (fun d => d.parameters.length) = some 1 := ⟨by decide +kernel, by decide +kernel, by decide +kernel⟩
abbrev rm_Model_other : Room := { frames := 5, cells := 0, slots := 0, locals := 120 }
def f_Model_other_31 (N : Nat) (x0 : Nat) (x1 : Int32) (h : zH) : Option (Int64 × zH) :=
  Option.bind (zgI h x0 0 20) fun (v1 : Int32) =>
  (if v1 ≤ x1 then
    some ((-1 : Int64), h)
  else
    Option.bind (zgR h x0 0 21) fun (v2 : Nat) =>
    Option.bind (zaJ h 1 v2 x1) fun (v3 : Int64) =>
    some (v3, h))
def f_Model_other (N : Nat) (x0 : Nat) (x1 : Int32) (h : zH) : Option (Int64 × zH) :=
  Option.bind (zgI h x0 0 24) fun (v4 : Int32) =>
  (if v4 = 0 then
    some ((-1 : Int64), h)
  else
    (if x1 < 0 then
      some ((-1 : Int64), h)
    else
      (if x1 ≤ (5 : Int32) then
        Option.bind (zgI h x0 0 19) fun (v5 : Int32) =>
        (if v5 = 0 then
          Option.bind (zck (zis h x0 0) (f_Model_listAll N x0  h)) fun (p6 : Unit × zH) =>
          f_Model_other_31 N x0 x1 p6.2
        else
          f_Model_other_31 N x0 x1 h)
      else
        some ((-1 : Int64), h))))
theorem d_Model_other_0 : decode prog_10_method_35_code 0 = .ok (.aload_n (0), 1) := by decide +kernel
theorem d_Model_other_1 : decode prog_10_method_35_code 1 = .ok (.getfield (95), 3) := by decide +kernel
theorem d_Model_other_4 : decode prog_10_method_35_code 4 = .ok (.ifCond .eq (12), 3) := by decide +kernel
theorem d_Model_other_7 : decode prog_10_method_35_code 7 = .ok (.iload_n (1), 1) := by decide +kernel
theorem d_Model_other_8 : decode prog_10_method_35_code 8 = .ok (.ifCond .lt (8), 3) := by decide +kernel
theorem d_Model_other_11 : decode prog_10_method_35_code 11 = .ok (.iload_n (1), 1) := by decide +kernel
theorem d_Model_other_12 : decode prog_10_method_35_code 12 = .ok (.iconst (5), 1) := by decide +kernel
theorem d_Model_other_13 : decode prog_10_method_35_code 13 = .ok (.if_icmp .le (7), 3) := by decide +kernel
theorem d_Model_other_16 : decode prog_10_method_35_code 16 = .ok (.ldc2_w (137), 3) := by decide +kernel
theorem d_Model_other_19 : decode prog_10_method_35_code 19 = .ok (.lreturn, 1) := by decide +kernel
theorem d_Model_other_20 : decode prog_10_method_35_code 20 = .ok (.aload_n (0), 1) := by decide +kernel
theorem d_Model_other_21 : decode prog_10_method_35_code 21 = .ok (.getfield (99), 3) := by decide +kernel
theorem d_Model_other_24 : decode prog_10_method_35_code 24 = .ok (.ifCond .ne (7), 3) := by decide +kernel
theorem d_Model_other_27 : decode prog_10_method_35_code 27 = .ok (.aload_n (0), 1) := by decide +kernel
theorem d_Model_other_28 : decode prog_10_method_35_code 28 = .ok (.invokevirtual (203), 3) := by decide +kernel
theorem d_Model_other_31 : decode prog_10_method_35_code 31 = .ok (.iload_n (1), 1) := by decide +kernel
theorem d_Model_other_32 : decode prog_10_method_35_code 32 = .ok (.aload_n (0), 1) := by decide +kernel
theorem d_Model_other_33 : decode prog_10_method_35_code 33 = .ok (.getfield (200), 3) := by decide +kernel
theorem d_Model_other_36 : decode prog_10_method_35_code 36 = .ok (.if_icmp .ge (12), 3) := by decide +kernel
theorem d_Model_other_39 : decode prog_10_method_35_code 39 = .ok (.aload_n (0), 1) := by decide +kernel
theorem d_Model_other_40 : decode prog_10_method_35_code 40 = .ok (.getfield (58), 3) := by decide +kernel
theorem d_Model_other_43 : decode prog_10_method_35_code 43 = .ok (.iload_n (1), 1) := by decide +kernel
theorem d_Model_other_44 : decode prog_10_method_35_code 44 = .ok (.laload, 1) := by decide +kernel
theorem d_Model_other_45 : decode prog_10_method_35_code 45 = .ok (.goto (6), 3) := by decide +kernel
theorem d_Model_other_48 : decode prog_10_method_35_code 48 = .ok (.ldc2_w (137), 3) := by decide +kernel
theorem d_Model_other_51 : decode prog_10_method_35_code 51 = .ok (.lreturn, 1) := by decide +kernel
set_option maxHeartbeats 4000000 in
set_option maxRecDepth 100000 in
theorem k_Model_other_31 (N : Nat) {X : zX} (C : zB X prog_10_method_35_code 2 R_Model rm_Model_other) {h0 : zH} {p : Int64 × zH} (E : zR X (some .long) rm_Model_other h0 (some (.long p.1)) p.2) : ∀ (x0 : Nat) (x1 : Int32) (h : zH), f_Model_other_31 N x0 x1 h = some p → Zt X 2 0 0 31 [(0, .ref x0), (1, .int x1)] [] h := by
  intro x0 x1 h hf
  unfold f_Model_other_31 at hf
  refine z_iload_n C 1 d_Model_other_31 rfl rfl ?_
  refine z_aload_n C 0 d_Model_other_32 rfl rfl ?_
  refine z_getI C 0 20 rfl in_Model (by decide) w_761 rfl d_Model_other_33 hf (fun v1 hf => ?_)
  refine z_ic_ge (tgt := 48) C d_Model_other_36 (by decide) hf (fun hf => ?_) (fun hf => ?_)
  · refine z_ldc2 C d_Model_other_48 w_924 ?_
    exact z_lret C E (Nat.le_of_ble_eq_true rfl) (Nat.le_of_ble_eq_true rfl) d_Model_other_51 hf
  · refine z_aload_n C 0 d_Model_other_39 rfl rfl ?_
    refine z_getR C 0 21 rfl in_Model (by decide) w_762 rfl d_Model_other_40 hf (fun v2 hf => ?_)
    refine z_iload_n C 1 d_Model_other_43 rfl rfl ?_
    refine z_lald C d_Model_other_44 hf (fun v3 hf => ?_)
    refine z_goto (tgt := 51) C d_Model_other_45 (by decide) ?_
    exact z_lret C E (Nat.le_of_ble_eq_true rfl) (Nat.le_of_ble_eq_true rfl) d_Model_other_51 hf

set_option maxHeartbeats 4000000 in
set_option maxRecDepth 100000 in
theorem k_Model_other (N : Nat) {X : zX} (C : zB X prog_10_method_35_code 2 R_Model rm_Model_other) {h0 : zH} {p : Int64 × zH} (E : zR X (some .long) rm_Model_other h0 (some (.long p.1)) p.2) : ∀ (x0 : Nat) (x1 : Int32) (h : zH), f_Model_other N x0 x1 h = some p → Zt X 2 0 0 0 [(0, .ref x0), (1, .int x1)] [] h := by
  intro x0 x1 h hf
  unfold f_Model_other at hf
  refine z_aload_n C 0 d_Model_other_0 rfl rfl ?_
  refine z_getI C 0 24 rfl in_Model (by decide) w_765 rfl d_Model_other_1 hf (fun v4 hf => ?_)
  refine z_if_eq (tgt := 16) C d_Model_other_4 (by decide) hf (fun hf => ?_) (fun hf => ?_)
  · refine z_ldc2 C d_Model_other_16 w_924 ?_
    exact z_lret C E (Nat.le_of_ble_eq_true rfl) (Nat.le_of_ble_eq_true rfl) d_Model_other_19 hf
  · refine z_iload_n C 1 d_Model_other_7 rfl rfl ?_
    refine z_if_lt (tgt := 16) C d_Model_other_8 (by decide) hf (fun hf => ?_) (fun hf => ?_)
    · refine z_ldc2 C d_Model_other_16 w_924 ?_
      exact z_lret C E (Nat.le_of_ble_eq_true rfl) (Nat.le_of_ble_eq_true rfl) d_Model_other_19 hf
    · refine z_iload_n C 1 d_Model_other_11 rfl rfl ?_
      refine z_iconst C (v := (5 : Int32)) d_Model_other_12 (by decide) ?_
      refine z_ic_le (tgt := 20) C d_Model_other_13 (by decide) hf (fun hf => ?_) (fun hf => ?_)
      · refine z_aload_n C 0 d_Model_other_20 rfl rfl ?_
        refine z_getI C 0 19 rfl in_Model (by decide) w_760 rfl d_Model_other_21 hf (fun v5 hf => ?_)
        refine z_if_ne (tgt := 31) C d_Model_other_24 (by decide) hf (fun hf => ?_) (fun hf => ?_)
        · refine z_sub [0, 1] rfl ?_
          exact k_Model_other_31 N C E _ _ _ hf
        · refine z_aload_n C 0 d_Model_other_27 rfl rfl ?_
          obtain ⟨p6, hc, hf⟩ := Option.bind_eq_some_iff.mp hf
          obtain ⟨hz, hc⟩ := zck_some hc
          refine z_callV C (ci := 0) (c_Model_listAll N C.2.2.1 hc) rfl hz w_972 w_66 w_969 w_971 w_48 pd_Model_listAll rfl ⟨(Nat.le_of_ble_eq_true rfl), (Nat.le_of_ble_eq_true rfl)⟩ ⟨(Nat.le_of_ble_eq_true rfl), (Nat.le_of_ble_eq_true rfl)⟩ rfl (Nat.le_of_ble_eq_true rfl) d_Model_other_28 (k' := 0) (n' := 0) (stk' := []) rfl rfl rfl ?_
          refine z_sub [0, 1] rfl ?_
          exact k_Model_other_31 N C E _ _ _ hf
      · refine z_ldc2 C d_Model_other_16 w_924 ?_
        exact z_lret C E (Nat.le_of_ble_eq_true rfl) (Nat.le_of_ble_eq_true rfl) d_Model_other_19 hf

theorem c_Model_other (N : Nat) {l : Launch} {D : va_G} {T : List (ClassId × FieldType)} (hT : T.map (fun q => q.2) = ztl) {x0 : Nat} {x1 : Int32} {h : zH} {p : Int64 × zH} (hf : f_Model_other N x0 x1 h = some p) : zM l y_Model_other prog_10_method_35_code 2 (some .long) rm_Model_other D T [.ref x0, .int x1] h (some (.long p.1)) p.2 :=
  z_enter (by decide) hT (Nat.le_of_ble_eq_true rfl) (fun X el eD eT hin C E => k_Model_other N C E x0 x1 h hf)
