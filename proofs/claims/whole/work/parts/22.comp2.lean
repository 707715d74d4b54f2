/-! ===== LevelTables.curveAt(II)J ===== -/
abbrev y_LT_curveAt : MethodName := ⟨R_LT, "curveAt", "(II)J"⟩
theorem pd_LT_curveAt : y_LT_curveAt.cls ≠ "java/lang/invoke/MethodHandle" ∧ y_LT_curveAt.cls ≠ "java/lang/invoke/VarHandle" ∧ (parseMethodDescriptor y_LT_curveAt.desc).map (fun d => d.parameters.length) = some 2 := ⟨by decide +kernel, by decide +kernel, by decide +kernel⟩
abbrev rm_LT_curveAt : Room := { frames := 1, cells := 0, slots := 0, locals := 21 }
def f_LT_curveAt (N : Nat) (x0 : Nat) (x1 : Int32) (x2 : Int32) (h : zH) : Option (Int64 × zH) :=
  Option.bind (zgR h x0 1 3) fun (v1 : Nat) =>
  Option.bind (zgI h v1 5 4) fun (v2 : Int32) =>
  (if v2 = 0 then
    some ((-1 : Int64), h)
  else
    (if x1 < (1 : Int32) then
      some ((-1 : Int64), h)
    else
      Option.bind (zgR h x0 1 0) fun (v3 : Nat) =>
      Option.bind (zgI h v3 2 0) fun (v4 : Int32) =>
      (if v4 ≤ x1 then
        some ((-1 : Int64), h)
      else
        Option.bind (f_LT_within N x2 (8 : Int32) h) fun (p5 : Int32 × zH) =>
        (if p5.1 = 0 then
          some ((-1 : Int64), p5.2)
        else
          Option.bind (zgR p5.2 x0 1 4) fun (v6 : Nat) =>
          Option.bind (zgR p5.2 v6 6 0) fun (v7 : Nat) =>
          Option.bind (zaI p5.2 0 v7 x1) fun (v8 : Int32) =>
          (if v8 = 0 then
            some ((-1 : Int64), p5.2)
          else
            Option.bind (zgR p5.2 x0 1 3) fun (v9 : Nat) =>
            Option.bind (zck (zis p5.2 v9 5) (f_Table_slopeOf N v9 (x1 - (1 : Int32)) p5.2)) fun (p10 : Int32 × zH) =>
            Option.bind (zgR p10.2 x0 1 3) fun (v11 : Nat) =>
            Option.bind (zck (zis p10.2 v11 5) (f_Table_slopeOf N v11 x1 p10.2)) fun (p12 : Int32 × zH) =>
            Option.bind (zgR p12.2 x0 1 3) fun (v13 : Nat) =>
            Option.bind (zgR p12.2 v13 5 2) fun (v14 : Nat) =>
            Option.bind (zaI p12.2 0 v14 x1) fun (v15 : Int32) =>
            some ((((Int32.toInt64 v15) * (64000 : Int64)) + ((Int32.toInt64 v8) * (((((16 : Int64) * (Int32.toInt64 p10.1)) * (Int32.toInt64 x2)) - ((64 : Int64) * (Int32.toInt64 p10.1))) + ((((Int32.toInt64 p12.1) - (Int32.toInt64 p10.1)) * (Int32.toInt64 x2)) * (Int32.toInt64 x2))))), p12.2))))))
theorem d_LT_curveAt_0 : decode prog_1_method_15_code 0 = .ok (.aload_n (0), 1) := by decide +kernel
theorem d_LT_curveAt_1 : decode prog_1_method_15_code 1 = .ok (.getfield (48), 3) := by decide +kernel
theorem d_LT_curveAt_4 : decode prog_1_method_15_code 4 = .ok (.getfield (150), 3) := by decide +kernel
theorem d_LT_curveAt_7 : decode prog_1_method_15_code 7 = .ok (.ifCond .eq (28), 3) := by decide +kernel
theorem d_LT_curveAt_10 : decode prog_1_method_15_code 10 = .ok (.iload_n (1), 1) := by decide +kernel
theorem d_LT_curveAt_11 : decode prog_1_method_15_code 11 = .ok (.iconst (1), 1) := by decide +kernel
theorem d_LT_curveAt_12 : decode prog_1_method_15_code 12 = .ok (.if_icmp .lt (23), 3) := by decide +kernel
theorem d_LT_curveAt_15 : decode prog_1_method_15_code 15 = .ok (.iload_n (1), 1) := by decide +kernel
theorem d_LT_curveAt_16 : decode prog_1_method_15_code 16 = .ok (.aload_n (0), 1) := by decide +kernel
theorem d_LT_curveAt_17 : decode prog_1_method_15_code 17 = .ok (.getfield (23), 3) := by decide +kernel
theorem d_LT_curveAt_20 : decode prog_1_method_15_code 20 = .ok (.getfield (183), 3) := by decide +kernel
theorem d_LT_curveAt_23 : decode prog_1_method_15_code 23 = .ok (.if_icmp .ge (12), 3) := by decide +kernel
theorem d_LT_curveAt_26 : decode prog_1_method_15_code 26 = .ok (.iload_n (2), 1) := by decide +kernel
theorem d_LT_curveAt_27 : decode prog_1_method_15_code 27 = .ok (.bipush (8), 2) := by decide +kernel
theorem d_LT_curveAt_29 : decode prog_1_method_15_code 29 = .ok (.invokestatic (83), 3) := by decide +kernel
theorem d_LT_curveAt_32 : decode prog_1_method_15_code 32 = .ok (.ifCond .ne (7), 3) := by decide +kernel
theorem d_LT_curveAt_35 : decode prog_1_method_15_code 35 = .ok (.ldc2_w (161), 3) := by decide +kernel
theorem d_LT_curveAt_38 : decode prog_1_method_15_code 38 = .ok (.lreturn, 1) := by decide +kernel
theorem d_LT_curveAt_39 : decode prog_1_method_15_code 39 = .ok (.aload_n (0), 1) := by decide +kernel
theorem d_LT_curveAt_40 : decode prog_1_method_15_code 40 = .ok (.getfield (57), 3) := by decide +kernel
theorem d_LT_curveAt_43 : decode prog_1_method_15_code 43 = .ok (.getfield (193), 3) := by decide +kernel
theorem d_LT_curveAt_46 : decode prog_1_method_15_code 46 = .ok (.iload_n (1), 1) := by decide +kernel
theorem d_LT_curveAt_47 : decode prog_1_method_15_code 47 = .ok (.iaload, 1) := by decide +kernel
theorem d_LT_curveAt_48 : decode prog_1_method_15_code 48 = .ok (.istore_n (3), 1) := by decide +kernel
theorem d_LT_curveAt_49 : decode prog_1_method_15_code 49 = .ok (.iload_n (3), 1) := by decide +kernel
theorem d_LT_curveAt_50 : decode prog_1_method_15_code 50 = .ok (.ifCond .ne (7), 3) := by decide +kernel
theorem d_LT_curveAt_53 : decode prog_1_method_15_code 53 = .ok (.ldc2_w (161), 3) := by decide +kernel
theorem d_LT_curveAt_56 : decode prog_1_method_15_code 56 = .ok (.lreturn, 1) := by decide +kernel
theorem d_LT_curveAt_57 : decode prog_1_method_15_code 57 = .ok (.aload_n (0), 1) := by decide +kernel
theorem d_LT_curveAt_58 : decode prog_1_method_15_code 58 = .ok (.getfield (48), 3) := by decide +kernel
theorem d_LT_curveAt_61 : decode prog_1_method_15_code 61 = .ok (.iload_n (1), 1) := by decide +kernel
theorem d_LT_curveAt_62 : decode prog_1_method_15_code 62 = .ok (.iconst (1), 1) := by decide +kernel
theorem d_LT_curveAt_63 : decode prog_1_method_15_code 63 = .ok (.isub, 1) := by decide +kernel
theorem d_LT_curveAt_64 : decode prog_1_method_15_code 64 = .ok (.invokevirtual (196), 3) := by decide +kernel
theorem d_LT_curveAt_67 : decode prog_1_method_15_code 67 = .ok (.i2l, 1) := by decide +kernel
theorem d_LT_curveAt_68 : decode prog_1_method_15_code 68 = .ok (.lstore (4), 2) := by decide +kernel
theorem d_LT_curveAt_70 : decode prog_1_method_15_code 70 = .ok (.aload_n (0), 1) := by decide +kernel
theorem d_LT_curveAt_71 : decode prog_1_method_15_code 71 = .ok (.getfield (48), 3) := by decide +kernel
theorem d_LT_curveAt_74 : decode prog_1_method_15_code 74 = .ok (.iload_n (1), 1) := by decide +kernel
theorem d_LT_curveAt_75 : decode prog_1_method_15_code 75 = .ok (.invokevirtual (196), 3) := by decide +kernel
theorem d_LT_curveAt_78 : decode prog_1_method_15_code 78 = .ok (.i2l, 1) := by decide +kernel
theorem d_LT_curveAt_79 : decode prog_1_method_15_code 79 = .ok (.lstore (6), 2) := by decide +kernel
theorem d_LT_curveAt_81 : decode prog_1_method_15_code 81 = .ok (.ldc2_w (199), 3) := by decide +kernel
theorem d_LT_curveAt_84 : decode prog_1_method_15_code 84 = .ok (.lload (4), 2) := by decide +kernel
theorem d_LT_curveAt_86 : decode prog_1_method_15_code 86 = .ok (.lmul, 1) := by decide +kernel
theorem d_LT_curveAt_87 : decode prog_1_method_15_code 87 = .ok (.iload_n (2), 1) := by decide +kernel
theorem d_LT_curveAt_88 : decode prog_1_method_15_code 88 = .ok (.i2l, 1) := by decide +kernel
theorem d_LT_curveAt_89 : decode prog_1_method_15_code 89 = .ok (.lmul, 1) := by decide +kernel
theorem d_LT_curveAt_90 : decode prog_1_method_15_code 90 = .ok (.ldc2_w (201), 3) := by decide +kernel
theorem d_LT_curveAt_93 : decode prog_1_method_15_code 93 = .ok (.lload (4), 2) := by decide +kernel
theorem d_LT_curveAt_95 : decode prog_1_method_15_code 95 = .ok (.lmul, 1) := by decide +kernel
theorem d_LT_curveAt_96 : decode prog_1_method_15_code 96 = .ok (.lsub, 1) := by decide +kernel
theorem d_LT_curveAt_97 : decode prog_1_method_15_code 97 = .ok (.lload (6), 2) := by decide +kernel
theorem d_LT_curveAt_99 : decode prog_1_method_15_code 99 = .ok (.lload (4), 2) := by decide +kernel
theorem d_LT_curveAt_101 : decode prog_1_method_15_code 101 = .ok (.lsub, 1) := by decide +kernel
theorem d_LT_curveAt_102 : decode prog_1_method_15_code 102 = .ok (.iload_n (2), 1) := by decide +kernel
theorem d_LT_curveAt_103 : decode prog_1_method_15_code 103 = .ok (.i2l, 1) := by decide +kernel
theorem d_LT_curveAt_104 : decode prog_1_method_15_code 104 = .ok (.lmul, 1) := by decide +kernel
theorem d_LT_curveAt_105 : decode prog_1_method_15_code 105 = .ok (.iload_n (2), 1) := by decide +kernel
theorem d_LT_curveAt_106 : decode prog_1_method_15_code 106 = .ok (.i2l, 1) := by decide +kernel
theorem d_LT_curveAt_107 : decode prog_1_method_15_code 107 = .ok (.lmul, 1) := by decide +kernel
theorem d_LT_curveAt_108 : decode prog_1_method_15_code 108 = .ok (.ladd, 1) := by decide +kernel
theorem d_LT_curveAt_109 : decode prog_1_method_15_code 109 = .ok (.lstore (8), 2) := by decide +kernel
theorem d_LT_curveAt_111 : decode prog_1_method_15_code 111 = .ok (.aload_n (0), 1) := by decide +kernel
theorem d_LT_curveAt_112 : decode prog_1_method_15_code 112 = .ok (.getfield (48), 3) := by decide +kernel
theorem d_LT_curveAt_115 : decode prog_1_method_15_code 115 = .ok (.getfield (154), 3) := by decide +kernel
theorem d_LT_curveAt_118 : decode prog_1_method_15_code 118 = .ok (.iload_n (1), 1) := by decide +kernel
theorem d_LT_curveAt_119 : decode prog_1_method_15_code 119 = .ok (.iaload, 1) := by decide +kernel
theorem d_LT_curveAt_120 : decode prog_1_method_15_code 120 = .ok (.i2l, 1) := by decide +kernel
theorem d_LT_curveAt_121 : decode prog_1_method_15_code 121 = .ok (.ldc2_w (203), 3) := by decide +kernel
theorem d_LT_curveAt_124 : decode prog_1_method_15_code 124 = .ok (.lmul, 1) := by decide +kernel
theorem d_LT_curveAt_125 : decode prog_1_method_15_code 125 = .ok (.iload_n (3), 1) := by decide +kernel
theorem d_LT_curveAt_126 : decode prog_1_method_15_code 126 = .ok (.i2l, 1) := by decide +kernel
theorem d_LT_curveAt_127 : decode prog_1_method_15_code 127 = .ok (.lload (8), 2) := by decide +kernel
theorem d_LT_curveAt_129 : decode prog_1_method_15_code 129 = .ok (.lmul, 1) := by decide +kernel
theorem d_LT_curveAt_130 : decode prog_1_method_15_code 130 = .ok (.ladd, 1) := by decide +kernel
theorem d_LT_curveAt_131 : decode prog_1_method_15_code 131 = .ok (.lreturn, 1) := by decide +kernel
set_option maxHeartbeats 4000000 in
set_option maxRecDepth 100000 in
theorem k_LT_curveAt (N : Nat) {X : zX} (C : zB X prog_1_method_15_code 10 R_LT rm_LT_curveAt) {h0 : zH} {p : Int64 × zH} (E : zR X (some .long) rm_LT_curveAt h0 (some (.long p.1)) p.2) : ∀ (x0 : Nat) (x1 : Int32) (x2 : Int32) (h : zH), f_LT_curveAt N x0 x1 x2 h = some p → Zt X 10 0 0 0 [(0, .ref x0), (1, .int x1), (2, .int x2)] [] h := by
  intro x0 x1 x2 h hf
  unfold f_LT_curveAt at hf
  refine z_aload_n C 0 d_LT_curveAt_0 rfl rfl ?_
  refine z_getR C 1 3 rfl in_LT (by decide) w_269 rfl d_LT_curveAt_1 hf (fun v1 hf => ?_)
  refine z_getI C 5 4 rfl in_Table (by decide) w_205 rfl d_LT_curveAt_4 hf (fun v2 hf => ?_)
  refine z_if_eq (tgt := 35) C d_LT_curveAt_7 (by decide) hf (fun hf => ?_) (fun hf => ?_)
  · refine z_ldc2 C d_LT_curveAt_35 w_592 ?_
    exact z_lret C E (Nat.le_of_ble_eq_true rfl) (Nat.le_of_ble_eq_true rfl) d_LT_curveAt_38 hf
  · refine z_iload_n C 1 d_LT_curveAt_10 rfl rfl ?_
    refine z_iconst C (v := (1 : Int32)) d_LT_curveAt_11 (by decide) ?_
    refine z_ic_lt (tgt := 35) C d_LT_curveAt_12 (by decide) hf (fun hf => ?_) (fun hf => ?_)
    · refine z_ldc2 C d_LT_curveAt_35 w_592 ?_
      exact z_lret C E (Nat.le_of_ble_eq_true rfl) (Nat.le_of_ble_eq_true rfl) d_LT_curveAt_38 hf
    · refine z_iload_n C 1 d_LT_curveAt_15 rfl rfl ?_
      refine z_aload_n C 0 d_LT_curveAt_16 rfl rfl ?_
      refine z_getR C 1 0 rfl in_LT (by decide) w_266 rfl d_LT_curveAt_17 hf (fun v3 hf => ?_)
      refine z_getI C 2 0 rfl in_Site (by decide) w_97 rfl d_LT_curveAt_20 hf (fun v4 hf => ?_)
      refine z_ic_ge (tgt := 35) C d_LT_curveAt_23 (by decide) hf (fun hf => ?_) (fun hf => ?_)
      · refine z_ldc2 C d_LT_curveAt_35 w_592 ?_
        exact z_lret C E (Nat.le_of_ble_eq_true rfl) (Nat.le_of_ble_eq_true rfl) d_LT_curveAt_38 hf
      · refine z_iload_n C 2 d_LT_curveAt_26 rfl rfl ?_
        refine z_bipush C (v := (8 : Int32)) d_LT_curveAt_27 (by decide) ?_
        obtain ⟨p5, hc, hf⟩ := Option.bind_eq_some_iff.mp hf
        refine z_callS C (c_LT_within N C.2.2.1 hc) w_325 w_57 w_323 w_324 pd_LT_within rfl ⟨(Nat.le_of_ble_eq_true rfl), (Nat.le_of_ble_eq_true rfl)⟩ ⟨(Nat.le_of_ble_eq_true rfl), (Nat.le_of_ble_eq_true rfl)⟩ rfl (Nat.le_of_ble_eq_true rfl) d_LT_curveAt_29 (k' := 0) (n' := 0) (stk' := [.int p5.1]) rfl rfl rfl ?_
        refine z_if_ne (tgt := 39) C d_LT_curveAt_32 (by decide) hf (fun hf => ?_) (fun hf => ?_)
        · refine z_aload_n C 0 d_LT_curveAt_39 rfl rfl ?_
          refine z_getR C 1 4 rfl in_LT (by decide) w_270 rfl d_LT_curveAt_40 hf (fun v6 hf => ?_)
          refine z_getR C 6 0 rfl in_Curves (by decide) w_235 rfl d_LT_curveAt_43 hf (fun v7 hf => ?_)
          refine z_iload_n C 1 d_LT_curveAt_46 rfl rfl ?_
          refine z_iald C d_LT_curveAt_47 hf (fun v8 hf => ?_)
          refine z_istore_n C (lv' := [(3, .int v8), (0, .ref x0), (1, .int x1), (2, .int x2)]) d_LT_curveAt_48 rfl (by decide) rfl ?_
          refine z_iload_n C 0 d_LT_curveAt_49 rfl rfl ?_
          refine z_if_ne (tgt := 57) C d_LT_curveAt_50 (by decide) hf (fun hf => ?_) (fun hf => ?_)
          · refine z_aload_n C 1 d_LT_curveAt_57 rfl rfl ?_
            refine z_getR C 1 3 rfl in_LT (by decide) w_269 rfl d_LT_curveAt_58 hf (fun v9 hf => ?_)
            refine z_iload_n C 2 d_LT_curveAt_61 rfl rfl ?_
            refine z_iconst C (v := (1 : Int32)) d_LT_curveAt_62 (by decide) ?_
            refine z_isub C d_LT_curveAt_63 ?_
            obtain ⟨p10, hc, hf⟩ := Option.bind_eq_some_iff.mp hf
            obtain ⟨hz, hc⟩ := zck_some hc
            refine z_callV C (ci := 5) (c_Table_slopeOf N C.2.2.1 hc) rfl hz w_569 w_63 w_618 w_567 w_568 pd_Table_slopeOf rfl ⟨(Nat.le_of_ble_eq_true rfl), (Nat.le_of_ble_eq_true rfl)⟩ ⟨(Nat.le_of_ble_eq_true rfl), (Nat.le_of_ble_eq_true rfl)⟩ rfl (Nat.le_of_ble_eq_true rfl) d_LT_curveAt_64 (k' := 0) (n' := 0) (stk' := [.int p10.1]) rfl rfl rfl ?_
            refine z_i2l C d_LT_curveAt_67 ?_
            refine z_lstore C (lv' := [(4, .long (Int32.toInt64 p10.1)), (3, .int v8), (0, .ref x0), (1, .int x1), (2, .int x2)]) d_LT_curveAt_68 (by decide) rfl ?_
            refine z_aload_n C 2 d_LT_curveAt_70 rfl rfl ?_
            refine z_getR C 1 3 rfl in_LT (by decide) w_269 rfl d_LT_curveAt_71 hf (fun v11 hf => ?_)
            refine z_iload_n C 3 d_LT_curveAt_74 rfl rfl ?_
            obtain ⟨p12, hc, hf⟩ := Option.bind_eq_some_iff.mp hf
            obtain ⟨hz, hc⟩ := zck_some hc
            refine z_callV C (ci := 5) (c_Table_slopeOf N C.2.2.1 hc) rfl hz w_569 w_63 w_618 w_567 w_568 pd_Table_slopeOf rfl ⟨(Nat.le_of_ble_eq_true rfl), (Nat.le_of_ble_eq_true rfl)⟩ ⟨(Nat.le_of_ble_eq_true rfl), (Nat.le_of_ble_eq_true rfl)⟩ rfl (Nat.le_of_ble_eq_true rfl) d_LT_curveAt_75 (k' := 0) (n' := 0) (stk' := [.int p12.1]) rfl rfl rfl ?_
            refine z_i2l C d_LT_curveAt_78 ?_
            refine z_lstore C (lv' := [(6, .long (Int32.toInt64 p12.1)), (4, .long (Int32.toInt64 p10.1)), (3, .int v8), (0, .ref x0), (1, .int x1), (2, .int x2)]) d_LT_curveAt_79 (by decide) rfl ?_
            refine z_ldc2 C d_LT_curveAt_81 w_637 ?_
            refine z_lload C 1 d_LT_curveAt_84 rfl ?_
            refine z_lmul C d_LT_curveAt_86 ?_
            refine z_iload_n C 5 d_LT_curveAt_87 rfl rfl ?_
            refine z_i2l C d_LT_curveAt_88 ?_
            refine z_lmul C d_LT_curveAt_89 ?_
            refine z_ldc2 C d_LT_curveAt_90 w_638 ?_
            refine z_lload C 1 d_LT_curveAt_93 rfl ?_
            refine z_lmul C d_LT_curveAt_95 ?_
            refine z_lsub C d_LT_curveAt_96 ?_
            refine z_lload C 0 d_LT_curveAt_97 rfl ?_
            refine z_lload C 1 d_LT_curveAt_99 rfl ?_
            refine z_lsub C d_LT_curveAt_101 ?_
            refine z_iload_n C 5 d_LT_curveAt_102 rfl rfl ?_
            refine z_i2l C d_LT_curveAt_103 ?_
            refine z_lmul C d_LT_curveAt_104 ?_
            refine z_iload_n C 5 d_LT_curveAt_105 rfl rfl ?_
            refine z_i2l C d_LT_curveAt_106 ?_
            refine z_lmul C d_LT_curveAt_107 ?_
            refine z_ladd C d_LT_curveAt_108 ?_
            refine z_lstore C (lv' := [(8, .long (((((16 : Int64) * (Int32.toInt64 p10.1)) * (Int32.toInt64 x2)) - ((64 : Int64) * (Int32.toInt64 p10.1))) + ((((Int32.toInt64 p12.1) - (Int32.toInt64 p10.1)) * (Int32.toInt64 x2)) * (Int32.toInt64 x2)))), (6, .long (Int32.toInt64 p12.1)), (4, .long (Int32.toInt64 p10.1)), (3, .int v8), (0, .ref x0), (1, .int x1), (2, .int x2)]) d_LT_curveAt_109 (by decide) rfl ?_
            refine z_aload_n C 4 d_LT_curveAt_111 rfl rfl ?_
            refine z_getR C 1 3 rfl in_LT (by decide) w_269 rfl d_LT_curveAt_112 hf (fun v13 hf => ?_)
            refine z_getR C 5 2 rfl in_Table (by decide) w_199 rfl d_LT_curveAt_115 hf (fun v14 hf => ?_)
            refine z_iload_n C 5 d_LT_curveAt_118 rfl rfl ?_
            refine z_iald C d_LT_curveAt_119 hf (fun v15 hf => ?_)
            refine z_i2l C d_LT_curveAt_120 ?_
            refine z_ldc2 C d_LT_curveAt_121 w_639 ?_
            refine z_lmul C d_LT_curveAt_124 ?_
            refine z_iload_n C 3 d_LT_curveAt_125 rfl rfl ?_
            refine z_i2l C d_LT_curveAt_126 ?_
            refine z_lload C 0 d_LT_curveAt_127 rfl ?_
            refine z_lmul C d_LT_curveAt_129 ?_
            refine z_ladd C d_LT_curveAt_130 ?_
            exact z_lret C E (Nat.le_of_ble_eq_true rfl) (Nat.le_of_ble_eq_true rfl) d_LT_curveAt_131 hf
          · refine z_ldc2 C d_LT_curveAt_53 w_592 ?_
            exact z_lret C E (Nat.le_of_ble_eq_true rfl) (Nat.le_of_ble_eq_true rfl) d_LT_curveAt_56 hf
        · refine z_ldc2 C d_LT_curveAt_35 w_592 ?_
          exact z_lret C E (Nat.le_of_ble_eq_true rfl) (Nat.le_of_ble_eq_true rfl) d_LT_curveAt_38 hf

theorem c_LT_curveAt (N : Nat) {l : Launch} {D : va_G} {T : List (ClassId × FieldType)} (hT : T.map (fun q => q.2) = ztl) {x0 : Nat} {x1 : Int32} {x2 : Int32} {h : zH} {p : Int64 × zH} (hf : f_LT_curveAt N x0 x1 x2 h = some p) : zM l y_LT_curveAt prog_1_method_15_code 10 (some .long) rm_LT_curveAt D T [.ref x0, .int x1, .int x2] h (some (.long p.1)) p.2 :=
  z_enter (by decide) hT (Nat.le_of_ble_eq_true rfl) (fun X el eD eT hin C E => k_LT_curveAt N C E x0 x1 x2 h hf)
/-! ===== LevelTables.lorry(IIII)Z ===== -/
abbrev y_LT_lorry : MethodName := ⟨R_LT, "lorry", "(IIII)Z"⟩
theorem pd_LT_lorry : y_LT_lorry.cls ≠ "java/lang/invoke/MethodHandle" ∧ y_LT_lorry.cls ≠ "java/lang/invoke/VarHandle" ∧ (parseMethodDescriptor y_LT_lorry.desc).map (fun d => d.parameters.length) = some 4 := ⟨by decide +kernel, by decide +kernel, by decide +kernel⟩
abbrev rm_LT_lorry : Room := { frames := 1, cells := 0, slots := 0, locals := 21 }
def f_LT_lorry_25 (N : Nat) (x0 : Nat) (x1 : Int32) (x2 : Int32) (x3 : Int32) (x4 : Int32) (s0 : Int32) (h : zH) : Option (Int32 × zH) :=
  (if s0 = 0 then
    zrb (0 : Int32) h
  else
    Option.bind (f_LT_within N x3 (1000 : Int32) h) fun (p1 : Int32 × zH) =>
    (if p1.1 = 0 then
      zrb (0 : Int32) p1.2
    else
      Option.bind (f_LT_within N x4 (1000 : Int32) p1.2) fun (p2 : Int32 × zH) =>
      (if p2.1 = 0 then
        zrb (0 : Int32) p2.2
      else
        Option.bind (zgR p2.2 x0 1 5) fun (v3 : Nat) =>
        Option.bind (zp p2.2 v3 7 0 (.int x1)) fun (h4 : zH) =>
        Option.bind (zgR h4 x0 1 5) fun (v5 : Nat) =>
        Option.bind (zp h4 v5 7 1 (.int x2)) fun (h6 : zH) =>
        Option.bind (zgR h6 x0 1 5) fun (v7 : Nat) =>
        Option.bind (zp h6 v7 7 2 (.int x3)) fun (h8 : zH) =>
        Option.bind (zgR h8 x0 1 5) fun (v9 : Nat) =>
        Option.bind (zp h8 v9 7 3 (.int x4)) fun (h10 : zH) =>
        zrb (1 : Int32) h10)))
def f_LT_lorry_24 (N : Nat) (x0 : Nat) (x1 : Int32) (x2 : Int32) (x3 : Int32) (x4 : Int32) (h : zH) : Option (Int32 × zH) :=
  f_LT_lorry_25 N x0 x1 x2 x3 x4 (0 : Int32) h
def f_LT_lorry (N : Nat) (x0 : Nat) (x1 : Int32) (x2 : Int32) (x3 : Int32) (x4 : Int32) (h : zH) : Option (Int32 × zH) :=
  Option.bind (f_LT_within N x1 (1000 : Int32) h) fun (p11 : Int32 × zH) =>
  (if p11.1 = 0 then
    f_LT_lorry_24 N x0 x1 x2 x3 x4 p11.2
  else
    Option.bind (f_LT_within N x2 (1000 : Int32) p11.2) fun (p12 : Int32 × zH) =>
    (if p12.1 = 0 then
      f_LT_lorry_24 N x0 x1 x2 x3 x4 p12.2
    else
      f_LT_lorry_25 N x0 x1 x2 x3 x4 (1 : Int32) p12.2))
theorem d_LT_lorry_0 : decode prog_1_method_16_code 0 = .ok (.iload_n (1), 1) := by decide +kernel
theorem d_LT_lorry_1 : decode prog_1_method_16_code 1 = .ok (.sipush (1000), 3) := by decide +kernel
theorem d_LT_lorry_4 : decode prog_1_method_16_code 4 = .ok (.invokestatic (83), 3) := by decide +kernel
theorem d_LT_lorry_7 : decode prog_1_method_16_code 7 = .ok (.ifCond .eq (17), 3) := by decide +kernel
theorem d_LT_lorry_10 : decode prog_1_method_16_code 10 = .ok (.iload_n (2), 1) := by decide +kernel
theorem d_LT_lorry_11 : decode prog_1_method_16_code 11 = .ok (.sipush (1000), 3) := by decide +kernel
theorem d_LT_lorry_14 : decode prog_1_method_16_code 14 = .ok (.invokestatic (83), 3) := by decide +kernel
theorem d_LT_lorry_17 : decode prog_1_method_16_code 17 = .ok (.ifCond .eq (7), 3) := by decide +kernel
theorem d_LT_lorry_20 : decode prog_1_method_16_code 20 = .ok (.iconst (1), 1) := by decide +kernel
theorem d_LT_lorry_21 : decode prog_1_method_16_code 21 = .ok (.goto (4), 3) := by decide +kernel
theorem d_LT_lorry_24 : decode prog_1_method_16_code 24 = .ok (.iconst (0), 1) := by decide +kernel
theorem d_LT_lorry_25 : decode prog_1_method_16_code 25 = .ok (.istore (5), 2) := by decide +kernel
theorem d_LT_lorry_27 : decode prog_1_method_16_code 27 = .ok (.iload (5), 2) := by decide +kernel
theorem d_LT_lorry_29 : decode prog_1_method_16_code 29 = .ok (.ifCond .eq (24), 3) := by decide +kernel
theorem d_LT_lorry_32 : decode prog_1_method_16_code 32 = .ok (.iload_n (3), 1) := by decide +kernel
theorem d_LT_lorry_33 : decode prog_1_method_16_code 33 = .ok (.sipush (1000), 3) := by decide +kernel
theorem d_LT_lorry_36 : decode prog_1_method_16_code 36 = .ok (.invokestatic (83), 3) := by decide +kernel
theorem d_LT_lorry_39 : decode prog_1_method_16_code 39 = .ok (.ifCond .eq (14), 3) := by decide +kernel
theorem d_LT_lorry_42 : decode prog_1_method_16_code 42 = .ok (.iload (4), 2) := by decide +kernel
theorem d_LT_lorry_44 : decode prog_1_method_16_code 44 = .ok (.sipush (1000), 3) := by decide +kernel
theorem d_LT_lorry_47 : decode prog_1_method_16_code 47 = .ok (.invokestatic (83), 3) := by decide +kernel
theorem d_LT_lorry_50 : decode prog_1_method_16_code 50 = .ok (.ifCond .ne (5), 3) := by decide +kernel
theorem d_LT_lorry_53 : decode prog_1_method_16_code 53 = .ok (.iconst (0), 1) := by decide +kernel
theorem d_LT_lorry_54 : decode prog_1_method_16_code 54 = .ok (.ireturn, 1) := by decide +kernel
theorem d_LT_lorry_55 : decode prog_1_method_16_code 55 = .ok (.aload_n (0), 1) := by decide +kernel
theorem d_LT_lorry_56 : decode prog_1_method_16_code 56 = .ok (.getfield (64), 3) := by decide +kernel
theorem d_LT_lorry_59 : decode prog_1_method_16_code 59 = .ok (.iload_n (1), 1) := by decide +kernel
theorem d_LT_lorry_60 : decode prog_1_method_16_code 60 = .ok (.putfield (205), 3) := by decide +kernel
theorem d_LT_lorry_63 : decode prog_1_method_16_code 63 = .ok (.aload_n (0), 1) := by decide +kernel
theorem d_LT_lorry_64 : decode prog_1_method_16_code 64 = .ok (.getfield (64), 3) := by decide +kernel
theorem d_LT_lorry_67 : decode prog_1_method_16_code 67 = .ok (.iload_n (2), 1) := by decide +kernel
theorem d_LT_lorry_68 : decode prog_1_method_16_code 68 = .ok (.putfield (208), 3) := by decide +kernel
theorem d_LT_lorry_71 : decode prog_1_method_16_code 71 = .ok (.aload_n (0), 1) := by decide +kernel
theorem d_LT_lorry_72 : decode prog_1_method_16_code 72 = .ok (.getfield (64), 3) := by decide +kernel
theorem d_LT_lorry_75 : decode prog_1_method_16_code 75 = .ok (.iload_n (3), 1) := by decide +kernel
theorem d_LT_lorry_76 : decode prog_1_method_16_code 76 = .ok (.putfield (211), 3) := by decide +kernel
theorem d_LT_lorry_79 : decode prog_1_method_16_code 79 = .ok (.aload_n (0), 1) := by decide +kernel
theorem d_LT_lorry_80 : decode prog_1_method_16_code 80 = .ok (.getfield (64), 3) := by decide +kernel
theorem d_LT_lorry_83 : decode prog_1_method_16_code 83 = .ok (.iload (4), 2) := by decide +kernel
theorem d_LT_lorry_85 : decode prog_1_method_16_code 85 = .ok (.putfield (214), 3) := by decide +kernel
theorem d_LT_lorry_88 : decode prog_1_method_16_code 88 = .ok (.iconst (1), 1) := by decide +kernel
theorem d_LT_lorry_89 : decode prog_1_method_16_code 89 = .ok (.ireturn, 1) := by decide +kernel
set_option maxHeartbeats 4000000 in
set_option maxRecDepth 100000 in
theorem k_LT_lorry_25 (N : Nat) {X : zX} (C : zB X prog_1_method_16_code 6 R_LT rm_LT_lorry) {h0 : zH} {p : Int32 × zH} (E : zR X (some .boolean) rm_LT_lorry h0 (some (.int p.1)) p.2) : ∀ (x0 : Nat) (x1 : Int32) (x2 : Int32) (x3 : Int32) (x4 : Int32) (s0 : Int32) (h : zH), f_LT_lorry_25 N x0 x1 x2 x3 x4 s0 h = some p → Zt X 6 0 0 25 [(0, .ref x0), (1, .int x1), (2, .int x2), (3, .int x3), (4, .int x4)] [.int s0] h := by
  intro x0 x1 x2 x3 x4 s0 h hf
  unfold f_LT_lorry_25 at hf
  refine z_istore C (lv' := [(5, .int s0), (0, .ref x0), (1, .int x1), (2, .int x2), (3, .int x3), (4, .int x4)]) d_LT_lorry_25 (by decide) rfl ?_
  refine z_iload C 0 d_LT_lorry_27 rfl ?_
  refine z_if_eq (tgt := 53) C d_LT_lorry_29 (by decide) hf (fun hf => ?_) (fun hf => ?_)
  · refine z_iconst C (v := (0 : Int32)) d_LT_lorry_53 (by decide) ?_
    exact z_zret C E (Nat.le_of_ble_eq_true rfl) (Nat.le_of_ble_eq_true rfl) d_LT_lorry_54 hf
  · refine z_iload_n C 4 d_LT_lorry_32 rfl rfl ?_
    refine z_sipush C (v := (1000 : Int32)) d_LT_lorry_33 (by decide) ?_
    obtain ⟨p1, hc, hf⟩ := Option.bind_eq_some_iff.mp hf
    refine z_callS C (c_LT_within N C.2.2.1 hc) w_325 w_57 w_323 w_324 pd_LT_within rfl ⟨(Nat.le_of_ble_eq_true rfl), (Nat.le_of_ble_eq_true rfl)⟩ ⟨(Nat.le_of_ble_eq_true rfl), (Nat.le_of_ble_eq_true rfl)⟩ rfl (Nat.le_of_ble_eq_true rfl) d_LT_lorry_36 (k' := 0) (n' := 0) (stk' := [.int p1.1]) rfl rfl rfl ?_
    refine z_if_eq (tgt := 53) C d_LT_lorry_39 (by decide) hf (fun hf => ?_) (fun hf => ?_)
    · refine z_iconst C (v := (0 : Int32)) d_LT_lorry_53 (by decide) ?_
      exact z_zret C E (Nat.le_of_ble_eq_true rfl) (Nat.le_of_ble_eq_true rfl) d_LT_lorry_54 hf
    · refine z_iload C 5 d_LT_lorry_42 rfl ?_
      refine z_sipush C (v := (1000 : Int32)) d_LT_lorry_44 (by decide) ?_
      obtain ⟨p2, hc, hf⟩ := Option.bind_eq_some_iff.mp hf
      refine z_callS C (c_LT_within N C.2.2.1 hc) w_325 w_57 w_323 w_324 pd_LT_within rfl ⟨(Nat.le_of_ble_eq_true rfl), (Nat.le_of_ble_eq_true rfl)⟩ ⟨(Nat.le_of_ble_eq_true rfl), (Nat.le_of_ble_eq_true rfl)⟩ rfl (Nat.le_of_ble_eq_true rfl) d_LT_lorry_47 (k' := 0) (n' := 0) (stk' := [.int p2.1]) rfl rfl rfl ?_
      refine z_if_ne (tgt := 55) C d_LT_lorry_50 (by decide) hf (fun hf => ?_) (fun hf => ?_)
      · refine z_aload_n C 1 d_LT_lorry_55 rfl rfl ?_
        refine z_getR C 1 5 rfl in_LT (by decide) w_271 rfl d_LT_lorry_56 hf (fun v3 hf => ?_)
        refine z_iload_n C 2 d_LT_lorry_59 rfl rfl ?_
        refine z_put C 7 0 ty_Lorry rfl in_Lorry tyok_Lorry nm_Lorry (by decide) w_250 rfl (Or.inl rfl) rfl rfl rfl d_LT_lorry_60 hf (fun h4 hf => ?_)
        refine z_aload_n C 1 d_LT_lorry_63 rfl rfl ?_
        refine z_getR C 1 5 rfl in_LT (by decide) w_271 rfl d_LT_lorry_64 hf (fun v5 hf => ?_)
        refine z_iload_n C 3 d_LT_lorry_67 rfl rfl ?_
        refine z_put C 7 1 ty_Lorry rfl in_Lorry tyok_Lorry nm_Lorry (by decide) w_252 rfl (Or.inl rfl) rfl rfl rfl d_LT_lorry_68 hf (fun h6 hf => ?_)
        refine z_aload_n C 1 d_LT_lorry_71 rfl rfl ?_
        refine z_getR C 1 5 rfl in_LT (by decide) w_271 rfl d_LT_lorry_72 hf (fun v7 hf => ?_)
        refine z_iload_n C 4 d_LT_lorry_75 rfl rfl ?_
        refine z_put C 7 2 ty_Lorry rfl in_Lorry tyok_Lorry nm_Lorry (by decide) w_254 rfl (Or.inl rfl) rfl rfl rfl d_LT_lorry_76 hf (fun h8 hf => ?_)
        refine z_aload_n C 1 d_LT_lorry_79 rfl rfl ?_
        refine z_getR C 1 5 rfl in_LT (by decide) w_271 rfl d_LT_lorry_80 hf (fun v9 hf => ?_)
        refine z_iload C 5 d_LT_lorry_83 rfl ?_
        refine z_put C 7 3 ty_Lorry rfl in_Lorry tyok_Lorry nm_Lorry (by decide) w_256 rfl (Or.inl rfl) rfl rfl rfl d_LT_lorry_85 hf (fun h10 hf => ?_)
        refine z_iconst C (v := (1 : Int32)) d_LT_lorry_88 (by decide) ?_
        exact z_zret C E (Nat.le_of_ble_eq_true rfl) (Nat.le_of_ble_eq_true rfl) d_LT_lorry_89 hf
      · refine z_iconst C (v := (0 : Int32)) d_LT_lorry_53 (by decide) ?_
        exact z_zret C E (Nat.le_of_ble_eq_true rfl) (Nat.le_of_ble_eq_true rfl) d_LT_lorry_54 hf

set_option maxHeartbeats 4000000 in
set_option maxRecDepth 100000 in
theorem k_LT_lorry_24 (N : Nat) {X : zX} (C : zB X prog_1_method_16_code 6 R_LT rm_LT_lorry) {h0 : zH} {p : Int32 × zH} (E : zR X (some .boolean) rm_LT_lorry h0 (some (.int p.1)) p.2) : ∀ (x0 : Nat) (x1 : Int32) (x2 : Int32) (x3 : Int32) (x4 : Int32) (h : zH), f_LT_lorry_24 N x0 x1 x2 x3 x4 h = some p → Zt X 6 0 0 24 [(0, .ref x0), (1, .int x1), (2, .int x2), (3, .int x3), (4, .int x4)] [] h := by
  intro x0 x1 x2 x3 x4 h hf
  unfold f_LT_lorry_24 at hf
  refine z_iconst C (v := (0 : Int32)) d_LT_lorry_24 (by decide) ?_
  refine z_sub [0, 1, 2, 3, 4] rfl ?_
  exact k_LT_lorry_25 N C E _ _ _ _ _ _ _ hf

set_option maxHeartbeats 4000000 in
set_option maxRecDepth 100000 in
theorem k_LT_lorry (N : Nat) {X : zX} (C : zB X prog_1_method_16_code 6 R_LT rm_LT_lorry) {h0 : zH} {p : Int32 × zH} (E : zR X (some .boolean) rm_LT_lorry h0 (some (.int p.1)) p.2) : ∀ (x0 : Nat) (x1 : Int32) (x2 : Int32) (x3 : Int32) (x4 : Int32) (h : zH), f_LT_lorry N x0 x1 x2 x3 x4 h = some p → Zt X 6 0 0 0 [(0, .ref x0), (1, .int x1), (2, .int x2), (3, .int x3), (4, .int x4)] [] h := by
  intro x0 x1 x2 x3 x4 h hf
  unfold f_LT_lorry at hf
  refine z_iload_n C 1 d_LT_lorry_0 rfl rfl ?_
  refine z_sipush C (v := (1000 : Int32)) d_LT_lorry_1 (by decide) ?_
  obtain ⟨p11, hc, hf⟩ := Option.bind_eq_some_iff.mp hf
  refine z_callS C (c_LT_within N C.2.2.1 hc) w_325 w_57 w_323 w_324 pd_LT_within rfl ⟨(Nat.le_of_ble_eq_true rfl), (Nat.le_of_ble_eq_true rfl)⟩ ⟨(Nat.le_of_ble_eq_true rfl), (Nat.le_of_ble_eq_true rfl)⟩ rfl (Nat.le_of_ble_eq_true rfl) d_LT_lorry_4 (k' := 0) (n' := 0) (stk' := [.int p11.1]) rfl rfl rfl ?_
  refine z_if_eq (tgt := 24) C d_LT_lorry_7 (by decide) hf (fun hf => ?_) (fun hf => ?_)
  · refine z_sub [0, 1, 2, 3, 4] rfl ?_
    exact k_LT_lorry_24 N C E _ _ _ _ _ _ hf
  · refine z_iload_n C 2 d_LT_lorry_10 rfl rfl ?_
    refine z_sipush C (v := (1000 : Int32)) d_LT_lorry_11 (by decide) ?_
    obtain ⟨p12, hc, hf⟩ := Option.bind_eq_some_iff.mp hf
    refine z_callS C (c_LT_within N C.2.2.1 hc) w_325 w_57 w_323 w_324 pd_LT_within rfl ⟨(Nat.le_of_ble_eq_true rfl), (Nat.le_of_ble_eq_true rfl)⟩ ⟨(Nat.le_of_ble_eq_true rfl), (Nat.le_of_ble_eq_true rfl)⟩ rfl (Nat.le_of_ble_eq_true rfl) d_LT_lorry_14 (k' := 0) (n' := 0) (stk' := [.int p12.1]) rfl rfl rfl ?_
    refine z_if_eq (tgt := 24) C d_LT_lorry_17 (by decide) hf (fun hf => ?_) (fun hf => ?_)
    · refine z_sub [0, 1, 2, 3, 4] rfl ?_
      exact k_LT_lorry_24 N C E _ _ _ _ _ _ hf
    · refine z_iconst C (v := (1 : Int32)) d_LT_lorry_20 (by decide) ?_
      refine z_goto (tgt := 25) C d_LT_lorry_21 (by decide) ?_
      refine z_sub [0, 1, 2, 3, 4] rfl ?_
      exact k_LT_lorry_25 N C E _ _ _ _ _ _ _ hf

theorem c_LT_lorry (N : Nat) {l : Launch} {D : va_G} {T : List (ClassId × FieldType)} (hT : T.map (fun q => q.2) = ztl) {x0 : Nat} {x1 : Int32} {x2 : Int32} {x3 : Int32} {x4 : Int32} {h : zH} {p : Int32 × zH} (hf : f_LT_lorry N x0 x1 x2 x3 x4 h = some p) : zM l y_LT_lorry prog_1_method_16_code 6 (some .boolean) rm_LT_lorry D T [.ref x0, .int x1, .int x2, .int x3, .int x4] h (some (.int p.1)) p.2 :=
  z_enter (by decide) hT (Nat.le_of_ble_eq_true rfl) (fun X el eD eT hin C E => k_LT_lorry N C E x0 x1 x2 x3 x4 h hf)
/-! ===== LevelTables$Lorry.speedBehind(II)I ===== -/
abbrev y_Lorry_speedBehind : MethodName := ⟨R_Lorry, "speedBehind", "(II)I"⟩
theorem pd_Lorry_speedBehind : y_Lorry_speedBehind.cls ≠ "java/lang/invoke/MethodHandle" ∧ y_Lorry_speedBehind.cls ≠ "java/lang/invoke/VarHandle" ∧ (parseMethodDescriptor y_Lorry_speedBehind.desc).map (fun d => d.parameters.length) = some 2 := ⟨by decide +kernel, by decide +kernel, by decide +kernel⟩
abbrev rm_Lorry_speedBehind : Room := { frames := 1, cells := 0, slots := 0, locals := 21 }
def f_Lorry_speedBehind (N : Nat) (x0 : Nat) (x1 : Int32) (x2 : Int32) (h : zH) : Option (Int32 × zH) :=
  (if x2 ≤ 0 then
    Option.bind (zgI h x0 7 0) fun (v1 : Int32) =>
    Option.bind (zgI h x0 7 3) fun (v2 : Int32) =>
    some ((zmin v1 (x1 + (((1 : Int32) - x2) * v2))), h)
  else
    Option.bind (zgI h x0 7 2) fun (v3 : Int32) =>
    some ((zmax (0 : Int32) (x1 - (x2 * v3))), h))
theorem d_Lorry_speedBehind_0 : decode prog_3_method_2_code 0 = .ok (.iload_n (2), 1) := by decide +kernel
theorem d_Lorry_speedBehind_1 : decode prog_3_method_2_code 1 = .ok (.ifCond .le (16), 3) := by decide +kernel
theorem d_Lorry_speedBehind_4 : decode prog_3_method_2_code 4 = .ok (.iconst (0), 1) := by decide +kernel
theorem d_Lorry_speedBehind_5 : decode prog_3_method_2_code 5 = .ok (.iload_n (1), 1) := by decide +kernel
theorem d_Lorry_speedBehind_6 : decode prog_3_method_2_code 6 = .ok (.iload_n (2), 1) := by decide +kernel
theorem d_Lorry_speedBehind_7 : decode prog_3_method_2_code 7 = .ok (.aload_n (0), 1) := by decide +kernel
theorem d_Lorry_speedBehind_8 : decode prog_3_method_2_code 8 = .ok (.getfield (18), 3) := by decide +kernel
theorem d_Lorry_speedBehind_11 : decode prog_3_method_2_code 11 = .ok (.imul, 1) := by decide +kernel
theorem d_Lorry_speedBehind_12 : decode prog_3_method_2_code 12 = .ok (.isub, 1) := by decide +kernel
theorem d_Lorry_speedBehind_13 : decode prog_3_method_2_code 13 = .ok (.invokestatic (24), 3) := by decide +kernel
theorem d_Lorry_speedBehind_16 : decode prog_3_method_2_code 16 = .ok (.ireturn, 1) := by decide +kernel
theorem d_Lorry_speedBehind_17 : decode prog_3_method_2_code 17 = .ok (.aload_n (0), 1) := by decide +kernel
theorem d_Lorry_speedBehind_18 : decode prog_3_method_2_code 18 = .ok (.getfield (9), 3) := by decide +kernel
theorem d_Lorry_speedBehind_21 : decode prog_3_method_2_code 21 = .ok (.iload_n (1), 1) := by decide +kernel
theorem d_Lorry_speedBehind_22 : decode prog_3_method_2_code 22 = .ok (.iconst (1), 1) := by decide +kernel
theorem d_Lorry_speedBehind_23 : decode prog_3_method_2_code 23 = .ok (.iload_n (2), 1) := by decide +kernel
theorem d_Lorry_speedBehind_24 : decode prog_3_method_2_code 24 = .ok (.isub, 1) := by decide +kernel
theorem d_Lorry_speedBehind_25 : decode prog_3_method_2_code 25 = .ok (.aload_n (0), 1) := by decide +kernel
theorem d_Lorry_speedBehind_26 : decode prog_3_method_2_code 26 = .ok (.getfield (21), 3) := by decide +kernel
theorem d_Lorry_speedBehind_29 : decode prog_3_method_2_code 29 = .ok (.imul, 1) := by decide +kernel
theorem d_Lorry_speedBehind_30 : decode prog_3_method_2_code 30 = .ok (.iadd, 1) := by decide +kernel
theorem d_Lorry_speedBehind_31 : decode prog_3_method_2_code 31 = .ok (.invokestatic (30), 3) := by decide +kernel
theorem d_Lorry_speedBehind_34 : decode prog_3_method_2_code 34 = .ok (.ireturn, 1) := by decide +kernel
set_option maxHeartbeats 4000000 in
set_option maxRecDepth 100000 in
theorem k_Lorry_speedBehind (N : Nat) {X : zX} (C : zB X prog_3_method_2_code 3 R_Lorry rm_Lorry_speedBehind) {h0 : zH} {p : Int32 × zH} (E : zR X (some .int) rm_Lorry_speedBehind h0 (some (.int p.1)) p.2) : ∀ (x0 : Nat) (x1 : Int32) (x2 : Int32) (h : zH), f_Lorry_speedBehind N x0 x1 x2 h = some p → Zt X 3 0 0 0 [(0, .ref x0), (1, .int x1), (2, .int x2)] [] h := by
  intro x0 x1 x2 h hf
  unfold f_Lorry_speedBehind at hf
  refine z_iload_n C 2 d_Lorry_speedBehind_0 rfl rfl ?_
  refine z_if_le (tgt := 17) C d_Lorry_speedBehind_1 (by decide) hf (fun hf => ?_) (fun hf => ?_)
  · refine z_aload_n C 0 d_Lorry_speedBehind_17 rfl rfl ?_
    refine z_getI C 7 0 rfl in_Lorry (by decide) w_249 rfl d_Lorry_speedBehind_18 hf (fun v1 hf => ?_)
    refine z_iload_n C 1 d_Lorry_speedBehind_21 rfl rfl ?_
    refine z_iconst C (v := (1 : Int32)) d_Lorry_speedBehind_22 (by decide) ?_
    refine z_iload_n C 2 d_Lorry_speedBehind_23 rfl rfl ?_
    refine z_isub C d_Lorry_speedBehind_24 ?_
    refine z_aload_n C 0 d_Lorry_speedBehind_25 rfl rfl ?_
    refine z_getI C 7 3 rfl in_Lorry (by decide) w_255 rfl d_Lorry_speedBehind_26 hf (fun v2 hf => ?_)
    refine z_imul C d_Lorry_speedBehind_29 ?_
    refine z_iadd C d_Lorry_speedBehind_30 ?_
    refine z_mmin C w_658 w_79 w_58 w_80 (Nat.le_of_ble_eq_true rfl) (Nat.le_of_ble_eq_true rfl) (Nat.le_of_ble_eq_true rfl) (Nat.le_of_ble_eq_true rfl) d_Lorry_speedBehind_31 ?_
    exact z_iret C E (Nat.le_of_ble_eq_true rfl) (Nat.le_of_ble_eq_true rfl) d_Lorry_speedBehind_34 hf
  · refine z_iconst C (v := (0 : Int32)) d_Lorry_speedBehind_4 (by decide) ?_
    refine z_iload_n C 1 d_Lorry_speedBehind_5 rfl rfl ?_
    refine z_iload_n C 2 d_Lorry_speedBehind_6 rfl rfl ?_
    refine z_aload_n C 0 d_Lorry_speedBehind_7 rfl rfl ?_
    refine z_getI C 7 2 rfl in_Lorry (by decide) w_253 rfl d_Lorry_speedBehind_8 hf (fun v3 hf => ?_)
    refine z_imul C d_Lorry_speedBehind_11 ?_
    refine z_isub C d_Lorry_speedBehind_12 ?_
    refine z_mmax C w_657 w_82 w_58 w_83 (Nat.le_of_ble_eq_true rfl) (Nat.le_of_ble_eq_true rfl) (Nat.le_of_ble_eq_true rfl) (Nat.le_of_ble_eq_true rfl) d_Lorry_speedBehind_13 ?_
    exact z_iret C E (Nat.le_of_ble_eq_true rfl) (Nat.le_of_ble_eq_true rfl) d_Lorry_speedBehind_16 hf

theorem c_Lorry_speedBehind (N : Nat) {l : Launch} {D : va_G} {T : List (ClassId × FieldType)} (hT : T.map (fun q => q.2) = ztl) {x0 : Nat} {x1 : Int32} {x2 : Int32} {h : zH} {p : Int32 × zH} (hf : f_Lorry_speedBehind N x0 x1 x2 h = some p) : zM l y_Lorry_speedBehind prog_3_method_2_code 3 (some .int) rm_Lorry_speedBehind D T [.ref x0, .int x1, .int x2] h (some (.int p.1)) p.2 :=
  z_enter (by decide) hT (Nat.le_of_ble_eq_true rfl) (fun X el eD eT hin C E => k_Lorry_speedBehind N C E x0 x1 x2 h hf)
/-! ===== LevelTables$Table.isBetween(I)Z ===== -/
abbrev y_Table_isBetween : MethodName := ⟨R_Table, "isBetween", "(I)Z"⟩
theorem pd_Table_isBetween : y_Table_isBetween.cls ≠ "java/lang/invoke/MethodHandle" ∧ y_Table_isBetween.cls ≠ "java/lang/invoke/VarHandle" ∧ (parseMethodDescriptor y_Table_isBetween.desc).map (fun d => d.parameters.length) = some 1 := ⟨by decide +kernel, by decide +kernel, by decide +kernel⟩
abbrev rm_Table_isBetween : Room := { frames := 0, cells := 0, slots := 0, locals := 0 }
def f_Table_isBetween (N : Nat) (x0 : Nat) (x1 : Int32) (h : zH) : Option (Int32 × zH) :=
  (if x1 < (1 : Int32) then
    zrb (0 : Int32) h
  else
    Option.bind (zgR h x0 5 0) fun (v1 : Nat) =>
    Option.bind (zgI h v1 2 0) fun (v2 : Int32) =>
    (if x1 < v2 then
      Option.bind (zgR h x0 5 3) fun (v3 : Nat) =>
      Option.bind (zaI h 0 v3 x1) fun (v4 : Int32) =>
      (if v4 = (-1 : Int32) then
        zrb (0 : Int32) h
      else
        Option.bind (zgR h x0 5 3) fun (v5 : Nat) =>
        Option.bind (zaI h 0 v5 x1) fun (v6 : Int32) =>
        Option.bind (zgR h x0 5 3) fun (v7 : Nat) =>
        Option.bind (zaI h 0 v7 (x1 - (1 : Int32))) fun (v8 : Int32) =>
        (if v6 = v8 then
          zrb (1 : Int32) h
        else
          zrb (0 : Int32) h))
    else
      zrb (0 : Int32) h))
theorem d_Table_isBetween_0 : decode prog_8_method_3_code 0 = .ok (.iload_n (1), 1) := by decide +kernel
theorem d_Table_isBetween_1 : decode prog_8_method_3_code 1 = .ok (.iconst (1), 1) := by decide +kernel
theorem d_Table_isBetween_2 : decode prog_8_method_3_code 2 = .ok (.if_icmp .lt (14), 3) := by decide +kernel
theorem d_Table_isBetween_5 : decode prog_8_method_3_code 5 = .ok (.iload_n (1), 1) := by decide +kernel
theorem d_Table_isBetween_6 : decode prog_8_method_3_code 6 = .ok (.aload_n (0), 1) := by decide +kernel
theorem d_Table_isBetween_7 : decode prog_8_method_3_code 7 = .ok (.getfield (23), 3) := by decide +kernel
theorem d_Table_isBetween_10 : decode prog_8_method_3_code 10 = .ok (.getfield (31), 3) := by decide +kernel
theorem d_Table_isBetween_13 : decode prog_8_method_3_code 13 = .ok (.if_icmp .lt (5), 3) := by decide +kernel
theorem d_Table_isBetween_16 : decode prog_8_method_3_code 16 = .ok (.iconst (0), 1) := by decide +kernel
theorem d_Table_isBetween_17 : decode prog_8_method_3_code 17 = .ok (.ireturn, 1) := by decide +kernel
theorem d_Table_isBetween_18 : decode prog_8_method_3_code 18 = .ok (.aload_n (0), 1) := by decide +kernel
theorem d_Table_isBetween_19 : decode prog_8_method_3_code 19 = .ok (.getfield (40), 3) := by decide +kernel
theorem d_Table_isBetween_22 : decode prog_8_method_3_code 22 = .ok (.iload_n (1), 1) := by decide +kernel
theorem d_Table_isBetween_23 : decode prog_8_method_3_code 23 = .ok (.iaload, 1) := by decide +kernel
theorem d_Table_isBetween_24 : decode prog_8_method_3_code 24 = .ok (.iconst (-1), 1) := by decide +kernel
theorem d_Table_isBetween_25 : decode prog_8_method_3_code 25 = .ok (.if_icmp .eq (24), 3) := by decide +kernel
theorem d_Table_isBetween_28 : decode prog_8_method_3_code 28 = .ok (.aload_n (0), 1) := by decide +kernel
theorem d_Table_isBetween_29 : decode prog_8_method_3_code 29 = .ok (.getfield (40), 3) := by decide +kernel
theorem d_Table_isBetween_32 : decode prog_8_method_3_code 32 = .ok (.iload_n (1), 1) := by decide +kernel
theorem d_Table_isBetween_33 : decode prog_8_method_3_code 33 = .ok (.iaload, 1) := by decide +kernel
theorem d_Table_isBetween_34 : decode prog_8_method_3_code 34 = .ok (.aload_n (0), 1) := by decide +kernel
theorem d_Table_isBetween_35 : decode prog_8_method_3_code 35 = .ok (.getfield (40), 3) := by decide +kernel
theorem d_Table_isBetween_38 : decode prog_8_method_3_code 38 = .ok (.iload_n (1), 1) := by decide +kernel
theorem d_Table_isBetween_39 : decode prog_8_method_3_code 39 = .ok (.iconst (1), 1) := by decide +kernel
theorem d_Table_isBetween_40 : decode prog_8_method_3_code 40 = .ok (.isub, 1) := by decide +kernel
theorem d_Table_isBetween_41 : decode prog_8_method_3_code 41 = .ok (.iaload, 1) := by decide +kernel
theorem d_Table_isBetween_42 : decode prog_8_method_3_code 42 = .ok (.if_icmp .ne (7), 3) := by decide +kernel
theorem d_Table_isBetween_45 : decode prog_8_method_3_code 45 = .ok (.iconst (1), 1) := by decide +kernel
theorem d_Table_isBetween_46 : decode prog_8_method_3_code 46 = .ok (.goto (4), 3) := by decide +kernel
theorem d_Table_isBetween_49 : decode prog_8_method_3_code 49 = .ok (.iconst (0), 1) := by decide +kernel
theorem d_Table_isBetween_50 : decode prog_8_method_3_code 50 = .ok (.ireturn, 1) := by decide +kernel
set_option maxHeartbeats 4000000 in
set_option maxRecDepth 100000 in
theorem k_Table_isBetween (N : Nat) {X : zX} (C : zB X prog_8_method_3_code 2 R_Table rm_Table_isBetween) {h0 : zH} {p : Int32 × zH} (E : zR X (some .boolean) rm_Table_isBetween h0 (some (.int p.1)) p.2) : ∀ (x0 : Nat) (x1 : Int32) (h : zH), f_Table_isBetween N x0 x1 h = some p → Zt X 2 0 0 0 [(0, .ref x0), (1, .int x1)] [] h := by
  intro x0 x1 h hf
  unfold f_Table_isBetween at hf
  refine z_iload_n C 1 d_Table_isBetween_0 rfl rfl ?_
  refine z_iconst C (v := (1 : Int32)) d_Table_isBetween_1 (by decide) ?_
  refine z_ic_lt (tgt := 16) C d_Table_isBetween_2 (by decide) hf (fun hf => ?_) (fun hf => ?_)
  · refine z_iconst C (v := (0 : Int32)) d_Table_isBetween_16 (by decide) ?_
    exact z_zret C E (Nat.le_of_ble_eq_true rfl) (Nat.le_of_ble_eq_true rfl) d_Table_isBetween_17 hf
  · refine z_iload_n C 1 d_Table_isBetween_5 rfl rfl ?_
    refine z_aload_n C 0 d_Table_isBetween_6 rfl rfl ?_
    refine z_getR C 5 0 rfl in_Table (by decide) w_195 rfl d_Table_isBetween_7 hf (fun v1 hf => ?_)
    refine z_getI C 2 0 rfl in_Site (by decide) w_94 rfl d_Table_isBetween_10 hf (fun v2 hf => ?_)
    refine z_ic_lt (tgt := 18) C d_Table_isBetween_13 (by decide) hf (fun hf => ?_) (fun hf => ?_)
    · refine z_aload_n C 0 d_Table_isBetween_18 rfl rfl ?_
      refine z_getR C 5 3 rfl in_Table (by decide) w_201 rfl d_Table_isBetween_19 hf (fun v3 hf => ?_)
      refine z_iload_n C 1 d_Table_isBetween_22 rfl rfl ?_
      refine z_iald C d_Table_isBetween_23 hf (fun v4 hf => ?_)
      refine z_iconst C (v := (-1 : Int32)) d_Table_isBetween_24 (by decide) ?_
      refine z_ic_eq (tgt := 49) C d_Table_isBetween_25 (by decide) hf (fun hf => ?_) (fun hf => ?_)
      · refine z_iconst C (v := (0 : Int32)) d_Table_isBetween_49 (by decide) ?_
        exact z_zret C E (Nat.le_of_ble_eq_true rfl) (Nat.le_of_ble_eq_true rfl) d_Table_isBetween_50 hf
      · refine z_aload_n C 0 d_Table_isBetween_28 rfl rfl ?_
        refine z_getR C 5 3 rfl in_Table (by decide) w_201 rfl d_Table_isBetween_29 hf (fun v5 hf => ?_)
        refine z_iload_n C 1 d_Table_isBetween_32 rfl rfl ?_
        refine z_iald C d_Table_isBetween_33 hf (fun v6 hf => ?_)
        refine z_aload_n C 0 d_Table_isBetween_34 rfl rfl ?_
        refine z_getR C 5 3 rfl in_Table (by decide) w_201 rfl d_Table_isBetween_35 hf (fun v7 hf => ?_)
        refine z_iload_n C 1 d_Table_isBetween_38 rfl rfl ?_
        refine z_iconst C (v := (1 : Int32)) d_Table_isBetween_39 (by decide) ?_
        refine z_isub C d_Table_isBetween_40 ?_
        refine z_iald C d_Table_isBetween_41 hf (fun v8 hf => ?_)
        refine z_ic_ne (tgt := 49) C d_Table_isBetween_42 (by decide) hf (fun hf => ?_) (fun hf => ?_)
        · refine z_iconst C (v := (0 : Int32)) d_Table_isBetween_49 (by decide) ?_
          exact z_zret C E (Nat.le_of_ble_eq_true rfl) (Nat.le_of_ble_eq_true rfl) d_Table_isBetween_50 hf
        · refine z_iconst C (v := (1 : Int32)) d_Table_isBetween_45 (by decide) ?_
          refine z_goto (tgt := 50) C d_Table_isBetween_46 (by decide) ?_
          exact z_zret C E (Nat.le_of_ble_eq_true rfl) (Nat.le_of_ble_eq_true rfl) d_Table_isBetween_50 hf
    · refine z_iconst C (v := (0 : Int32)) d_Table_isBetween_16 (by decide) ?_
      exact z_zret C E (Nat.le_of_ble_eq_true rfl) (Nat.le_of_ble_eq_true rfl) d_Table_isBetween_17 hf

theorem c_Table_isBetween (N : Nat) {l : Launch} {D : va_G} {T : List (ClassId × FieldType)} (hT : T.map (fun q => q.2) = ztl) {x0 : Nat} {x1 : Int32} {h : zH} {p : Int32 × zH} (hf : f_Table_isBetween N x0 x1 h = some p) : zM l y_Table_isBetween prog_8_method_3_code 2 (some .boolean) rm_Table_isBetween D T [.ref x0, .int x1] h (some (.int p.1)) p.2 :=
  z_enter (by decide) hT (Nat.le_of_ble_eq_true rfl) (fun X el eD eT hin C E => k_Table_isBetween N C E x0 x1 h hf)
/-! ===== LevelTables$Site.countSet([I)I ===== -/
abbrev y_Site_countSet : MethodName := ⟨R_Site, "countSet", "([I)I"⟩
theorem pd_Site_countSet : y_Site_countSet.cls ≠ "java/lang/invoke/MethodHandle" ∧ y_Site_countSet.cls ≠ "java/lang/invoke/VarHandle" ∧ (parseMethodDescriptor y_Site_countSet.desc).map (fun d => d.parameters.length) = some 1 := ⟨by decide +kernel, by decide +kernel, by decide +kernel⟩
abbrev rm_Site_countSet : Room := { frames := 0, cells := 0, slots := 0, locals := 0 }
def f_Site_countSet_20 (N : Nat) (rc4 : Nat → Int32 → Int32 → zH → Option (Int32 × zH)) (x1 : Nat) (x2 : Int32) (x3 : Int32) (h : zH) : Option (Int32 × zH) :=
  rc4 x1 x2 (x3 + (1 : Int32)) h
def b_Site_countSet_4 (N : Nat) (rc4 : Nat → Int32 → Int32 → zH → Option (Int32 × zH)) (x1 : Nat) (x2 : Int32) (x3 : Int32) (h : zH) : Option (Int32 × zH) :=
  Option.bind (zlen h 0 x1) fun (v1 : Int32) =>
  (if v1 ≤ x3 then
    some (x2, h)
  else
    Option.bind (zaI h 0 x1 x3) fun (v2 : Int32) =>
    (if v2 = (-1 : Int32) then
      f_Site_countSet_20 N rc4 x1 x2 x3 h
    else
      f_Site_countSet_20 N rc4 x1 (x2 + (1 : Int32)) x3 h))
def f_Site_countSet_4 (N : Nat) : Nat → Nat → Int32 → Int32 → zH → Option (Int32 × zH)
  | 0 => fun _ _ _ _ => none
  | n + 1 => fun x1 x2 x3 h => b_Site_countSet_4 N (f_Site_countSet_4 N n) x1 x2 x3 h
def f_Site_countSet (N : Nat) (x0 : Nat) (x1 : Nat) (h : zH) : Option (Int32 × zH) :=
  f_Site_countSet_4 N N x1 (0 : Int32) (0 : Int32) h
theorem d_Site_countSet_0 : decode prog_6_method_12_code 0 = .ok (.iconst (0), 1) := by decide +kernel
theorem d_Site_countSet_1 : decode prog_6_method_12_code 1 = .ok (.istore_n (2), 1) := by decide +kernel
theorem d_Site_countSet_2 : decode prog_6_method_12_code 2 = .ok (.iconst (0), 1) := by decide +kernel
theorem d_Site_countSet_3 : decode prog_6_method_12_code 3 = .ok (.istore_n (3), 1) := by decide +kernel
theorem d_Site_countSet_4 : decode prog_6_method_12_code 4 = .ok (.iload_n (3), 1) := by decide +kernel
theorem d_Site_countSet_5 : decode prog_6_method_12_code 5 = .ok (.aload_n (1), 1) := by decide +kernel
theorem d_Site_countSet_6 : decode prog_6_method_12_code 6 = .ok (.arraylength, 1) := by decide +kernel
theorem d_Site_countSet_7 : decode prog_6_method_12_code 7 = .ok (.if_icmp .ge (19), 3) := by decide +kernel
theorem d_Site_countSet_10 : decode prog_6_method_12_code 10 = .ok (.aload_n (1), 1) := by decide +kernel
theorem d_Site_countSet_11 : decode prog_6_method_12_code 11 = .ok (.iload_n (3), 1) := by decide +kernel
theorem d_Site_countSet_12 : decode prog_6_method_12_code 12 = .ok (.iaload, 1) := by decide +kernel
theorem d_Site_countSet_13 : decode prog_6_method_12_code 13 = .ok (.iconst (-1), 1) := by decide +kernel
theorem d_Site_countSet_14 : decode prog_6_method_12_code 14 = .ok (.if_icmp .eq (6), 3) := by decide +kernel
theorem d_Site_countSet_17 : decode prog_6_method_12_code 17 = .ok (.iinc (2) (1), 3) := by decide +kernel
theorem d_Site_countSet_20 : decode prog_6_method_12_code 20 = .ok (.iinc (3) (1), 3) := by decide +kernel
theorem d_Site_countSet_23 : decode prog_6_method_12_code 23 = .ok (.goto (-19), 3) := by decide +kernel
theorem d_Site_countSet_26 : decode prog_6_method_12_code 26 = .ok (.iload_n (2), 1) := by decide +kernel
theorem d_Site_countSet_27 : decode prog_6_method_12_code 27 = .ok (.ireturn, 1) := by decide +kernel
set_option maxHeartbeats 4000000 in
set_option maxRecDepth 100000 in
theorem k_Site_countSet_20 (N : Nat) {X : zX} (C : zB X prog_6_method_12_code 4 R_Site rm_Site_countSet) {h0 : zH} {p : Int32 × zH} (E : zR X (some .int) rm_Site_countSet h0 (some (.int p.1)) p.2) {rc4 : Nat → Int32 → Int32 → zH → Option (Int32 × zH)} (H4 : ∀ (x1 : Nat) (x2 : Int32) (x3 : Int32) (h : zH), rc4 x1 x2 x3 h = some p → Zt X 4 0 0 4 [(1, .ref x1), (2, .int x2), (3, .int x3)] [] h) : ∀ (x1 : Nat) (x2 : Int32) (x3 : Int32) (h : zH), f_Site_countSet_20 N rc4 x1 x2 x3 h = some p → Zt X 4 0 0 20 [(1, .ref x1), (2, .int x2), (3, .int x3)] [] h := by
  intro x1 x2 x3 h hf
  unfold f_Site_countSet_20 at hf
  refine z_iinc C (v := (x3 + (1 : Int32))) (lv' := [(3, .int (x3 + (1 : Int32))), (1, .ref x1), (2, .int x2)]) 2 d_Site_countSet_20 rfl (by rfl) (by decide) rfl ?_
  refine z_goto (tgt := 4) C d_Site_countSet_23 (by decide) ?_
  refine z_sub [1, 2, 0] rfl ?_
  exact H4 _ _ _ _ hf

set_option maxHeartbeats 4000000 in
set_option maxRecDepth 100000 in
theorem k_Site_countSet_4 (N : Nat) {X : zX} (C : zB X prog_6_method_12_code 4 R_Site rm_Site_countSet) {h0 : zH} {p : Int32 × zH} (E : zR X (some .int) rm_Site_countSet h0 (some (.int p.1)) p.2) : ∀ n : Nat, ∀ (x1 : Nat) (x2 : Int32) (x3 : Int32) (h : zH), f_Site_countSet_4 N n x1 x2 x3 h = some p → Zt X 4 0 0 4 [(1, .ref x1), (2, .int x2), (3, .int x3)] [] h := by
  intro n
  induction n with
  | zero => intro x1 x2 x3 h hf; cases hf
  | succ n ih =>
  intro x1 x2 x3 h hf
  have H4 := ih
  replace hf : b_Site_countSet_4 N (f_Site_countSet_4 N n) x1 x2 x3 h = some p := hf
  unfold b_Site_countSet_4 at hf
  refine z_iload_n C 2 d_Site_countSet_4 rfl rfl ?_
  refine z_aload_n C 0 d_Site_countSet_5 rfl rfl ?_
  refine z_alen C 0 d_Site_countSet_6 hf (fun v1 hf => ?_)
  refine z_ic_ge (tgt := 26) C d_Site_countSet_7 (by decide) hf (fun hf => ?_) (fun hf => ?_)
  · refine z_iload_n C 1 d_Site_countSet_26 rfl rfl ?_
    exact z_iret C E (Nat.le_of_ble_eq_true rfl) (Nat.le_of_ble_eq_true rfl) d_Site_countSet_27 hf
  · refine z_aload_n C 0 d_Site_countSet_10 rfl rfl ?_
    refine z_iload_n C 2 d_Site_countSet_11 rfl rfl ?_
    refine z_iald C d_Site_countSet_12 hf (fun v2 hf => ?_)
    refine z_iconst C (v := (-1 : Int32)) d_Site_countSet_13 (by decide) ?_
    refine z_ic_eq (tgt := 20) C d_Site_countSet_14 (by decide) hf (fun hf => ?_) (fun hf => ?_)
    · refine z_sub [0, 1, 2] rfl ?_
      exact k_Site_countSet_20 N C E H4 _ _ _ _ hf
    · refine z_iinc C (v := (x2 + (1 : Int32))) (lv' := [(2, .int (x2 + (1 : Int32))), (1, .ref x1), (3, .int x3)]) 1 d_Site_countSet_17 rfl (by rfl) (by decide) rfl ?_
      refine z_sub [1, 0, 2] rfl ?_
      exact k_Site_countSet_20 N C E H4 _ _ _ _ hf

set_option maxHeartbeats 4000000 in
set_option maxRecDepth 100000 in
theorem k_Site_countSet (N : Nat) {X : zX} (C : zB X prog_6_method_12_code 4 R_Site rm_Site_countSet) {h0 : zH} {p : Int32 × zH} (E : zR X (some .int) rm_Site_countSet h0 (some (.int p.1)) p.2) : ∀ (x0 : Nat) (x1 : Nat) (h : zH), f_Site_countSet N x0 x1 h = some p → Zt X 4 0 0 0 [(0, .ref x0), (1, .ref x1)] [] h := by
  intro x0 x1 h hf
  unfold f_Site_countSet at hf
  refine z_iconst C (v := (0 : Int32)) d_Site_countSet_0 (by decide) ?_
  refine z_istore_n C (lv' := [(2, .int (0 : Int32)), (0, .ref x0), (1, .ref x1)]) d_Site_countSet_1 rfl (by decide) rfl ?_
  refine z_iconst C (v := (0 : Int32)) d_Site_countSet_2 (by decide) ?_
  refine z_istore_n C (lv' := [(3, .int (0 : Int32)), (2, .int (0 : Int32)), (0, .ref x0), (1, .ref x1)]) d_Site_countSet_3 rfl (by decide) rfl ?_
  refine z_sub [3, 1, 0] rfl ?_
  exact k_Site_countSet_4 N C E N _ _ _ _ hf

theorem c_Site_countSet (N : Nat) {l : Launch} {D : va_G} {T : List (ClassId × FieldType)} (hT : T.map (fun q => q.2) = ztl) {x0 : Nat} {x1 : Nat} {h : zH} {p : Int32 × zH} (hf : f_Site_countSet N x0 x1 h = some p) : zM l y_Site_countSet prog_6_method_12_code 4 (some .int) rm_Site_countSet D T [.ref x0, .ref x1] h (some (.int p.1)) p.2 :=
  z_enter (by decide) hT (Nat.le_of_ble_eq_true rfl) (fun X el eD eT hin C E => k_Site_countSet N C E x0 x1 h hf)
/-! ===== LevelTables$Table.sumOfSizes()I ===== -/
abbrev y_Table_sumOfSizes : MethodName := ⟨R_Table, "sumOfSizes", "()I"⟩
theorem pd_Table_sumOfSizes : y_Table_sumOfSizes.cls ≠ "java/lang/invoke/MethodHandle" ∧ y_Table_sumOfSizes.cls ≠ "java/lang/invoke/VarHandle" ∧ (parseMethodDescriptor y_Table_sumOfSizes.desc).map (fun d => d.parameters.length) = some 0 := ⟨by decide +kernel, by decide +kernel, by decide +kernel⟩
abbrev rm_Table_sumOfSizes : Room := { frames := 1, cells := 0, slots := 0, locals := 21 }
def b_Table_sumOfSizes_4 (N : Nat) (rc4 : Nat → Int32 → Int32 → zH → Option (Int32 × zH)) (x0 : Nat) (x1 : Int32) (x2 : Int32) (h : zH) : Option (Int32 × zH) :=
  Option.bind (zgR h x0 5 0) fun (v1 : Nat) =>
  Option.bind (zgI h v1 2 0) fun (v2 : Int32) =>
  (if v2 ≤ x2 then
    some (x1, h)
  else
    Option.bind (zck (zis h x0 5) (f_Table_slopeOf N x0 x2 h)) fun (p3 : Int32 × zH) =>
    rc4 x0 (x1 + (zabs p3.1)) (x2 + (1 : Int32)) p3.2)
def f_Table_sumOfSizes_4 (N : Nat) : Nat → Nat → Int32 → Int32 → zH → Option (Int32 × zH)
  | 0 => fun _ _ _ _ => none
  | n + 1 => fun x0 x1 x2 h => b_Table_sumOfSizes_4 N (f_Table_sumOfSizes_4 N n) x0 x1 x2 h
def f_Table_sumOfSizes (N : Nat) (x0 : Nat) (h : zH) : Option (Int32 × zH) :=
  f_Table_sumOfSizes_4 N N x0 (0 : Int32) (0 : Int32) h
theorem d_Table_sumOfSizes_0 : decode prog_8_method_7_code 0 = .ok (.iconst (0), 1) := by decide +kernel
theorem d_Table_sumOfSizes_1 : decode prog_8_method_7_code 1 = .ok (.istore_n (1), 1) := by decide +kernel
theorem d_Table_sumOfSizes_2 : decode prog_8_method_7_code 2 = .ok (.iconst (0), 1) := by decide +kernel
theorem d_Table_sumOfSizes_3 : decode prog_8_method_7_code 3 = .ok (.istore_n (2), 1) := by decide +kernel
theorem d_Table_sumOfSizes_4 : decode prog_8_method_7_code 4 = .ok (.iload_n (2), 1) := by decide +kernel
theorem d_Table_sumOfSizes_5 : decode prog_8_method_7_code 5 = .ok (.aload_n (0), 1) := by decide +kernel
theorem d_Table_sumOfSizes_6 : decode prog_8_method_7_code 6 = .ok (.getfield (23), 3) := by decide +kernel
theorem d_Table_sumOfSizes_9 : decode prog_8_method_7_code 9 = .ok (.getfield (31), 3) := by decide +kernel
theorem d_Table_sumOfSizes_12 : decode prog_8_method_7_code 12 = .ok (.if_icmp .ge (20), 3) := by decide +kernel
theorem d_Table_sumOfSizes_15 : decode prog_8_method_7_code 15 = .ok (.iload_n (1), 1) := by decide +kernel
theorem d_Table_sumOfSizes_16 : decode prog_8_method_7_code 16 = .ok (.aload_n (0), 1) := by decide +kernel
theorem d_Table_sumOfSizes_17 : decode prog_8_method_7_code 17 = .ok (.iload_n (2), 1) := by decide +kernel
theorem d_Table_sumOfSizes_18 : decode prog_8_method_7_code 18 = .ok (.invokevirtual (60), 3) := by decide +kernel
theorem d_Table_sumOfSizes_21 : decode prog_8_method_7_code 21 = .ok (.invokestatic (63), 3) := by decide +kernel
theorem d_Table_sumOfSizes_24 : decode prog_8_method_7_code 24 = .ok (.iadd, 1) := by decide +kernel
theorem d_Table_sumOfSizes_25 : decode prog_8_method_7_code 25 = .ok (.istore_n (1), 1) := by decide +kernel
theorem d_Table_sumOfSizes_26 : decode prog_8_method_7_code 26 = .ok (.iinc (2) (1), 3) := by decide +kernel
theorem d_Table_sumOfSizes_29 : decode prog_8_method_7_code 29 = .ok (.goto (-25), 3) := by decide +kernel
theorem d_Table_sumOfSizes_32 : decode prog_8_method_7_code 32 = .ok (.iload_n (1), 1) := by decide +kernel
theorem d_Table_sumOfSizes_33 : decode prog_8_method_7_code 33 = .ok (.ireturn, 1) := by decide +kernel
set_option maxHeartbeats 4000000 in
set_option maxRecDepth 100000 in
theorem k_Table_sumOfSizes_4 (N : Nat) {X : zX} (C : zB X prog_8_method_7_code 3 R_Table rm_Table_sumOfSizes) {h0 : zH} {p : Int32 × zH} (E : zR X (some .int) rm_Table_sumOfSizes h0 (some (.int p.1)) p.2) : ∀ n : Nat, ∀ (x0 : Nat) (x1 : Int32) (x2 : Int32) (h : zH), f_Table_sumOfSizes_4 N n x0 x1 x2 h = some p → Zt X 3 0 0 4 [(0, .ref x0), (1, .int x1), (2, .int x2)] [] h := by
  intro n
  induction n with
  | zero => intro x0 x1 x2 h hf; cases hf
  | succ n ih =>
  intro x0 x1 x2 h hf
  have H4 := ih
  replace hf : b_Table_sumOfSizes_4 N (f_Table_sumOfSizes_4 N n) x0 x1 x2 h = some p := hf
  unfold b_Table_sumOfSizes_4 at hf
  refine z_iload_n C 2 d_Table_sumOfSizes_4 rfl rfl ?_
  refine z_aload_n C 0 d_Table_sumOfSizes_5 rfl rfl ?_
  refine z_getR C 5 0 rfl in_Table (by decide) w_195 rfl d_Table_sumOfSizes_6 hf (fun v1 hf => ?_)
  refine z_getI C 2 0 rfl in_Site (by decide) w_94 rfl d_Table_sumOfSizes_9 hf (fun v2 hf => ?_)
  refine z_ic_ge (tgt := 32) C d_Table_sumOfSizes_12 (by decide) hf (fun hf => ?_) (fun hf => ?_)
  · refine z_iload_n C 1 d_Table_sumOfSizes_32 rfl rfl ?_
    exact z_iret C E (Nat.le_of_ble_eq_true rfl) (Nat.le_of_ble_eq_true rfl) d_Table_sumOfSizes_33 hf
  · refine z_iload_n C 1 d_Table_sumOfSizes_15 rfl rfl ?_
    refine z_aload_n C 0 d_Table_sumOfSizes_16 rfl rfl ?_
    refine z_iload_n C 2 d_Table_sumOfSizes_17 rfl rfl ?_
    obtain ⟨p3, hc, hf⟩ := Option.bind_eq_some_iff.mp hf
    obtain ⟨hz, hc⟩ := zck_some hc
    refine z_callV C (ci := 5) (c_Table_slopeOf N C.2.2.1 hc) rfl hz w_569 w_63 w_692 w_567 w_568 pd_Table_slopeOf rfl ⟨(Nat.le_of_ble_eq_true rfl), (Nat.le_of_ble_eq_true rfl)⟩ ⟨(Nat.le_of_ble_eq_true rfl), (Nat.le_of_ble_eq_true rfl)⟩ rfl (Nat.le_of_ble_eq_true rfl) d_Table_sumOfSizes_18 (k' := 0) (n' := 0) (stk' := [.int p3.1, .int x1]) rfl rfl rfl ?_
    refine z_mabs C w_675 w_407 w_58 w_408 (Nat.le_of_ble_eq_true rfl) (Nat.le_of_ble_eq_true rfl) (Nat.le_of_ble_eq_true rfl) (Nat.le_of_ble_eq_true rfl) d_Table_sumOfSizes_21 ?_
    refine z_iadd C d_Table_sumOfSizes_24 ?_
    refine z_istore_n C (lv' := [(1, .int (x1 + (zabs p3.1))), (0, .ref x0), (2, .int x2)]) d_Table_sumOfSizes_25 rfl (by decide) rfl ?_
    refine z_iinc C (v := (x2 + (1 : Int32))) (lv' := [(2, .int (x2 + (1 : Int32))), (1, .int (x1 + (zabs p3.1))), (0, .ref x0)]) 2 d_Table_sumOfSizes_26 rfl (by rfl) (by decide) rfl ?_
    refine z_goto (tgt := 4) C d_Table_sumOfSizes_29 (by decide) ?_
    refine z_sub [2, 1, 0] rfl ?_
    exact H4 _ _ _ _ hf

set_option maxHeartbeats 4000000 in
set_option maxRecDepth 100000 in
theorem k_Table_sumOfSizes (N : Nat) {X : zX} (C : zB X prog_8_method_7_code 3 R_Table rm_Table_sumOfSizes) {h0 : zH} {p : Int32 × zH} (E : zR X (some .int) rm_Table_sumOfSizes h0 (some (.int p.1)) p.2) : ∀ (x0 : Nat) (h : zH), f_Table_sumOfSizes N x0 h = some p → Zt X 3 0 0 0 [(0, .ref x0)] [] h := by
  intro x0 h hf
  unfold f_Table_sumOfSizes at hf
  refine z_iconst C (v := (0 : Int32)) d_Table_sumOfSizes_0 (by decide) ?_
  refine z_istore_n C (lv' := [(1, .int (0 : Int32)), (0, .ref x0)]) d_Table_sumOfSizes_1 rfl (by decide) rfl ?_
  refine z_iconst C (v := (0 : Int32)) d_Table_sumOfSizes_2 (by decide) ?_
  refine z_istore_n C (lv' := [(2, .int (0 : Int32)), (1, .int (0 : Int32)), (0, .ref x0)]) d_Table_sumOfSizes_3 rfl (by decide) rfl ?_
  refine z_sub [2, 1, 0] rfl ?_
  exact k_Table_sumOfSizes_4 N C E N _ _ _ _ hf

theorem c_Table_sumOfSizes (N : Nat) {l : Launch} {D : va_G} {T : List (ClassId × FieldType)} (hT : T.map (fun q => q.2) = ztl) {x0 : Nat} {h : zH} {p : Int32 × zH} (hf : f_Table_sumOfSizes N x0 h = some p) : zM l y_Table_sumOfSizes prog_8_method_7_code 3 (some .int) rm_Table_sumOfSizes D T [.ref x0] h (some (.int p.1)) p.2 :=
  z_enter (by decide) hT (Nat.le_of_ble_eq_true rfl) (fun X el eD eT hin C E => k_Table_sumOfSizes N C E x0 h hf)
/-! ===== LevelTables$Table.placesHold()Z ===== -/
abbrev y_Table_placesHold : MethodName := ⟨R_Table, "placesHold", "()Z"⟩
theorem pd_Table_placesHold : y_Table_placesHold.cls ≠ "java/lang/invoke/MethodHandle" ∧ y_Table_placesHold.cls ≠ "java/lang/invoke/VarHandle" ∧ (parseMethodDescriptor y_Table_placesHold.desc).map (fun d => d.parameters.length) = some 0 := ⟨by decide +kernel, by decide +kernel, by decide +kernel⟩
abbrev rm_Table_placesHold : Room := { frames := 1, cells := 0, slots := 0, locals := 23 }
def b_Table_placesHold_2 (N : Nat) (rc2 : Nat → Int32 → zH → Option (Int32 × zH)) (x0 : Nat) (x1 : Int32) (h : zH) : Option (Int32 × zH) :=
  Option.bind (zgR h x0 5 0) fun (v1 : Nat) =>
  Option.bind (zgI h v1 2 0) fun (v2 : Int32) =>
  (if v2 < x1 then
    zrb (1 : Int32) h
  else
    Option.bind (zgR h x0 5 0) fun (v3 : Nat) =>
    Option.bind (zgR h x0 5 2) fun (v4 : Nat) =>
    Option.bind (zaI h 0 v4 x1) fun (v5 : Int32) =>
    Option.bind (zck (zis h v3 2) (f_Site_isLevel N v3 v5 h)) fun (p6 : Int32 × zH) =>
    (if p6.1 = 0 then
      zrb (0 : Int32) p6.2
    else
      Option.bind (zgR p6.2 x0 5 0) fun (v7 : Nat) =>
      Option.bind (zgR p6.2 x0 5 2) fun (v8 : Nat) =>
      Option.bind (zaI p6.2 0 v8 x1) fun (v9 : Int32) =>
      Option.bind (zck (zis p6.2 v7 2) (f_Site_allows N v7 x1 v9 p6.2)) fun (p10 : Int32 × zH) =>
      (if p10.1 = 0 then
        zrb (0 : Int32) p10.2
      else
        rc2 x0 (x1 + (1 : Int32)) p10.2)))
def f_Table_placesHold_2 (N : Nat) : Nat → Nat → Int32 → zH → Option (Int32 × zH)
  | 0 => fun _ _ _ => none
  | n + 1 => fun x0 x1 h => b_Table_placesHold_2 N (f_Table_placesHold_2 N n) x0 x1 h
def f_Table_placesHold (N : Nat) (x0 : Nat) (h : zH) : Option (Int32 × zH) :=
  f_Table_placesHold_2 N N x0 (0 : Int32) h
theorem d_Table_placesHold_0 : decode prog_8_method_10_code 0 = .ok (.iconst (0), 1) := by decide +kernel
theorem d_Table_placesHold_1 : decode prog_8_method_10_code 1 = .ok (.istore_n (1), 1) := by decide +kernel
theorem d_Table_placesHold_2 : decode prog_8_method_10_code 2 = .ok (.iload_n (1), 1) := by decide +kernel
theorem d_Table_placesHold_3 : decode prog_8_method_10_code 3 = .ok (.aload_n (0), 1) := by decide +kernel
theorem d_Table_placesHold_4 : decode prog_8_method_10_code 4 = .ok (.getfield (23), 3) := by decide +kernel
theorem d_Table_placesHold_7 : decode prog_8_method_10_code 7 = .ok (.getfield (31), 3) := by decide +kernel
theorem d_Table_placesHold_10 : decode prog_8_method_10_code 10 = .ok (.if_icmp .gt (44), 3) := by decide +kernel
theorem d_Table_placesHold_13 : decode prog_8_method_10_code 13 = .ok (.aload_n (0), 1) := by decide +kernel
theorem d_Table_placesHold_14 : decode prog_8_method_10_code 14 = .ok (.getfield (23), 3) := by decide +kernel
theorem d_Table_placesHold_17 : decode prog_8_method_10_code 17 = .ok (.aload_n (0), 1) := by decide +kernel
theorem d_Table_placesHold_18 : decode prog_8_method_10_code 18 = .ok (.getfield (36), 3) := by decide +kernel
theorem d_Table_placesHold_21 : decode prog_8_method_10_code 21 = .ok (.iload_n (1), 1) := by decide +kernel
theorem d_Table_placesHold_22 : decode prog_8_method_10_code 22 = .ok (.iaload, 1) := by decide +kernel
theorem d_Table_placesHold_23 : decode prog_8_method_10_code 23 = .ok (.invokevirtual (76), 3) := by decide +kernel
theorem d_Table_placesHold_26 : decode prog_8_method_10_code 26 = .ok (.ifCond .eq (20), 3) := by decide +kernel
theorem d_Table_placesHold_29 : decode prog_8_method_10_code 29 = .ok (.aload_n (0), 1) := by decide +kernel
theorem d_Table_placesHold_30 : decode prog_8_method_10_code 30 = .ok (.getfield (23), 3) := by decide +kernel
theorem d_Table_placesHold_33 : decode prog_8_method_10_code 33 = .ok (.iload_n (1), 1) := by decide +kernel
theorem d_Table_placesHold_34 : decode prog_8_method_10_code 34 = .ok (.aload_n (0), 1) := by decide +kernel
theorem d_Table_placesHold_35 : decode prog_8_method_10_code 35 = .ok (.getfield (36), 3) := by decide +kernel
theorem d_Table_placesHold_38 : decode prog_8_method_10_code 38 = .ok (.iload_n (1), 1) := by decide +kernel
theorem d_Table_placesHold_39 : decode prog_8_method_10_code 39 = .ok (.iaload, 1) := by decide +kernel
theorem d_Table_placesHold_40 : decode prog_8_method_10_code 40 = .ok (.invokevirtual (79), 3) := by decide +kernel
theorem d_Table_placesHold_43 : decode prog_8_method_10_code 43 = .ok (.ifCond .ne (5), 3) := by decide +kernel
theorem d_Table_placesHold_46 : decode prog_8_method_10_code 46 = .ok (.iconst (0), 1) := by decide +kernel
theorem d_Table_placesHold_47 : decode prog_8_method_10_code 47 = .ok (.ireturn, 1) := by decide +kernel
theorem d_Table_placesHold_48 : decode prog_8_method_10_code 48 = .ok (.iinc (1) (1), 3) := by decide +kernel
theorem d_Table_placesHold_51 : decode prog_8_method_10_code 51 = .ok (.goto (-49), 3) := by decide +kernel
theorem d_Table_placesHold_54 : decode prog_8_method_10_code 54 = .ok (.iconst (1), 1) := by decide +kernel
theorem d_Table_placesHold_55 : decode prog_8_method_10_code 55 = .ok (.ireturn, 1) := by decide +kernel
set_option maxHeartbeats 4000000 in
set_option maxRecDepth 100000 in
theorem k_Table_placesHold_2 (N : Nat) {X : zX} (C : zB X prog_8_method_10_code 2 R_Table rm_Table_placesHold) {h0 : zH} {p : Int32 × zH} (E : zR X (some .boolean) rm_Table_placesHold h0 (some (.int p.1)) p.2) : ∀ n : Nat, ∀ (x0 : Nat) (x1 : Int32) (h : zH), f_Table_placesHold_2 N n x0 x1 h = some p → Zt X 2 0 0 2 [(0, .ref x0), (1, .int x1)] [] h := by
  intro n
  induction n with
  | zero => intro x0 x1 h hf; cases hf
  | succ n ih =>
  intro x0 x1 h hf
  have H2 := ih
  replace hf : b_Table_placesHold_2 N (f_Table_placesHold_2 N n) x0 x1 h = some p := hf
  unfold b_Table_placesHold_2 at hf
  refine z_iload_n C 1 d_Table_placesHold_2 rfl rfl ?_
  refine z_aload_n C 0 d_Table_placesHold_3 rfl rfl ?_
  refine z_getR C 5 0 rfl in_Table (by decide) w_195 rfl d_Table_placesHold_4 hf (fun v1 hf => ?_)
  refine z_getI C 2 0 rfl in_Site (by decide) w_94 rfl d_Table_placesHold_7 hf (fun v2 hf => ?_)
  refine z_ic_gt (tgt := 54) C d_Table_placesHold_10 (by decide) hf (fun hf => ?_) (fun hf => ?_)
  · refine z_iconst C (v := (1 : Int32)) d_Table_placesHold_54 (by decide) ?_
    exact z_zret C E (Nat.le_of_ble_eq_true rfl) (Nat.le_of_ble_eq_true rfl) d_Table_placesHold_55 hf
  · refine z_aload_n C 0 d_Table_placesHold_13 rfl rfl ?_
    refine z_getR C 5 0 rfl in_Table (by decide) w_195 rfl d_Table_placesHold_14 hf (fun v3 hf => ?_)
    refine z_aload_n C 0 d_Table_placesHold_17 rfl rfl ?_
    refine z_getR C 5 2 rfl in_Table (by decide) w_197 rfl d_Table_placesHold_18 hf (fun v4 hf => ?_)
    refine z_iload_n C 1 d_Table_placesHold_21 rfl rfl ?_
    refine z_iald C d_Table_placesHold_22 hf (fun v5 hf => ?_)
    obtain ⟨p6, hc, hf⟩ := Option.bind_eq_some_iff.mp hf
    obtain ⟨hz, hc⟩ := zck_some hc
    refine z_callV C (ci := 2) (c_Site_isLevel N C.2.2.1 hc) rfl hz w_308 w_59 w_714 w_306 w_307 pd_Site_isLevel rfl ⟨(Nat.le_of_ble_eq_true rfl), (Nat.le_of_ble_eq_true rfl)⟩ ⟨(Nat.le_of_ble_eq_true rfl), (Nat.le_of_ble_eq_true rfl)⟩ rfl (Nat.le_of_ble_eq_true rfl) d_Table_placesHold_23 (k' := 0) (n' := 0) (stk' := [.int p6.1]) rfl rfl rfl ?_
    refine z_if_eq (tgt := 46) C d_Table_placesHold_26 (by decide) hf (fun hf => ?_) (fun hf => ?_)
    · refine z_iconst C (v := (0 : Int32)) d_Table_placesHold_46 (by decide) ?_
      exact z_zret C E (Nat.le_of_ble_eq_true rfl) (Nat.le_of_ble_eq_true rfl) d_Table_placesHold_47 hf
    · refine z_aload_n C 0 d_Table_placesHold_29 rfl rfl ?_
      refine z_getR C 5 0 rfl in_Table (by decide) w_195 rfl d_Table_placesHold_30 hf (fun v7 hf => ?_)
      refine z_iload_n C 1 d_Table_placesHold_33 rfl rfl ?_
      refine z_aload_n C 0 d_Table_placesHold_34 rfl rfl ?_
      refine z_getR C 5 2 rfl in_Table (by decide) w_197 rfl d_Table_placesHold_35 hf (fun v8 hf => ?_)
      refine z_iload_n C 1 d_Table_placesHold_38 rfl rfl ?_
      refine z_iald C d_Table_placesHold_39 hf (fun v9 hf => ?_)
      obtain ⟨p10, hc, hf⟩ := Option.bind_eq_some_iff.mp hf
      obtain ⟨hz, hc⟩ := zck_some hc
      refine z_callV C (ci := 2) (c_Site_allows N C.2.2.1 hc) rfl hz w_375 w_59 w_715 w_373 w_374 pd_Site_allows rfl ⟨(Nat.le_of_ble_eq_true rfl), (Nat.le_of_ble_eq_true rfl)⟩ ⟨(Nat.le_of_ble_eq_true rfl), (Nat.le_of_ble_eq_true rfl)⟩ rfl (Nat.le_of_ble_eq_true rfl) d_Table_placesHold_40 (k' := 0) (n' := 0) (stk' := [.int p10.1]) rfl rfl rfl ?_
      refine z_if_ne (tgt := 48) C d_Table_placesHold_43 (by decide) hf (fun hf => ?_) (fun hf => ?_)
      · refine z_iinc C (v := (x1 + (1 : Int32))) (lv' := [(1, .int (x1 + (1 : Int32))), (0, .ref x0)]) 1 d_Table_placesHold_48 rfl (by rfl) (by decide) rfl ?_
        refine z_goto (tgt := 2) C d_Table_placesHold_51 (by decide) ?_
        refine z_sub [1, 0] rfl ?_
        exact H2 _ _ _ hf
      · refine z_iconst C (v := (0 : Int32)) d_Table_placesHold_46 (by decide) ?_
        exact z_zret C E (Nat.le_of_ble_eq_true rfl) (Nat.le_of_ble_eq_true rfl) d_Table_placesHold_47 hf

set_option maxHeartbeats 4000000 in
set_option maxRecDepth 100000 in
theorem k_Table_placesHold (N : Nat) {X : zX} (C : zB X prog_8_method_10_code 2 R_Table rm_Table_placesHold) {h0 : zH} {p : Int32 × zH} (E : zR X (some .boolean) rm_Table_placesHold h0 (some (.int p.1)) p.2) : ∀ (x0 : Nat) (h : zH), f_Table_placesHold N x0 h = some p → Zt X 2 0 0 0 [(0, .ref x0)] [] h := by
  intro x0 h hf
  unfold f_Table_placesHold at hf
  refine z_iconst C (v := (0 : Int32)) d_Table_placesHold_0 (by decide) ?_
  refine z_istore_n C (lv' := [(1, .int (0 : Int32)), (0, .ref x0)]) d_Table_placesHold_1 rfl (by decide) rfl ?_
  refine z_sub [1, 0] rfl ?_
  exact k_Table_placesHold_2 N C E N _ _ _ hf

theorem c_Table_placesHold (N : Nat) {l : Launch} {D : va_G} {T : List (ClassId × FieldType)} (hT : T.map (fun q => q.2) = ztl) {x0 : Nat} {h : zH} {p : Int32 × zH} (hf : f_Table_placesHold N x0 h = some p) : zM l y_Table_placesHold prog_8_method_10_code 2 (some .boolean) rm_Table_placesHold D T [.ref x0] h (some (.int p.1)) p.2 :=
  z_enter (by decide) hT (Nat.le_of_ble_eq_true rfl) (fun X el eD eT hin C E => k_Table_placesHold N C E x0 h hf)
/-! ===== LevelTables$Table.slopesHold()Z ===== -/
abbrev y_Table_slopesHold : MethodName := ⟨R_Table, "slopesHold", "()Z"⟩
theorem pd_Table_slopesHold : y_Table_slopesHold.cls ≠ "java/lang/invoke/MethodHandle" ∧ y_Table_slopesHold.cls ≠ "java/lang/invoke/VarHandle" ∧ (parseMethodDescriptor y_Table_slopesHold.desc).map (fun d => d.parameters.length) = some 0 := ⟨by decide +kernel, by decide +kernel, by decide +kernel⟩
abbrev rm_Table_slopesHold : Room := { frames := 2, cells := 0, slots := 0, locals := 43 }
def f_Table_slopesHold_58 (N : Nat) (rc2 : Nat → Int32 → zH → Option (Int32 × zH)) (x0 : Nat) (x1 : Int32) (h : zH) : Option (Int32 × zH) :=
  rc2 x0 (x1 + (1 : Int32)) h
def b_Table_slopesHold_2 (N : Nat) (rc2 : Nat → Int32 → zH → Option (Int32 × zH)) (x0 : Nat) (x1 : Int32) (h : zH) : Option (Int32 × zH) :=
  Option.bind (zgR h x0 5 0) fun (v1 : Nat) =>
  Option.bind (zgI h v1 2 0) fun (v2 : Int32) =>
  (if v2 ≤ x1 then
    zrb (1 : Int32) h
  else
    Option.bind (zgR h x0 5 0) fun (v3 : Nat) =>
    Option.bind (zck (zis h x0 5) (f_Table_slopeOf N x0 x1 h)) fun (p4 : Int32 × zH) =>
    Option.bind (zck (zis p4.2 v3 2) (f_Site_slopeFits N v3 p4.1 p4.2)) fun (p5 : Int32 × zH) =>
    (if p5.1 = 0 then
      zrb (0 : Int32) p5.2
    else
      (if x1 ≤ 0 then
        f_Table_slopesHold_58 N rc2 x0 x1 p5.2
      else
        Option.bind (zgR p5.2 x0 5 0) fun (v6 : Nat) =>
        Option.bind (zck (zis p5.2 x0 5) (f_Table_slopeOf N x0 (x1 - (1 : Int32)) p5.2)) fun (p7 : Int32 × zH) =>
        Option.bind (zck (zis p7.2 x0 5) (f_Table_slopeOf N x0 x1 p7.2)) fun (p8 : Int32 × zH) =>
        Option.bind (zck (zis p8.2 v6 2) (f_Site_changeFits N v6 p7.1 p8.1 p8.2)) fun (p9 : Int32 × zH) =>
        (if p9.1 = 0 then
          zrb (0 : Int32) p9.2
        else
          f_Table_slopesHold_58 N rc2 x0 x1 p9.2))))
def f_Table_slopesHold_2 (N : Nat) : Nat → Nat → Int32 → zH → Option (Int32 × zH)
  | 0 => fun _ _ _ => none
  | n + 1 => fun x0 x1 h => b_Table_slopesHold_2 N (f_Table_slopesHold_2 N n) x0 x1 h
def f_Table_slopesHold (N : Nat) (x0 : Nat) (h : zH) : Option (Int32 × zH) :=
  f_Table_slopesHold_2 N N x0 (0 : Int32) h
theorem d_Table_slopesHold_0 : decode prog_8_method_11_code 0 = .ok (.iconst (0), 1) := by decide +kernel
theorem d_Table_slopesHold_1 : decode prog_8_method_11_code 1 = .ok (.istore_n (1), 1) := by decide +kernel
theorem d_Table_slopesHold_2 : decode prog_8_method_11_code 2 = .ok (.iload_n (1), 1) := by decide +kernel
theorem d_Table_slopesHold_3 : decode prog_8_method_11_code 3 = .ok (.aload_n (0), 1) := by decide +kernel
theorem d_Table_slopesHold_4 : decode prog_8_method_11_code 4 = .ok (.getfield (23), 3) := by decide +kernel
theorem d_Table_slopesHold_7 : decode prog_8_method_11_code 7 = .ok (.getfield (31), 3) := by decide +kernel
theorem d_Table_slopesHold_10 : decode prog_8_method_11_code 10 = .ok (.if_icmp .ge (54), 3) := by decide +kernel
theorem d_Table_slopesHold_13 : decode prog_8_method_11_code 13 = .ok (.aload_n (0), 1) := by decide +kernel
theorem d_Table_slopesHold_14 : decode prog_8_method_11_code 14 = .ok (.getfield (23), 3) := by decide +kernel
theorem d_Table_slopesHold_17 : decode prog_8_method_11_code 17 = .ok (.aload_n (0), 1) := by decide +kernel
theorem d_Table_slopesHold_18 : decode prog_8_method_11_code 18 = .ok (.iload_n (1), 1) := by decide +kernel
theorem d_Table_slopesHold_19 : decode prog_8_method_11_code 19 = .ok (.invokevirtual (60), 3) := by decide +kernel
theorem d_Table_slopesHold_22 : decode prog_8_method_11_code 22 = .ok (.invokevirtual (83), 3) := by decide +kernel
theorem d_Table_slopesHold_25 : decode prog_8_method_11_code 25 = .ok (.ifCond .ne (5), 3) := by decide +kernel
theorem d_Table_slopesHold_28 : decode prog_8_method_11_code 28 = .ok (.iconst (0), 1) := by decide +kernel
theorem d_Table_slopesHold_29 : decode prog_8_method_11_code 29 = .ok (.ireturn, 1) := by decide +kernel
theorem d_Table_slopesHold_30 : decode prog_8_method_11_code 30 = .ok (.iload_n (1), 1) := by decide +kernel
theorem d_Table_slopesHold_31 : decode prog_8_method_11_code 31 = .ok (.ifCond .le (27), 3) := by decide +kernel
theorem d_Table_slopesHold_34 : decode prog_8_method_11_code 34 = .ok (.aload_n (0), 1) := by decide +kernel
theorem d_Table_slopesHold_35 : decode prog_8_method_11_code 35 = .ok (.getfield (23), 3) := by decide +kernel
theorem d_Table_slopesHold_38 : decode prog_8_method_11_code 38 = .ok (.aload_n (0), 1) := by decide +kernel
theorem d_Table_slopesHold_39 : decode prog_8_method_11_code 39 = .ok (.iload_n (1), 1) := by decide +kernel
theorem d_Table_slopesHold_40 : decode prog_8_method_11_code 40 = .ok (.iconst (1), 1) := by decide +kernel
theorem d_Table_slopesHold_41 : decode prog_8_method_11_code 41 = .ok (.isub, 1) := by decide +kernel
theorem d_Table_slopesHold_42 : decode prog_8_method_11_code 42 = .ok (.invokevirtual (60), 3) := by decide +kernel
theorem d_Table_slopesHold_45 : decode prog_8_method_11_code 45 = .ok (.aload_n (0), 1) := by decide +kernel
theorem d_Table_slopesHold_46 : decode prog_8_method_11_code 46 = .ok (.iload_n (1), 1) := by decide +kernel
theorem d_Table_slopesHold_47 : decode prog_8_method_11_code 47 = .ok (.invokevirtual (60), 3) := by decide +kernel
theorem d_Table_slopesHold_50 : decode prog_8_method_11_code 50 = .ok (.invokevirtual (86), 3) := by decide +kernel
theorem d_Table_slopesHold_53 : decode prog_8_method_11_code 53 = .ok (.ifCond .ne (5), 3) := by decide +kernel
theorem d_Table_slopesHold_56 : decode prog_8_method_11_code 56 = .ok (.iconst (0), 1) := by decide +kernel
theorem d_Table_slopesHold_57 : decode prog_8_method_11_code 57 = .ok (.ireturn, 1) := by decide +kernel
theorem d_Table_slopesHold_58 : decode prog_8_method_11_code 58 = .ok (.iinc (1) (1), 3) := by decide +kernel
theorem d_Table_slopesHold_61 : decode prog_8_method_11_code 61 = .ok (.goto (-59), 3) := by decide +kernel
theorem d_Table_slopesHold_64 : decode prog_8_method_11_code 64 = .ok (.iconst (1), 1) := by decide +kernel
theorem d_Table_slopesHold_65 : decode prog_8_method_11_code 65 = .ok (.ireturn, 1) := by decide +kernel
set_option maxHeartbeats 4000000 in
set_option maxRecDepth 100000 in
theorem k_Table_slopesHold_58 (N : Nat) {X : zX} (C : zB X prog_8_method_11_code 2 R_Table rm_Table_slopesHold) {h0 : zH} {p : Int32 × zH} (E : zR X (some .boolean) rm_Table_slopesHold h0 (some (.int p.1)) p.2) {rc2 : Nat → Int32 → zH → Option (Int32 × zH)} (H2 : ∀ (x0 : Nat) (x1 : Int32) (h : zH), rc2 x0 x1 h = some p → Zt X 2 0 0 2 [(0, .ref x0), (1, .int x1)] [] h) : ∀ (x0 : Nat) (x1 : Int32) (h : zH), f_Table_slopesHold_58 N rc2 x0 x1 h = some p → Zt X 2 0 0 58 [(0, .ref x0), (1, .int x1)] [] h := by
  intro x0 x1 h hf
  unfold f_Table_slopesHold_58 at hf
  refine z_iinc C (v := (x1 + (1 : Int32))) (lv' := [(1, .int (x1 + (1 : Int32))), (0, .ref x0)]) 1 d_Table_slopesHold_58 rfl (by rfl) (by decide) rfl ?_
  refine z_goto (tgt := 2) C d_Table_slopesHold_61 (by decide) ?_
  refine z_sub [1, 0] rfl ?_
  exact H2 _ _ _ hf

set_option maxHeartbeats 4000000 in
set_option maxRecDepth 100000 in
theorem k_Table_slopesHold_2 (N : Nat) {X : zX} (C : zB X prog_8_method_11_code 2 R_Table rm_Table_slopesHold) {h0 : zH} {p : Int32 × zH} (E : zR X (some .boolean) rm_Table_slopesHold h0 (some (.int p.1)) p.2) : ∀ n : Nat, ∀ (x0 : Nat) (x1 : Int32) (h : zH), f_Table_slopesHold_2 N n x0 x1 h = some p → Zt X 2 0 0 2 [(0, .ref x0), (1, .int x1)] [] h := by
  intro n
  induction n with
  | zero => intro x0 x1 h hf; cases hf
  | succ n ih =>
  intro x0 x1 h hf
  have H2 := ih
  replace hf : b_Table_slopesHold_2 N (f_Table_slopesHold_2 N n) x0 x1 h = some p := hf
  unfold b_Table_slopesHold_2 at hf
  refine z_iload_n C 1 d_Table_slopesHold_2 rfl rfl ?_
  refine z_aload_n C 0 d_Table_slopesHold_3 rfl rfl ?_
  refine z_getR C 5 0 rfl in_Table (by decide) w_195 rfl d_Table_slopesHold_4 hf (fun v1 hf => ?_)
  refine z_getI C 2 0 rfl in_Site (by decide) w_94 rfl d_Table_slopesHold_7 hf (fun v2 hf => ?_)
  refine z_ic_ge (tgt := 64) C d_Table_slopesHold_10 (by decide) hf (fun hf => ?_) (fun hf => ?_)
  · refine z_iconst C (v := (1 : Int32)) d_Table_slopesHold_64 (by decide) ?_
    exact z_zret C E (Nat.le_of_ble_eq_true rfl) (Nat.le_of_ble_eq_true rfl) d_Table_slopesHold_65 hf
  · refine z_aload_n C 0 d_Table_slopesHold_13 rfl rfl ?_
    refine z_getR C 5 0 rfl in_Table (by decide) w_195 rfl d_Table_slopesHold_14 hf (fun v3 hf => ?_)
    refine z_aload_n C 0 d_Table_slopesHold_17 rfl rfl ?_
    refine z_iload_n C 1 d_Table_slopesHold_18 rfl rfl ?_
    obtain ⟨p4, hc, hf⟩ := Option.bind_eq_some_iff.mp hf
    obtain ⟨hz, hc⟩ := zck_some hc
    refine z_callV C (ci := 5) (c_Table_slopeOf N C.2.2.1 hc) rfl hz w_569 w_63 w_692 w_567 w_568 pd_Table_slopeOf rfl ⟨(Nat.le_of_ble_eq_true rfl), (Nat.le_of_ble_eq_true rfl)⟩ ⟨(Nat.le_of_ble_eq_true rfl), (Nat.le_of_ble_eq_true rfl)⟩ rfl (Nat.le_of_ble_eq_true rfl) d_Table_slopesHold_19 (k' := 0) (n' := 0) (stk' := [.int p4.1, .ref v3]) rfl rfl rfl ?_
    obtain ⟨p5, hc, hf⟩ := Option.bind_eq_some_iff.mp hf
    obtain ⟨hz, hc⟩ := zck_some hc
    refine z_callV C (ci := 2) (c_Site_slopeFits N C.2.2.1 hc) rfl hz w_405 w_59 w_720 w_403 w_404 pd_Site_slopeFits rfl ⟨(Nat.le_of_ble_eq_true rfl), (Nat.le_of_ble_eq_true rfl)⟩ ⟨(Nat.le_of_ble_eq_true rfl), (Nat.le_of_ble_eq_true rfl)⟩ rfl (Nat.le_of_ble_eq_true rfl) d_Table_slopesHold_22 (k' := 0) (n' := 0) (stk' := [.int p5.1]) rfl rfl rfl ?_
    refine z_if_ne (tgt := 30) C d_Table_slopesHold_25 (by decide) hf (fun hf => ?_) (fun hf => ?_)
    · refine z_iload_n C 1 d_Table_slopesHold_30 rfl rfl ?_
      refine z_if_le (tgt := 58) C d_Table_slopesHold_31 (by decide) hf (fun hf => ?_) (fun hf => ?_)
      · refine z_sub [0, 1] rfl ?_
        exact k_Table_slopesHold_58 N C E H2 _ _ _ hf
      · refine z_aload_n C 0 d_Table_slopesHold_34 rfl rfl ?_
        refine z_getR C 5 0 rfl in_Table (by decide) w_195 rfl d_Table_slopesHold_35 hf (fun v6 hf => ?_)
        refine z_aload_n C 0 d_Table_slopesHold_38 rfl rfl ?_
        refine z_iload_n C 1 d_Table_slopesHold_39 rfl rfl ?_
        refine z_iconst C (v := (1 : Int32)) d_Table_slopesHold_40 (by decide) ?_
        refine z_isub C d_Table_slopesHold_41 ?_
        obtain ⟨p7, hc, hf⟩ := Option.bind_eq_some_iff.mp hf
        obtain ⟨hz, hc⟩ := zck_some hc
        refine z_callV C (ci := 5) (c_Table_slopeOf N C.2.2.1 hc) rfl hz w_569 w_63 w_692 w_567 w_568 pd_Table_slopeOf rfl ⟨(Nat.le_of_ble_eq_true rfl), (Nat.le_of_ble_eq_true rfl)⟩ ⟨(Nat.le_of_ble_eq_true rfl), (Nat.le_of_ble_eq_true rfl)⟩ rfl (Nat.le_of_ble_eq_true rfl) d_Table_slopesHold_42 (k' := 0) (n' := 0) (stk' := [.int p7.1, .ref v6]) rfl rfl rfl ?_
        refine z_aload_n C 0 d_Table_slopesHold_45 rfl rfl ?_
        refine z_iload_n C 1 d_Table_slopesHold_46 rfl rfl ?_
        obtain ⟨p8, hc, hf⟩ := Option.bind_eq_some_iff.mp hf
        obtain ⟨hz, hc⟩ := zck_some hc
        refine z_callV C (ci := 5) (c_Table_slopeOf N C.2.2.1 hc) rfl hz w_569 w_63 w_692 w_567 w_568 pd_Table_slopeOf rfl ⟨(Nat.le_of_ble_eq_true rfl), (Nat.le_of_ble_eq_true rfl)⟩ ⟨(Nat.le_of_ble_eq_true rfl), (Nat.le_of_ble_eq_true rfl)⟩ rfl (Nat.le_of_ble_eq_true rfl) d_Table_slopesHold_47 (k' := 0) (n' := 0) (stk' := [.int p8.1, .int p7.1, .ref v6]) rfl rfl rfl ?_
        obtain ⟨p9, hc, hf⟩ := Option.bind_eq_some_iff.mp hf
        obtain ⟨hz, hc⟩ := zck_some hc
        refine z_callV C (ci := 2) (c_Site_changeFits N C.2.2.1 hc) rfl hz w_573 w_59 w_721 w_571 w_572 pd_Site_changeFits rfl ⟨(Nat.le_of_ble_eq_true rfl), (Nat.le_of_ble_eq_true rfl)⟩ ⟨(Nat.le_of_ble_eq_true rfl), (Nat.le_of_ble_eq_true rfl)⟩ rfl (Nat.le_of_ble_eq_true rfl) d_Table_slopesHold_50 (k' := 0) (n' := 0) (stk' := [.int p9.1]) rfl rfl rfl ?_
        refine z_if_ne (tgt := 58) C d_Table_slopesHold_53 (by decide) hf (fun hf => ?_) (fun hf => ?_)
        · refine z_sub [0, 1] rfl ?_
          exact k_Table_slopesHold_58 N C E H2 _ _ _ hf
        · refine z_iconst C (v := (0 : Int32)) d_Table_slopesHold_56 (by decide) ?_
          exact z_zret C E (Nat.le_of_ble_eq_true rfl) (Nat.le_of_ble_eq_true rfl) d_Table_slopesHold_57 hf
    · refine z_iconst C (v := (0 : Int32)) d_Table_slopesHold_28 (by decide) ?_
      exact z_zret C E (Nat.le_of_ble_eq_true rfl) (Nat.le_of_ble_eq_true rfl) d_Table_slopesHold_29 hf

set_option maxHeartbeats 4000000 in
set_option maxRecDepth 100000 in
theorem k_Table_slopesHold (N : Nat) {X : zX} (C : zB X prog_8_method_11_code 2 R_Table rm_Table_slopesHold) {h0 : zH} {p : Int32 × zH} (E : zR X (some .boolean) rm_Table_slopesHold h0 (some (.int p.1)) p.2) : ∀ (x0 : Nat) (h : zH), f_Table_slopesHold N x0 h = some p → Zt X 2 0 0 0 [(0, .ref x0)] [] h := by
  intro x0 h hf
  unfold f_Table_slopesHold at hf
  refine z_iconst C (v := (0 : Int32)) d_Table_slopesHold_0 (by decide) ?_
  refine z_istore_n C (lv' := [(1, .int (0 : Int32)), (0, .ref x0)]) d_Table_slopesHold_1 rfl (by decide) rfl ?_
  refine z_sub [1, 0] rfl ?_
  exact k_Table_slopesHold_2 N C E N _ _ _ hf

theorem c_Table_slopesHold (N : Nat) {l : Launch} {D : va_G} {T : List (ClassId × FieldType)} (hT : T.map (fun q => q.2) = ztl) {x0 : Nat} {h : zH} {p : Int32 × zH} (hf : f_Table_slopesHold N x0 h = some p) : zM l y_Table_slopesHold prog_8_method_11_code 2 (some .boolean) rm_Table_slopesHold D T [.ref x0] h (some (.int p.1)) p.2 :=
  z_enter (by decide) hT (Nat.le_of_ble_eq_true rfl) (fun X el eD eT hin C E => k_Table_slopesHold N C E x0 h hf)
/-! ===== LevelTables$Table.spanHolds(I)Z ===== -/
abbrev y_Table_spanHolds : MethodName := ⟨R_Table, "spanHolds", "(I)Z"⟩
theorem pd_Table_spanHolds : y_Table_spanHolds.cls ≠ "java/lang/invoke/MethodHandle" ∧ y_Table_spanHolds.cls ≠ "java/lang/invoke/VarHandle" ∧ (parseMethodDescriptor y_Table_spanHolds.desc).map (fun d => d.parameters.length) = some 1 := ⟨by decide +kernel, by decide +kernel, by decide +kernel⟩
abbrev rm_Table_spanHolds : Room := { frames := 2, cells := 0, slots := 0, locals := 51 }
def b_Table_spanHolds_19 (N : Nat) (rc19 : Nat → Int32 → Int32 → Int32 → Int32 → zH → Option (Int32 × zH)) (x0 : Nat) (x1 : Int32) (x2 : Int32) (x3 : Int32) (x4 : Int32) (h : zH) : Option (Int32 × zH) :=
  Option.bind (zgR h x0 5 1) fun (v1 : Nat) =>
  Option.bind (zgR h v1 3 2) fun (v2 : Nat) =>
  Option.bind (zaI h 0 v2 x1) fun (v3 : Int32) =>
  (if v3 ≤ x4 then
    Option.bind (zgR h x0 5 1) fun (v4 : Nat) =>
    Option.bind (zgR h x0 5 0) fun (v5 : Nat) =>
    Option.bind (zgR h x0 5 2) fun (v6 : Nat) =>
    Option.bind (zaI h 0 v6 x2) fun (v7 : Int32) =>
    Option.bind (zck (zis h v4 3) (f_Spans_suits N v4 v5 x1 v7 x3 h)) fun (p8 : Int32 × zH) =>
    zrb p8.1 p8.2
  else
    Option.bind (zck (zis h x0 5) (f_Table_slopeOf N x0 x4 h)) fun (p9 : Int32 × zH) =>
    (if p9.1 = x3 then
      rc19 x0 x1 x2 x3 (x4 + (1 : Int32)) p9.2
    else
      zrb (0 : Int32) p9.2))
def f_Table_spanHolds_19 (N : Nat) : Nat → Nat → Int32 → Int32 → Int32 → Int32 → zH → Option (Int32 × zH)
  | 0 => fun _ _ _ _ _ _ => none
  | n + 1 => fun x0 x1 x2 x3 x4 h => b_Table_spanHolds_19 N (f_Table_spanHolds_19 N n) x0 x1 x2 x3 x4 h
def f_Table_spanHolds (N : Nat) (x0 : Nat) (x1 : Int32) (h : zH) : Option (Int32 × zH) :=
  Option.bind (zgR h x0 5 1) fun (v10 : Nat) =>
  Option.bind (zgR h v10 3 1) fun (v11 : Nat) =>
  Option.bind (zaI h 0 v11 x1) fun (v12 : Int32) =>
  Option.bind (zck (zis h x0 5) (f_Table_slopeOf N x0 v12 h)) fun (p13 : Int32 × zH) =>
  f_Table_spanHolds_19 N N x0 x1 v12 p13.1 v12 p13.2
theorem d_Table_spanHolds_0 : decode prog_8_method_13_code 0 = .ok (.aload_n (0), 1) := by decide +kernel
theorem d_Table_spanHolds_1 : decode prog_8_method_13_code 1 = .ok (.getfield (27), 3) := by decide +kernel
theorem d_Table_spanHolds_4 : decode prog_8_method_13_code 4 = .ok (.getfield (97), 3) := by decide +kernel
theorem d_Table_spanHolds_7 : decode prog_8_method_13_code 7 = .ok (.iload_n (1), 1) := by decide +kernel
theorem d_Table_spanHolds_8 : decode prog_8_method_13_code 8 = .ok (.iaload, 1) := by decide +kernel
theorem d_Table_spanHolds_9 : decode prog_8_method_13_code 9 = .ok (.istore_n (2), 1) := by decide +kernel
theorem d_Table_spanHolds_10 : decode prog_8_method_13_code 10 = .ok (.aload_n (0), 1) := by decide +kernel
theorem d_Table_spanHolds_11 : decode prog_8_method_13_code 11 = .ok (.iload_n (2), 1) := by decide +kernel
theorem d_Table_spanHolds_12 : decode prog_8_method_13_code 12 = .ok (.invokevirtual (60), 3) := by decide +kernel
theorem d_Table_spanHolds_15 : decode prog_8_method_13_code 15 = .ok (.istore_n (3), 1) := by decide +kernel
theorem d_Table_spanHolds_16 : decode prog_8_method_13_code 16 = .ok (.iload_n (2), 1) := by decide +kernel
theorem d_Table_spanHolds_17 : decode prog_8_method_13_code 17 = .ok (.istore (4), 2) := by decide +kernel
theorem d_Table_spanHolds_19 : decode prog_8_method_13_code 19 = .ok (.iload (4), 2) := by decide +kernel
theorem d_Table_spanHolds_21 : decode prog_8_method_13_code 21 = .ok (.aload_n (0), 1) := by decide +kernel
theorem d_Table_spanHolds_22 : decode prog_8_method_13_code 22 = .ok (.getfield (27), 3) := by decide +kernel
theorem d_Table_spanHolds_25 : decode prog_8_method_13_code 25 = .ok (.getfield (100), 3) := by decide +kernel
theorem d_Table_spanHolds_28 : decode prog_8_method_13_code 28 = .ok (.iload_n (1), 1) := by decide +kernel
theorem d_Table_spanHolds_29 : decode prog_8_method_13_code 29 = .ok (.iaload, 1) := by decide +kernel
theorem d_Table_spanHolds_30 : decode prog_8_method_13_code 30 = .ok (.if_icmp .ge (21), 3) := by decide +kernel
theorem d_Table_spanHolds_33 : decode prog_8_method_13_code 33 = .ok (.aload_n (0), 1) := by decide +kernel
theorem d_Table_spanHolds_34 : decode prog_8_method_13_code 34 = .ok (.iload (4), 2) := by decide +kernel
theorem d_Table_spanHolds_36 : decode prog_8_method_13_code 36 = .ok (.invokevirtual (60), 3) := by decide +kernel
theorem d_Table_spanHolds_39 : decode prog_8_method_13_code 39 = .ok (.iload_n (3), 1) := by decide +kernel
theorem d_Table_spanHolds_40 : decode prog_8_method_13_code 40 = .ok (.if_icmp .eq (5), 3) := by decide +kernel
theorem d_Table_spanHolds_43 : decode prog_8_method_13_code 43 = .ok (.iconst (0), 1) := by decide +kernel
theorem d_Table_spanHolds_44 : decode prog_8_method_13_code 44 = .ok (.ireturn, 1) := by decide +kernel
theorem d_Table_spanHolds_45 : decode prog_8_method_13_code 45 = .ok (.iinc (4) (1), 3) := by decide +kernel
theorem d_Table_spanHolds_48 : decode prog_8_method_13_code 48 = .ok (.goto (-29), 3) := by decide +kernel
theorem d_Table_spanHolds_51 : decode prog_8_method_13_code 51 = .ok (.aload_n (0), 1) := by decide +kernel
theorem d_Table_spanHolds_52 : decode prog_8_method_13_code 52 = .ok (.getfield (27), 3) := by decide +kernel
theorem d_Table_spanHolds_55 : decode prog_8_method_13_code 55 = .ok (.aload_n (0), 1) := by decide +kernel
theorem d_Table_spanHolds_56 : decode prog_8_method_13_code 56 = .ok (.getfield (23), 3) := by decide +kernel
theorem d_Table_spanHolds_59 : decode prog_8_method_13_code 59 = .ok (.iload_n (1), 1) := by decide +kernel
theorem d_Table_spanHolds_60 : decode prog_8_method_13_code 60 = .ok (.aload_n (0), 1) := by decide +kernel
theorem d_Table_spanHolds_61 : decode prog_8_method_13_code 61 = .ok (.getfield (36), 3) := by decide +kernel
theorem d_Table_spanHolds_64 : decode prog_8_method_13_code 64 = .ok (.iload_n (2), 1) := by decide +kernel
theorem d_Table_spanHolds_65 : decode prog_8_method_13_code 65 = .ok (.iaload, 1) := by decide +kernel
theorem d_Table_spanHolds_66 : decode prog_8_method_13_code 66 = .ok (.iload_n (3), 1) := by decide +kernel
theorem d_Table_spanHolds_67 : decode prog_8_method_13_code 67 = .ok (.invokevirtual (103), 3) := by decide +kernel
theorem d_Table_spanHolds_70 : decode prog_8_method_13_code 70 = .ok (.ireturn, 1) := by decide +kernel
set_option maxHeartbeats 4000000 in
set_option maxRecDepth 100000 in
theorem k_Table_spanHolds_19 (N : Nat) {X : zX} (C : zB X prog_8_method_13_code 5 R_Table rm_Table_spanHolds) {h0 : zH} {p : Int32 × zH} (E : zR X (some .boolean) rm_Table_spanHolds h0 (some (.int p.1)) p.2) : ∀ n : Nat, ∀ (x0 : Nat) (x1 : Int32) (x2 : Int32) (x3 : Int32) (x4 : Int32) (h : zH), f_Table_spanHolds_19 N n x0 x1 x2 x3 x4 h = some p → Zt X 5 0 0 19 [(0, .ref x0), (1, .int x1), (2, .int x2), (3, .int x3), (4, .int x4)] [] h := by
  intro n
  induction n with
  | zero => intro x0 x1 x2 x3 x4 h hf; cases hf
  | succ n ih =>
  intro x0 x1 x2 x3 x4 h hf
  have H19 := ih
  replace hf : b_Table_spanHolds_19 N (f_Table_spanHolds_19 N n) x0 x1 x2 x3 x4 h = some p := hf
  unfold b_Table_spanHolds_19 at hf
  refine z_iload C 4 d_Table_spanHolds_19 rfl ?_
  refine z_aload_n C 0 d_Table_spanHolds_21 rfl rfl ?_
  refine z_getR C 5 1 rfl in_Table (by decide) w_196 rfl d_Table_spanHolds_22 hf (fun v1 hf => ?_)
  refine z_getR C 3 2 rfl in_Spans (by decide) w_156 rfl d_Table_spanHolds_25 hf (fun v2 hf => ?_)
  refine z_iload_n C 1 d_Table_spanHolds_28 rfl rfl ?_
  refine z_iald C d_Table_spanHolds_29 hf (fun v3 hf => ?_)
  refine z_ic_ge (tgt := 51) C d_Table_spanHolds_30 (by decide) hf (fun hf => ?_) (fun hf => ?_)
  · refine z_aload_n C 0 d_Table_spanHolds_51 rfl rfl ?_
    refine z_getR C 5 1 rfl in_Table (by decide) w_196 rfl d_Table_spanHolds_52 hf (fun v4 hf => ?_)
    refine z_aload_n C 0 d_Table_spanHolds_55 rfl rfl ?_
    refine z_getR C 5 0 rfl in_Table (by decide) w_195 rfl d_Table_spanHolds_56 hf (fun v5 hf => ?_)
    refine z_iload_n C 1 d_Table_spanHolds_59 rfl rfl ?_
    refine z_aload_n C 0 d_Table_spanHolds_60 rfl rfl ?_
    refine z_getR C 5 2 rfl in_Table (by decide) w_197 rfl d_Table_spanHolds_61 hf (fun v6 hf => ?_)
    refine z_iload_n C 2 d_Table_spanHolds_64 rfl rfl ?_
    refine z_iald C d_Table_spanHolds_65 hf (fun v7 hf => ?_)
    refine z_iload_n C 3 d_Table_spanHolds_66 rfl rfl ?_
    obtain ⟨p8, hc, hf⟩ := Option.bind_eq_some_iff.mp hf
    obtain ⟨hz, hc⟩ := zck_some hc
    refine z_callV C (ci := 3) (c_Spans_suits N C.2.2.1 hc) rfl hz w_519 w_61 w_730 w_517 w_518 pd_Spans_suits rfl ⟨(Nat.le_of_ble_eq_true rfl), (Nat.le_of_ble_eq_true rfl)⟩ ⟨(Nat.le_of_ble_eq_true rfl), (Nat.le_of_ble_eq_true rfl)⟩ rfl (Nat.le_of_ble_eq_true rfl) d_Table_spanHolds_67 (k' := 0) (n' := 0) (stk' := [.int p8.1]) rfl rfl rfl ?_
    exact z_zret C E (Nat.le_of_ble_eq_true rfl) (Nat.le_of_ble_eq_true rfl) d_Table_spanHolds_70 hf
  · refine z_aload_n C 0 d_Table_spanHolds_33 rfl rfl ?_
    refine z_iload C 4 d_Table_spanHolds_34 rfl ?_
    obtain ⟨p9, hc, hf⟩ := Option.bind_eq_some_iff.mp hf
    obtain ⟨hz, hc⟩ := zck_some hc
    refine z_callV C (ci := 5) (c_Table_slopeOf N C.2.2.1 hc) rfl hz w_569 w_63 w_692 w_567 w_568 pd_Table_slopeOf rfl ⟨(Nat.le_of_ble_eq_true rfl), (Nat.le_of_ble_eq_true rfl)⟩ ⟨(Nat.le_of_ble_eq_true rfl), (Nat.le_of_ble_eq_true rfl)⟩ rfl (Nat.le_of_ble_eq_true rfl) d_Table_spanHolds_36 (k' := 0) (n' := 0) (stk' := [.int p9.1]) rfl rfl rfl ?_
    refine z_iload_n C 3 d_Table_spanHolds_39 rfl rfl ?_
    refine z_ic_eq (tgt := 45) C d_Table_spanHolds_40 (by decide) hf (fun hf => ?_) (fun hf => ?_)
    · refine z_iinc C (v := (x4 + (1 : Int32))) (lv' := [(4, .int (x4 + (1 : Int32))), (0, .ref x0), (1, .int x1), (2, .int x2), (3, .int x3)]) 4 d_Table_spanHolds_45 rfl (by rfl) (by decide) rfl ?_
      refine z_goto (tgt := 19) C d_Table_spanHolds_48 (by decide) ?_
      refine z_sub [1, 2, 3, 4, 0] rfl ?_
      exact H19 _ _ _ _ _ _ hf
    · refine z_iconst C (v := (0 : Int32)) d_Table_spanHolds_43 (by decide) ?_
      exact z_zret C E (Nat.le_of_ble_eq_true rfl) (Nat.le_of_ble_eq_true rfl) d_Table_spanHolds_44 hf

set_option maxHeartbeats 4000000 in
set_option maxRecDepth 100000 in
theorem k_Table_spanHolds (N : Nat) {X : zX} (C : zB X prog_8_method_13_code 5 R_Table rm_Table_spanHolds) {h0 : zH} {p : Int32 × zH} (E : zR X (some .boolean) rm_Table_spanHolds h0 (some (.int p.1)) p.2) : ∀ (x0 : Nat) (x1 : Int32) (h : zH), f_Table_spanHolds N x0 x1 h = some p → Zt X 5 0 0 0 [(0, .ref x0), (1, .int x1)] [] h := by
  intro x0 x1 h hf
  unfold f_Table_spanHolds at hf
  refine z_aload_n C 0 d_Table_spanHolds_0 rfl rfl ?_
  refine z_getR C 5 1 rfl in_Table (by decide) w_196 rfl d_Table_spanHolds_1 hf (fun v10 hf => ?_)
  refine z_getR C 3 1 rfl in_Spans (by decide) w_153 rfl d_Table_spanHolds_4 hf (fun v11 hf => ?_)
  refine z_iload_n C 1 d_Table_spanHolds_7 rfl rfl ?_
  refine z_iald C d_Table_spanHolds_8 hf (fun v12 hf => ?_)
  refine z_istore_n C (lv' := [(2, .int v12), (0, .ref x0), (1, .int x1)]) d_Table_spanHolds_9 rfl (by decide) rfl ?_
  refine z_aload_n C 1 d_Table_spanHolds_10 rfl rfl ?_
  refine z_iload_n C 0 d_Table_spanHolds_11 rfl rfl ?_
  obtain ⟨p13, hc, hf⟩ := Option.bind_eq_some_iff.mp hf
  obtain ⟨hz, hc⟩ := zck_some hc
  refine z_callV C (ci := 5) (c_Table_slopeOf N C.2.2.1 hc) rfl hz w_569 w_63 w_692 w_567 w_568 pd_Table_slopeOf rfl ⟨(Nat.le_of_ble_eq_true rfl), (Nat.le_of_ble_eq_true rfl)⟩ ⟨(Nat.le_of_ble_eq_true rfl), (Nat.le_of_ble_eq_true rfl)⟩ rfl (Nat.le_of_ble_eq_true rfl) d_Table_spanHolds_12 (k' := 0) (n' := 0) (stk' := [.int p13.1]) rfl rfl rfl ?_
  refine z_istore_n C (lv' := [(3, .int p13.1), (2, .int v12), (0, .ref x0), (1, .int x1)]) d_Table_spanHolds_15 rfl (by decide) rfl ?_
  refine z_iload_n C 1 d_Table_spanHolds_16 rfl rfl ?_
  refine z_istore C (lv' := [(4, .int v12), (3, .int p13.1), (2, .int v12), (0, .ref x0), (1, .int x1)]) d_Table_spanHolds_17 (by decide) rfl ?_
  refine z_sub [3, 4, 2, 1, 0] rfl ?_
  exact k_Table_spanHolds_19 N C E N _ _ _ _ _ _ hf

theorem c_Table_spanHolds (N : Nat) {l : Launch} {D : va_G} {T : List (ClassId × FieldType)} (hT : T.map (fun q => q.2) = ztl) {x0 : Nat} {x1 : Int32} {h : zH} {p : Int32 × zH} (hf : f_Table_spanHolds N x0 x1 h = some p) : zM l y_Table_spanHolds prog_8_method_13_code 5 (some .boolean) rm_Table_spanHolds D T [.ref x0, .int x1] h (some (.int p.1)) p.2 :=
  z_enter (by decide) hT (Nat.le_of_ble_eq_true rfl) (fun X el eD eT hin C E => k_Table_spanHolds N C E x0 x1 h hf)
/-! ===== LevelTables$Site.<init>(II)V ===== -/
abbrev y_Site_init : MethodName := ⟨R_Site, "<init>", "(II)V"⟩
theorem pd_Site_init : y_Site_init.cls ≠ "java/lang/invoke/MethodHandle" ∧ y_Site_init.cls ≠ "java/lang/invoke/VarHandle" ∧ (parseMethodDescriptor y_Site_init.desc).map (fun d => d.parameters.length) = some 2 := ⟨by decide +kernel, by decide +kernel, by decide +kernel⟩
abbrev rm_Site_init : Room := { frames := 1, cells := 5, slots := 125, locals := 23 }
def f_Site_init (N : Nat) (x0 : Nat) (x1 : Int32) (x2 : Int32) (h : zH) : Option (Unit × zH) :=
  Option.bind (zp h x0 2 7 (.int (2 : Int32))) fun (h1 : zH) =>
  Option.bind (zp h1 x0 2 8 (.int (1 : Int32))) fun (h2 : zH) =>
  Option.bind (zp h2 x0 2 9 (.int (0 : Int32))) fun (h3 : zH) =>
  Option.bind (zp h3 x0 2 0 (.int x1)) fun (h4 : zH) =>
  Option.bind (zp h4 x0 2 1 (.int x2)) fun (h5 : zH) =>
  Option.bind (znI h5 0 25 (x1 + (1 : Int32))) fun (q6 : Nat × zH) =>
  Option.bind (zp q6.2 x0 2 2 (.ref q6.1)) fun (h7 : zH) =>
  Option.bind (znI h7 0 25 (x1 + (1 : Int32))) fun (q8 : Nat × zH) =>
  Option.bind (zp q8.2 x0 2 3 (.ref q8.1)) fun (h9 : zH) =>
  Option.bind (znI h9 0 25 (x1 + (1 : Int32))) fun (q10 : Nat × zH) =>
  Option.bind (zp q10.2 x0 2 4 (.ref q10.1)) fun (h11 : zH) =>
  Option.bind (znI h11 0 25 (x1 + (1 : Int32))) fun (q12 : Nat × zH) =>
  Option.bind (zp q12.2 x0 2 5 (.ref q12.1)) fun (h13 : zH) =>
  Option.bind (znI h13 0 25 (x1 + (1 : Int32))) fun (q14 : Nat × zH) =>
  Option.bind (zp q14.2 x0 2 6 (.ref q14.1)) fun (h15 : zH) =>
  Option.bind (zgR h15 x0 2 3) fun (v16 : Nat) =>
  Option.bind (f_Arrays_fill_AIIV N v16 (1 : Int32) h15) fun (p17 : Unit × zH) =>
  Option.bind (zgR p17.2 x0 2 4) fun (v18 : Nat) =>
  Option.bind (f_Arrays_fill_AIIV N v18 (1 : Int32) p17.2) fun (p19 : Unit × zH) =>
  Option.bind (zgR p19.2 x0 2 5) fun (v20 : Nat) =>
  Option.bind (f_Arrays_fill_AIIV N v20 (-1 : Int32) p19.2) fun (p21 : Unit × zH) =>
  Option.bind (zgR p21.2 x0 2 6) fun (v22 : Nat) =>
  Option.bind (f_Arrays_fill_AIIV N v22 (-1 : Int32) p21.2) fun (p23 : Unit × zH) =>
  some ((), p23.2)
theorem d_Site_init_0 : decode prog_6_method_1_code 0 = .ok (.aload_n (0), 1) := by decide +kernel
theorem d_Site_init_1 : decode prog_6_method_1_code 1 = .ok (.invokespecial (3), 3) := by decide +kernel
theorem d_Site_init_4 : decode prog_6_method_1_code 4 = .ok (.aload_n (0), 1) := by decide +kernel
theorem d_Site_init_5 : decode prog_6_method_1_code 5 = .ok (.iconst (2), 1) := by decide +kernel
theorem d_Site_init_6 : decode prog_6_method_1_code 6 = .ok (.putfield (9), 3) := by decide +kernel
theorem d_Site_init_9 : decode prog_6_method_1_code 9 = .ok (.aload_n (0), 1) := by decide +kernel
theorem d_Site_init_10 : decode prog_6_method_1_code 10 = .ok (.iconst (1), 1) := by decide +kernel
theorem d_Site_init_11 : decode prog_6_method_1_code 11 = .ok (.putfield (15), 3) := by decide +kernel
theorem d_Site_init_14 : decode prog_6_method_1_code 14 = .ok (.aload_n (0), 1) := by decide +kernel
theorem d_Site_init_15 : decode prog_6_method_1_code 15 = .ok (.iconst (0), 1) := by decide +kernel
theorem d_Site_init_16 : decode prog_6_method_1_code 16 = .ok (.putfield (18), 3) := by decide +kernel
theorem d_Site_init_19 : decode prog_6_method_1_code 19 = .ok (.aload_n (0), 1) := by decide +kernel
theorem d_Site_init_20 : decode prog_6_method_1_code 20 = .ok (.iload_n (1), 1) := by decide +kernel
theorem d_Site_init_21 : decode prog_6_method_1_code 21 = .ok (.putfield (21), 3) := by decide +kernel
theorem d_Site_init_24 : decode prog_6_method_1_code 24 = .ok (.aload_n (0), 1) := by decide +kernel
theorem d_Site_init_25 : decode prog_6_method_1_code 25 = .ok (.iload_n (2), 1) := by decide +kernel
theorem d_Site_init_26 : decode prog_6_method_1_code 26 = .ok (.putfield (24), 3) := by decide +kernel
theorem d_Site_init_29 : decode prog_6_method_1_code 29 = .ok (.aload_n (0), 1) := by decide +kernel
theorem d_Site_init_30 : decode prog_6_method_1_code 30 = .ok (.iload_n (1), 1) := by decide +kernel
theorem d_Site_init_31 : decode prog_6_method_1_code 31 = .ok (.iconst (1), 1) := by decide +kernel
theorem d_Site_init_32 : decode prog_6_method_1_code 32 = .ok (.iadd, 1) := by decide +kernel
theorem d_Site_init_33 : decode prog_6_method_1_code 33 = .ok (.newarray .int, 2) := by decide +kernel
theorem d_Site_init_35 : decode prog_6_method_1_code 35 = .ok (.putfield (27), 3) := by decide +kernel
theorem d_Site_init_38 : decode prog_6_method_1_code 38 = .ok (.aload_n (0), 1) := by decide +kernel
theorem d_Site_init_39 : decode prog_6_method_1_code 39 = .ok (.iload_n (1), 1) := by decide +kernel
theorem d_Site_init_40 : decode prog_6_method_1_code 40 = .ok (.iconst (1), 1) := by decide +kernel
theorem d_Site_init_41 : decode prog_6_method_1_code 41 = .ok (.iadd, 1) := by decide +kernel
theorem d_Site_init_42 : decode prog_6_method_1_code 42 = .ok (.newarray .int, 2) := by decide +kernel
theorem d_Site_init_44 : decode prog_6_method_1_code 44 = .ok (.putfield (31), 3) := by decide +kernel
theorem d_Site_init_47 : decode prog_6_method_1_code 47 = .ok (.aload_n (0), 1) := by decide +kernel
theorem d_Site_init_48 : decode prog_6_method_1_code 48 = .ok (.iload_n (1), 1) := by decide +kernel
theorem d_Site_init_49 : decode prog_6_method_1_code 49 = .ok (.iconst (1), 1) := by decide +kernel
theorem d_Site_init_50 : decode prog_6_method_1_code 50 = .ok (.iadd, 1) := by decide +kernel
theorem d_Site_init_51 : decode prog_6_method_1_code 51 = .ok (.newarray .int, 2) := by decide +kernel
theorem d_Site_init_53 : decode prog_6_method_1_code 53 = .ok (.putfield (34), 3) := by decide +kernel
theorem d_Site_init_56 : decode prog_6_method_1_code 56 = .ok (.aload_n (0), 1) := by decide +kernel
theorem d_Site_init_57 : decode prog_6_method_1_code 57 = .ok (.iload_n (1), 1) := by decide +kernel
theorem d_Site_init_58 : decode prog_6_method_1_code 58 = .ok (.iconst (1), 1) := by decide +kernel
theorem d_Site_init_59 : decode prog_6_method_1_code 59 = .ok (.iadd, 1) := by decide +kernel
theorem d_Site_init_60 : decode prog_6_method_1_code 60 = .ok (.newarray .int, 2) := by decide +kernel
theorem d_Site_init_62 : decode prog_6_method_1_code 62 = .ok (.putfield (37), 3) := by decide +kernel
theorem d_Site_init_65 : decode prog_6_method_1_code 65 = .ok (.aload_n (0), 1) := by decide +kernel
theorem d_Site_init_66 : decode prog_6_method_1_code 66 = .ok (.iload_n (1), 1) := by decide +kernel
theorem d_Site_init_67 : decode prog_6_method_1_code 67 = .ok (.iconst (1), 1) := by decide +kernel
theorem d_Site_init_68 : decode prog_6_method_1_code 68 = .ok (.iadd, 1) := by decide +kernel
theorem d_Site_init_69 : decode prog_6_method_1_code 69 = .ok (.newarray .int, 2) := by decide +kernel
theorem d_Site_init_71 : decode prog_6_method_1_code 71 = .ok (.putfield (40), 3) := by decide +kernel
theorem d_Site_init_74 : decode prog_6_method_1_code 74 = .ok (.aload_n (0), 1) := by decide +kernel
theorem d_Site_init_75 : decode prog_6_method_1_code 75 = .ok (.getfield (31), 3) := by decide +kernel
theorem d_Site_init_78 : decode prog_6_method_1_code 78 = .ok (.iconst (1), 1) := by decide +kernel
theorem d_Site_init_79 : decode prog_6_method_1_code 79 = .ok (.invokestatic (43), 3) := by decide +kernel
theorem d_Site_init_82 : decode prog_6_method_1_code 82 = .ok (.aload_n (0), 1) := by decide +kernel
theorem d_Site_init_83 : decode prog_6_method_1_code 83 = .ok (.getfield (34), 3) := by decide +kernel
theorem d_Site_init_86 : decode prog_6_method_1_code 86 = .ok (.iconst (1), 1) := by decide +kernel
theorem d_Site_init_87 : decode prog_6_method_1_code 87 = .ok (.invokestatic (43), 3) := by decide +kernel
theorem d_Site_init_90 : decode prog_6_method_1_code 90 = .ok (.aload_n (0), 1) := by decide +kernel
theorem d_Site_init_91 : decode prog_6_method_1_code 91 = .ok (.getfield (37), 3) := by decide +kernel
theorem d_Site_init_94 : decode prog_6_method_1_code 94 = .ok (.iconst (-1), 1) := by decide +kernel
theorem d_Site_init_95 : decode prog_6_method_1_code 95 = .ok (.invokestatic (43), 3) := by decide +kernel
theorem d_Site_init_98 : decode prog_6_method_1_code 98 = .ok (.aload_n (0), 1) := by decide +kernel
theorem d_Site_init_99 : decode prog_6_method_1_code 99 = .ok (.getfield (40), 3) := by decide +kernel
theorem d_Site_init_102 : decode prog_6_method_1_code 102 = .ok (.iconst (-1), 1) := by decide +kernel
theorem d_Site_init_103 : decode prog_6_method_1_code 103 = .ok (.invokestatic (43), 3) := by decide +kernel
theorem d_Site_init_106 : decode prog_6_method_1_code 106 = .ok (.return_, 1) := by decide +kernel
set_option maxHeartbeats 4000000 in
set_option maxRecDepth 100000 in
theorem k_Site_init (N : Nat) {X : zX} (C : zB X prog_6_method_1_code 3 R_Site rm_Site_init) {h0 : zH} {p : Unit × zH} (E : zR X none rm_Site_init h0 none p.2) (hin : (x_t X).name = "<init>") : ∀ (x0 : Nat) (x1 : Int32) (x2 : Int32) (h : zH), f_Site_init N x0 x1 x2 h = some p → Zt X 3 0 0 0 [(0, .ref x0), (1, .int x1), (2, .int x2)] [] h := by
  intro x0 x1 x2 h hf
  unfold f_Site_init at hf
  refine z_aload_n C 0 d_Site_init_0 rfl rfl ?_
  refine z_objInit C w_89 w_76 w_77 (Nat.le_of_ble_eq_true rfl) (Nat.le_of_ble_eq_true rfl) d_Site_init_1 ?_
  refine z_aload_n C 0 d_Site_init_4 rfl rfl ?_
  refine z_iconst C (v := (2 : Int32)) d_Site_init_5 (by decide) ?_
  refine z_put C 2 7 ty_Site rfl in_Site tyok_Site nm_Site (by decide) w_113 rfl (Or.inl rfl) rfl rfl rfl d_Site_init_6 hf (fun h1 hf => ?_)
  refine z_aload_n C 0 d_Site_init_9 rfl rfl ?_
  refine z_iconst C (v := (1 : Int32)) d_Site_init_10 (by decide) ?_
  refine z_put C 2 8 ty_Site rfl in_Site tyok_Site nm_Site (by decide) w_115 rfl (Or.inl rfl) rfl rfl rfl d_Site_init_11 hf (fun h2 hf => ?_)
  refine z_aload_n C 0 d_Site_init_14 rfl rfl ?_
  refine z_iconst C (v := (0 : Int32)) d_Site_init_15 (by decide) ?_
  refine z_put C 2 9 ty_Site rfl in_Site tyok_Site nm_Site (by decide) w_119 rfl (Or.inl rfl) rfl rfl rfl d_Site_init_16 hf (fun h3 hf => ?_)
  refine z_aload_n C 0 d_Site_init_19 rfl rfl ?_
  refine z_iload_n C 1 d_Site_init_20 rfl rfl ?_
  refine z_put C 2 0 ty_Site rfl in_Site tyok_Site nm_Site (by decide) w_93 rfl (Or.inr ⟨rfl, hin, rfl⟩) rfl rfl rfl d_Site_init_21 hf (fun h4 hf => ?_)
  refine z_aload_n C 0 d_Site_init_24 rfl rfl ?_
  refine z_iload_n C 2 d_Site_init_25 rfl rfl ?_
  refine z_put C 2 1 ty_Site rfl in_Site tyok_Site nm_Site (by decide) w_99 rfl (Or.inr ⟨rfl, hin, rfl⟩) rfl rfl rfl d_Site_init_26 hf (fun h5 hf => ?_)
  refine z_aload_n C 0 d_Site_init_29 rfl rfl ?_
  refine z_iload_n C 1 d_Site_init_30 rfl rfl ?_
  refine z_iconst C (v := (1 : Int32)) d_Site_init_31 (by decide) ?_
  refine z_iadd C d_Site_init_32 ?_
  refine z_newI C 25 w_142 (Nat.le_of_ble_eq_true rfl) (Nat.le_of_ble_eq_true rfl) (Nat.le_of_ble_eq_true rfl) d_Site_init_33 hf (fun q6 hf => ?_)
  refine z_put C 2 2 ty_Site rfl in_Site tyok_Site nm_Site (by decide) w_101 rfl (Or.inr ⟨rfl, hin, rfl⟩) rfl rfl rfl d_Site_init_35 hf (fun h7 hf => ?_)
  refine z_aload_n C 0 d_Site_init_38 rfl rfl ?_
  refine z_iload_n C 1 d_Site_init_39 rfl rfl ?_
  refine z_iconst C (v := (1 : Int32)) d_Site_init_40 (by decide) ?_
  refine z_iadd C d_Site_init_41 ?_
  refine z_newI C 25 w_142 (Nat.le_of_ble_eq_true rfl) (Nat.le_of_ble_eq_true rfl) (Nat.le_of_ble_eq_true rfl) d_Site_init_42 hf (fun q8 hf => ?_)
  refine z_put C 2 3 ty_Site rfl in_Site tyok_Site nm_Site (by decide) w_105 rfl (Or.inr ⟨rfl, hin, rfl⟩) rfl rfl rfl d_Site_init_44 hf (fun h9 hf => ?_)
  refine z_aload_n C 0 d_Site_init_47 rfl rfl ?_
  refine z_iload_n C 1 d_Site_init_48 rfl rfl ?_
  refine z_iconst C (v := (1 : Int32)) d_Site_init_49 (by decide) ?_
  refine z_iadd C d_Site_init_50 ?_
  refine z_newI C 25 w_142 (Nat.le_of_ble_eq_true rfl) (Nat.le_of_ble_eq_true rfl) (Nat.le_of_ble_eq_true rfl) d_Site_init_51 hf (fun q10 hf => ?_)
  refine z_put C 2 4 ty_Site rfl in_Site tyok_Site nm_Site (by decide) w_107 rfl (Or.inr ⟨rfl, hin, rfl⟩) rfl rfl rfl d_Site_init_53 hf (fun h11 hf => ?_)
  refine z_aload_n C 0 d_Site_init_56 rfl rfl ?_
  refine z_iload_n C 1 d_Site_init_57 rfl rfl ?_
  refine z_iconst C (v := (1 : Int32)) d_Site_init_58 (by decide) ?_
  refine z_iadd C d_Site_init_59 ?_
  refine z_newI C 25 w_142 (Nat.le_of_ble_eq_true rfl) (Nat.le_of_ble_eq_true rfl) (Nat.le_of_ble_eq_true rfl) d_Site_init_60 hf (fun q12 hf => ?_)
  refine z_put C 2 5 ty_Site rfl in_Site tyok_Site nm_Site (by decide) w_109 rfl (Or.inr ⟨rfl, hin, rfl⟩) rfl rfl rfl d_Site_init_62 hf (fun h13 hf => ?_)
  refine z_aload_n C 0 d_Site_init_65 rfl rfl ?_
  refine z_iload_n C 1 d_Site_init_66 rfl rfl ?_
  refine z_iconst C (v := (1 : Int32)) d_Site_init_67 (by decide) ?_
  refine z_iadd C d_Site_init_68 ?_
  refine z_newI C 25 w_142 (Nat.le_of_ble_eq_true rfl) (Nat.le_of_ble_eq_true rfl) (Nat.le_of_ble_eq_true rfl) d_Site_init_69 hf (fun q14 hf => ?_)
  refine z_put C 2 6 ty_Site rfl in_Site tyok_Site nm_Site (by decide) w_111 rfl (Or.inr ⟨rfl, hin, rfl⟩) rfl rfl rfl d_Site_init_71 hf (fun h15 hf => ?_)
  refine z_aload_n C 0 d_Site_init_74 rfl rfl ?_
  refine z_getR C 2 3 rfl in_Site (by decide) w_105 rfl d_Site_init_75 hf (fun v16 hf => ?_)
  refine z_iconst C (v := (1 : Int32)) d_Site_init_78 (by decide) ?_
  obtain ⟨p17, hc, hf⟩ := Option.bind_eq_some_iff.mp hf
  refine z_callS C (c_Arrays_fill_AIIV N C.2.2.1 hc) w_92 w_60 w_90 w_91 pd_Arrays_fill_AIIV rfl ⟨(Nat.le_of_ble_eq_true rfl), (Nat.le_of_ble_eq_true rfl)⟩ ⟨(Nat.le_of_ble_eq_true rfl), (Nat.le_of_ble_eq_true rfl)⟩ rfl (Nat.le_of_ble_eq_true rfl) d_Site_init_79 (k' := 5) (n' := 125) (stk' := []) rfl rfl rfl ?_
  refine z_aload_n C 0 d_Site_init_82 rfl rfl ?_
  refine z_getR C 2 4 rfl in_Site (by decide) w_107 rfl d_Site_init_83 hf (fun v18 hf => ?_)
  refine z_iconst C (v := (1 : Int32)) d_Site_init_86 (by decide) ?_
  obtain ⟨p19, hc, hf⟩ := Option.bind_eq_some_iff.mp hf
  refine z_callS C (c_Arrays_fill_AIIV N C.2.2.1 hc) w_92 w_60 w_90 w_91 pd_Arrays_fill_AIIV rfl ⟨(Nat.le_of_ble_eq_true rfl), (Nat.le_of_ble_eq_true rfl)⟩ ⟨(Nat.le_of_ble_eq_true rfl), (Nat.le_of_ble_eq_true rfl)⟩ rfl (Nat.le_of_ble_eq_true rfl) d_Site_init_87 (k' := 5) (n' := 125) (stk' := []) rfl rfl rfl ?_
  refine z_aload_n C 0 d_Site_init_90 rfl rfl ?_
  refine z_getR C 2 5 rfl in_Site (by decide) w_109 rfl d_Site_init_91 hf (fun v20 hf => ?_)
  refine z_iconst C (v := (-1 : Int32)) d_Site_init_94 (by decide) ?_
  obtain ⟨p21, hc, hf⟩ := Option.bind_eq_some_iff.mp hf
  refine z_callS C (c_Arrays_fill_AIIV N C.2.2.1 hc) w_92 w_60 w_90 w_91 pd_Arrays_fill_AIIV rfl ⟨(Nat.le_of_ble_eq_true rfl), (Nat.le_of_ble_eq_true rfl)⟩ ⟨(Nat.le_of_ble_eq_true rfl), (Nat.le_of_ble_eq_true rfl)⟩ rfl (Nat.le_of_ble_eq_true rfl) d_Site_init_95 (k' := 5) (n' := 125) (stk' := []) rfl rfl rfl ?_
  refine z_aload_n C 0 d_Site_init_98 rfl rfl ?_
  refine z_getR C 2 6 rfl in_Site (by decide) w_111 rfl d_Site_init_99 hf (fun v22 hf => ?_)
  refine z_iconst C (v := (-1 : Int32)) d_Site_init_102 (by decide) ?_
  obtain ⟨p23, hc, hf⟩ := Option.bind_eq_some_iff.mp hf
  refine z_callS C (c_Arrays_fill_AIIV N C.2.2.1 hc) w_92 w_60 w_90 w_91 pd_Arrays_fill_AIIV rfl ⟨(Nat.le_of_ble_eq_true rfl), (Nat.le_of_ble_eq_true rfl)⟩ ⟨(Nat.le_of_ble_eq_true rfl), (Nat.le_of_ble_eq_true rfl)⟩ rfl (Nat.le_of_ble_eq_true rfl) d_Site_init_103 (k' := 5) (n' := 125) (stk' := []) rfl rfl rfl ?_
  exact z_vret C E (Nat.le_of_ble_eq_true rfl) (Nat.le_of_ble_eq_true rfl) d_Site_init_106 hf

theorem c_Site_init (N : Nat) {l : Launch} {D : va_G} {T : List (ClassId × FieldType)} (hT : T.map (fun q => q.2) = ztl) {x0 : Nat} {x1 : Int32} {x2 : Int32} {h : zH} {p : Unit × zH} (hf : f_Site_init N x0 x1 x2 h = some p) : zM l y_Site_init prog_6_method_1_code 3 none rm_Site_init D T [.ref x0, .int x1, .int x2] h none p.2 :=
  z_enter (by decide) hT (Nat.le_of_ble_eq_true rfl) (fun X el eD eT hin C E => k_Site_init N C E (hin rfl) x0 x1 x2 h hf)
/-! ===== LevelTables.forget()V ===== -/
abbrev y_LT_forget : MethodName := ⟨R_LT, "forget", "()V"⟩
theorem pd_LT_forget : y_LT_forget.cls ≠ "java/lang/invoke/MethodHandle" ∧ y_LT_forget.cls ≠ "java/lang/invoke/VarHandle" ∧ (parseMethodDescriptor y_LT_forget.desc).map (fun d => d.parameters.length) = some 0 := ⟨by decide +kernel, by decide +kernel, by decide +kernel⟩
abbrev rm_LT_forget : Room := { frames := 2, cells := 0, slots := 0, locals := 43 }
def f_LT_forget (N : Nat) (x0 : Nat) (h : zH) : Option (Unit × zH) :=
  Option.bind (zgR h x0 1 3) fun (v1 : Nat) =>
  Option.bind (zpZ h v1 5 4 (0 : Int32)) fun (h2 : zH) =>
  Option.bind (zpZ h2 x0 1 8 (0 : Int32)) fun (h3 : zH) =>
  Option.bind (zgR h3 x0 1 4) fun (v4 : Nat) =>
  Option.bind (zck (zis h3 v4 6) (f_Curves_removeAll N v4  h3)) fun (p5 : Unit × zH) =>
  some ((), p5.2)
theorem d_LT_forget_0 : decode prog_1_method_22_code 0 = .ok (.aload_n (0), 1) := by decide +kernel
theorem d_LT_forget_1 : decode prog_1_method_22_code 1 = .ok (.getfield (48), 3) := by decide +kernel
theorem d_LT_forget_4 : decode prog_1_method_22_code 4 = .ok (.iconst (0), 1) := by decide +kernel
theorem d_LT_forget_5 : decode prog_1_method_22_code 5 = .ok (.putfield (150), 3) := by decide +kernel
theorem d_LT_forget_8 : decode prog_1_method_22_code 8 = .ok (.aload_n (0), 1) := by decide +kernel
theorem d_LT_forget_9 : decode prog_1_method_22_code 9 = .ok (.iconst (0), 1) := by decide +kernel
theorem d_LT_forget_10 : decode prog_1_method_22_code 10 = .ok (.putfield (170), 3) := by decide +kernel
theorem d_LT_forget_13 : decode prog_1_method_22_code 13 = .ok (.aload_n (0), 1) := by decide +kernel
theorem d_LT_forget_14 : decode prog_1_method_22_code 14 = .ok (.getfield (57), 3) := by decide +kernel
theorem d_LT_forget_17 : decode prog_1_method_22_code 17 = .ok (.invokevirtual (235), 3) := by decide +kernel
theorem d_LT_forget_20 : decode prog_1_method_22_code 20 = .ok (.return_, 1) := by decide +kernel
set_option maxHeartbeats 4000000 in
set_option maxRecDepth 100000 in
theorem k_LT_forget (N : Nat) {X : zX} (C : zB X prog_1_method_22_code 1 R_LT rm_LT_forget) {h0 : zH} {p : Unit × zH} (E : zR X none rm_LT_forget h0 none p.2) : ∀ (x0 : Nat) (h : zH), f_LT_forget N x0 h = some p → Zt X 1 0 0 0 [(0, .ref x0)] [] h := by
  intro x0 h hf
  unfold f_LT_forget at hf
  refine z_aload_n C 0 d_LT_forget_0 rfl rfl ?_
  refine z_getR C 1 3 rfl in_LT (by decide) w_269 rfl d_LT_forget_1 hf (fun v1 hf => ?_)
  refine z_iconst C (v := (0 : Int32)) d_LT_forget_4 (by decide) ?_
  refine z_putZ C 5 4 ty_Table rfl in_Table tyok_Table nm_Table (by decide) w_205 rfl (Or.inl rfl) rfl d_LT_forget_5 hf (fun h2 hf => ?_)
  refine z_aload_n C 0 d_LT_forget_8 rfl rfl ?_
  refine z_iconst C (v := (0 : Int32)) d_LT_forget_9 (by decide) ?_
  refine z_putZ C 1 8 ty_LT rfl in_LT tyok_LT nm_LT (by decide) w_274 rfl (Or.inl rfl) rfl d_LT_forget_10 hf (fun h3 hf => ?_)
  refine z_aload_n C 0 d_LT_forget_13 rfl rfl ?_
  refine z_getR C 1 4 rfl in_LT (by decide) w_270 rfl d_LT_forget_14 hf (fun v4 hf => ?_)
  obtain ⟨p5, hc, hf⟩ := Option.bind_eq_some_iff.mp hf
  obtain ⟨hz, hc⟩ := zck_some hc
  refine z_callV C (ci := 6) (c_Curves_removeAll N C.2.2.1 hc) rfl hz w_316 w_64 w_313 w_314 w_315 pd_Curves_removeAll rfl ⟨(Nat.le_of_ble_eq_true rfl), (Nat.le_of_ble_eq_true rfl)⟩ ⟨(Nat.le_of_ble_eq_true rfl), (Nat.le_of_ble_eq_true rfl)⟩ rfl (Nat.le_of_ble_eq_true rfl) d_LT_forget_17 (k' := 0) (n' := 0) (stk' := []) rfl rfl rfl ?_
  exact z_vret C E (Nat.le_of_ble_eq_true rfl) (Nat.le_of_ble_eq_true rfl) d_LT_forget_20 hf

theorem c_LT_forget (N : Nat) {l : Launch} {D : va_G} {T : List (ClassId × FieldType)} (hT : T.map (fun q => q.2) = ztl) {x0 : Nat} {h : zH} {p : Unit × zH} (hf : f_LT_forget N x0 h = some p) : zM l y_LT_forget prog_1_method_22_code 1 none rm_LT_forget D T [.ref x0] h none p.2 :=
  z_enter (by decide) hT (Nat.le_of_ble_eq_true rfl) (fun X el eD eT hin C E => k_LT_forget N C E x0 h hf)
/-! ===== LevelTables.prices(III)Z ===== -/
abbrev y_LT_prices : MethodName := ⟨R_LT, "prices", "(III)Z"⟩
theorem pd_LT_prices : y_LT_prices.cls ≠ "java/lang/invoke/MethodHandle" ∧ y_LT_prices.cls ≠ "java/lang/invoke/VarHandle" ∧ (parseMethodDescriptor y_LT_prices.desc).map (fun d => d.parameters.length) = some 3 := ⟨by decide +kernel, by decide +kernel, by decide +kernel⟩
abbrev rm_LT_prices : Room := { frames := 3, cells := 0, slots := 0, locals := 63 }
def f_LT_prices (N : Nat) (x0 : Nat) (x1 : Int32) (x2 : Int32) (x3 : Int32) (h : zH) : Option (Int32 × zH) :=
  Option.bind (zgR h x0 1 0) fun (v1 : Nat) =>
  Option.bind (zck (zis h v1 2) (f_Site_isPlace N v1 x1 h)) fun (p2 : Int32 × zH) =>
  (if p2.1 = 0 then
    zrb (0 : Int32) p2.2
  else
    Option.bind (f_LT_within N x2 (1000000 : Int32) p2.2) fun (p3 : Int32 × zH) =>
    (if p3.1 = 0 then
      zrb (0 : Int32) p3.2
    else
      Option.bind (f_LT_within N x3 (1000000 : Int32) p3.2) fun (p4 : Int32 × zH) =>
      (if p4.1 = 0 then
        zrb (0 : Int32) p4.2
      else
        Option.bind (zgR p4.2 x0 1 0) fun (v5 : Nat) =>
        Option.bind (zgR p4.2 v5 2 3) fun (v6 : Nat) =>
        Option.bind (zsI p4.2 0 v6 x1 x2) fun (h7 : zH) =>
        Option.bind (zgR h7 x0 1 0) fun (v8 : Nat) =>
        Option.bind (zgR h7 v8 2 4) fun (v9 : Nat) =>
        Option.bind (zsI h7 0 v9 x1 x3) fun (h10 : zH) =>
        Option.bind (zck (zis h10 x0 1) (f_LT_forget N x0  h10)) fun (p11 : Unit × zH) =>
        zrb (1 : Int32) p11.2)))
theorem d_LT_prices_0 : decode prog_1_method_3_code 0 = .ok (.aload_n (0), 1) := by decide +kernel
theorem d_LT_prices_1 : decode prog_1_method_3_code 1 = .ok (.getfield (23), 3) := by decide +kernel
theorem d_LT_prices_4 : decode prog_1_method_3_code 4 = .ok (.iload_n (1), 1) := by decide +kernel
theorem d_LT_prices_5 : decode prog_1_method_3_code 5 = .ok (.invokevirtual (68), 3) := by decide +kernel
theorem d_LT_prices_8 : decode prog_1_method_3_code 8 = .ok (.ifCond .eq (21), 3) := by decide +kernel
theorem d_LT_prices_11 : decode prog_1_method_3_code 11 = .ok (.iload_n (2), 1) := by decide +kernel
theorem d_LT_prices_12 : decode prog_1_method_3_code 12 = .ok (.ldc (82), 2) := by decide +kernel
theorem d_LT_prices_14 : decode prog_1_method_3_code 14 = .ok (.invokestatic (83), 3) := by decide +kernel
theorem d_LT_prices_17 : decode prog_1_method_3_code 17 = .ok (.ifCond .eq (12), 3) := by decide +kernel
theorem d_LT_prices_20 : decode prog_1_method_3_code 20 = .ok (.iload_n (3), 1) := by decide +kernel
theorem d_LT_prices_21 : decode prog_1_method_3_code 21 = .ok (.ldc (82), 2) := by decide +kernel
theorem d_LT_prices_23 : decode prog_1_method_3_code 23 = .ok (.invokestatic (83), 3) := by decide +kernel
theorem d_LT_prices_26 : decode prog_1_method_3_code 26 = .ok (.ifCond .ne (5), 3) := by decide +kernel
theorem d_LT_prices_29 : decode prog_1_method_3_code 29 = .ok (.iconst (0), 1) := by decide +kernel
theorem d_LT_prices_30 : decode prog_1_method_3_code 30 = .ok (.ireturn, 1) := by decide +kernel
theorem d_LT_prices_31 : decode prog_1_method_3_code 31 = .ok (.aload_n (0), 1) := by decide +kernel
theorem d_LT_prices_32 : decode prog_1_method_3_code 32 = .ok (.getfield (23), 3) := by decide +kernel
theorem d_LT_prices_35 : decode prog_1_method_3_code 35 = .ok (.getfield (87), 3) := by decide +kernel
theorem d_LT_prices_38 : decode prog_1_method_3_code 38 = .ok (.iload_n (1), 1) := by decide +kernel
theorem d_LT_prices_39 : decode prog_1_method_3_code 39 = .ok (.iload_n (2), 1) := by decide +kernel
theorem d_LT_prices_40 : decode prog_1_method_3_code 40 = .ok (.iastore, 1) := by decide +kernel
theorem d_LT_prices_41 : decode prog_1_method_3_code 41 = .ok (.aload_n (0), 1) := by decide +kernel
theorem d_LT_prices_42 : decode prog_1_method_3_code 42 = .ok (.getfield (23), 3) := by decide +kernel
theorem d_LT_prices_45 : decode prog_1_method_3_code 45 = .ok (.getfield (90), 3) := by decide +kernel
theorem d_LT_prices_48 : decode prog_1_method_3_code 48 = .ok (.iload_n (1), 1) := by decide +kernel
theorem d_LT_prices_49 : decode prog_1_method_3_code 49 = .ok (.iload_n (3), 1) := by decide +kernel
theorem d_LT_prices_50 : decode prog_1_method_3_code 50 = .ok (.iastore, 1) := by decide +kernel
theorem d_LT_prices_51 : decode prog_1_method_3_code 51 = .ok (.aload_n (0), 1) := by decide +kernel
theorem d_LT_prices_52 : decode prog_1_method_3_code 52 = .ok (.invokevirtual (79), 3) := by decide +kernel
theorem d_LT_prices_55 : decode prog_1_method_3_code 55 = .ok (.iconst (1), 1) := by decide +kernel
theorem d_LT_prices_56 : decode prog_1_method_3_code 56 = .ok (.ireturn, 1) := by decide +kernel
set_option maxHeartbeats 4000000 in
set_option maxRecDepth 100000 in
theorem k_LT_prices (N : Nat) {X : zX} (C : zB X prog_1_method_3_code 4 R_LT rm_LT_prices) {h0 : zH} {p : Int32 × zH} (E : zR X (some .boolean) rm_LT_prices h0 (some (.int p.1)) p.2) : ∀ (x0 : Nat) (x1 : Int32) (x2 : Int32) (x3 : Int32) (h : zH), f_LT_prices N x0 x1 x2 x3 h = some p → Zt X 4 0 0 0 [(0, .ref x0), (1, .int x1), (2, .int x2), (3, .int x3)] [] h := by
  intro x0 x1 x2 x3 h hf
  unfold f_LT_prices at hf
  refine z_aload_n C 0 d_LT_prices_0 rfl rfl ?_
  refine z_getR C 1 0 rfl in_LT (by decide) w_266 rfl d_LT_prices_1 hf (fun v1 hf => ?_)
  refine z_iload_n C 1 d_LT_prices_4 rfl rfl ?_
  obtain ⟨p2, hc, hf⟩ := Option.bind_eq_some_iff.mp hf
  obtain ⟨hz, hc⟩ := zck_some hc
  refine z_callV C (ci := 2) (c_Site_isPlace N C.2.2.1 hc) rfl hz w_304 w_59 w_301 w_302 w_303 pd_Site_isPlace rfl ⟨(Nat.le_of_ble_eq_true rfl), (Nat.le_of_ble_eq_true rfl)⟩ ⟨(Nat.le_of_ble_eq_true rfl), (Nat.le_of_ble_eq_true rfl)⟩ rfl (Nat.le_of_ble_eq_true rfl) d_LT_prices_5 (k' := 0) (n' := 0) (stk' := [.int p2.1]) rfl rfl rfl ?_
  refine z_if_eq (tgt := 29) C d_LT_prices_8 (by decide) hf (fun hf => ?_) (fun hf => ?_)
  · refine z_iconst C (v := (0 : Int32)) d_LT_prices_29 (by decide) ?_
    exact z_zret C E (Nat.le_of_ble_eq_true rfl) (Nat.le_of_ble_eq_true rfl) d_LT_prices_30 hf
  · refine z_iload_n C 2 d_LT_prices_11 rfl rfl ?_
    refine z_ldc C d_LT_prices_12 w_322 ?_
    obtain ⟨p3, hc, hf⟩ := Option.bind_eq_some_iff.mp hf
    refine z_callS C (c_LT_within N C.2.2.1 hc) w_325 w_57 w_323 w_324 pd_LT_within rfl ⟨(Nat.le_of_ble_eq_true rfl), (Nat.le_of_ble_eq_true rfl)⟩ ⟨(Nat.le_of_ble_eq_true rfl), (Nat.le_of_ble_eq_true rfl)⟩ rfl (Nat.le_of_ble_eq_true rfl) d_LT_prices_14 (k' := 0) (n' := 0) (stk' := [.int p3.1]) rfl rfl rfl ?_
    refine z_if_eq (tgt := 29) C d_LT_prices_17 (by decide) hf (fun hf => ?_) (fun hf => ?_)
    · refine z_iconst C (v := (0 : Int32)) d_LT_prices_29 (by decide) ?_
      exact z_zret C E (Nat.le_of_ble_eq_true rfl) (Nat.le_of_ble_eq_true rfl) d_LT_prices_30 hf
    · refine z_iload_n C 3 d_LT_prices_20 rfl rfl ?_
      refine z_ldc C d_LT_prices_21 w_322 ?_
      obtain ⟨p4, hc, hf⟩ := Option.bind_eq_some_iff.mp hf
      refine z_callS C (c_LT_within N C.2.2.1 hc) w_325 w_57 w_323 w_324 pd_LT_within rfl ⟨(Nat.le_of_ble_eq_true rfl), (Nat.le_of_ble_eq_true rfl)⟩ ⟨(Nat.le_of_ble_eq_true rfl), (Nat.le_of_ble_eq_true rfl)⟩ rfl (Nat.le_of_ble_eq_true rfl) d_LT_prices_23 (k' := 0) (n' := 0) (stk' := [.int p4.1]) rfl rfl rfl ?_
      refine z_if_ne (tgt := 31) C d_LT_prices_26 (by decide) hf (fun hf => ?_) (fun hf => ?_)
      · refine z_aload_n C 0 d_LT_prices_31 rfl rfl ?_
        refine z_getR C 1 0 rfl in_LT (by decide) w_266 rfl d_LT_prices_32 hf (fun v5 hf => ?_)
        refine z_getR C 2 3 rfl in_Site (by decide) w_106 rfl d_LT_prices_35 hf (fun v6 hf => ?_)
        refine z_iload_n C 1 d_LT_prices_38 rfl rfl ?_
        refine z_iload_n C 2 d_LT_prices_39 rfl rfl ?_
        refine z_iast C d_LT_prices_40 hf (fun h7 hf => ?_)
        refine z_aload_n C 0 d_LT_prices_41 rfl rfl ?_
        refine z_getR C 1 0 rfl in_LT (by decide) w_266 rfl d_LT_prices_42 hf (fun v8 hf => ?_)
        refine z_getR C 2 4 rfl in_Site (by decide) w_108 rfl d_LT_prices_45 hf (fun v9 hf => ?_)
        refine z_iload_n C 1 d_LT_prices_48 rfl rfl ?_
        refine z_iload_n C 3 d_LT_prices_49 rfl rfl ?_
        refine z_iast C d_LT_prices_50 hf (fun h10 hf => ?_)
        refine z_aload_n C 0 d_LT_prices_51 rfl rfl ?_
        obtain ⟨p11, hc, hf⟩ := Option.bind_eq_some_iff.mp hf
        obtain ⟨hz, hc⟩ := zck_some hc
        refine z_callV C (ci := 1) (c_LT_forget N C.2.2.1 hc) rfl hz w_312 w_57 w_309 w_311 w_0 pd_LT_forget rfl ⟨(Nat.le_of_ble_eq_true rfl), (Nat.le_of_ble_eq_true rfl)⟩ ⟨(Nat.le_of_ble_eq_true rfl), (Nat.le_of_ble_eq_true rfl)⟩ rfl (Nat.le_of_ble_eq_true rfl) d_LT_prices_52 (k' := 0) (n' := 0) (stk' := []) rfl rfl rfl ?_
        refine z_iconst C (v := (1 : Int32)) d_LT_prices_55 (by decide) ?_
        exact z_zret C E (Nat.le_of_ble_eq_true rfl) (Nat.le_of_ble_eq_true rfl) d_LT_prices_56 hf
      · refine z_iconst C (v := (0 : Int32)) d_LT_prices_29 (by decide) ?_
        exact z_zret C E (Nat.le_of_ble_eq_true rfl) (Nat.le_of_ble_eq_true rfl) d_LT_prices_30 hf

theorem c_LT_prices (N : Nat) {l : Launch} {D : va_G} {T : List (ClassId × FieldType)} (hT : T.map (fun q => q.2) = ztl) {x0 : Nat} {x1 : Int32} {x2 : Int32} {x3 : Int32} {h : zH} {p : Int32 × zH} (hf : f_LT_prices N x0 x1 x2 x3 h = some p) : zM l y_LT_prices prog_1_method_3_code 4 (some .boolean) rm_LT_prices D T [.ref x0, .int x1, .int x2, .int x3] h (some (.int p.1)) p.2 :=
  z_enter (by decide) hT (Nat.le_of_ble_eq_true rfl) (fun X el eD eT hin C E => k_LT_prices N C E x0 x1 x2 x3 h hf)
