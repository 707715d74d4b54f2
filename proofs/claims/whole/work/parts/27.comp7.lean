/-! ===== LevelTables.move(II)Z ===== -/
abbrev y_LT_move : MethodName := ⟨R_LT, "move", "(II)Z"⟩
theorem pd_LT_move : y_LT_move.cls ≠ "java/lang/invoke/MethodHandle" ∧ y_LT_move.cls ≠ "java/lang/invoke/VarHandle" ∧ (parseMethodDescriptor y_LT_move.desc).map (fun d => d.parameters.length) = some 2 := ⟨by decide +kernel, by decide +kernel, by decide +kernel⟩
abbrev rm_LT_move : Room := { frames := 6, cells := 29, slots := 94086, locals := 157 }
def f_LT_move (N : Nat) (x0 : Nat) (x1 : Int32) (x2 : Int32) (h : zH) : Option (Int32 × zH) :=
  Option.bind (zgR h x0 1 3) fun (v1 : Nat) =>
  Option.bind (zgI h v1 5 4) fun (v2 : Int32) =>
  (if v2 = 0 then
    zrb (0 : Int32) h
  else
    Option.bind (zgR h x0 1 0) fun (v3 : Nat) =>
    Option.bind (zck (zis h v3 2) (f_Site_isPlace N v3 x1 h)) fun (p4 : Int32 × zH) =>
    (if p4.1 = 0 then
      zrb (0 : Int32) p4.2
    else
      Option.bind (zgR p4.2 x0 1 0) fun (v5 : Nat) =>
      Option.bind (zck (zis p4.2 v5 2) (f_Site_isLevelOrNone N v5 x2 p4.2)) fun (p6 : Int32 × zH) =>
      (if p6.1 = 0 then
        zrb (0 : Int32) p6.2
      else
        Option.bind (zgR p6.2 x0 1 0) fun (v7 : Nat) =>
        Option.bind (zgR p6.2 v7 2 6) fun (v8 : Nat) =>
        Option.bind (zaI p6.2 0 v8 x1) fun (v9 : Int32) =>
        Option.bind (zgR p6.2 x0 1 0) fun (v10 : Nat) =>
        Option.bind (zgR p6.2 v10 2 6) fun (v11 : Nat) =>
        Option.bind (zsI p6.2 0 v11 x1 x2) fun (h12 : zH) =>
        Option.bind (zgR h12 x0 1 2) fun (v13 : Nat) =>
        Option.bind (zck (zis h12 v13 4) (f_Reach_firstBarred N v13  h12)) fun (p14 : Int32 × zH) =>
        (if p14.1 = (-1 : Int32) then
          Option.bind (zck (zis p14.2 x0 1) (f_LT_forget N x0  p14.2)) fun (p15 : Unit × zH) =>
          Option.bind (zck (zis p15.2 x0 1) (f_LT_bestSearch N x0  p15.2)) fun (p16 : Nat × zH) =>
          Option.bind (zck (zis p16.2 p16.1 8) (f_Search_fillLayers N p16.1  p16.2)) fun (p17 : Unit × zH) =>
          Option.bind (zgR p17.2 x0 1 3) fun (v18 : Nat) =>
          Option.bind (zck (zis p17.2 p16.1 8) (f_Search_trace N p16.1 v18 p17.2)) fun (p19 : Unit × zH) =>
          zrb (1 : Int32) p19.2
        else
          Option.bind (zgR p14.2 x0 1 0) fun (v20 : Nat) =>
          Option.bind (zgR p14.2 v20 2 6) fun (v21 : Nat) =>
          Option.bind (zsI p14.2 0 v21 x1 v9) fun (h22 : zH) =>
          zrb (0 : Int32) h22))))
theorem d_LT_move_0 : decode prog_1_method_12_code 0 = .ok (.aload_n (0), 1) := by decide +kernel
theorem d_LT_move_1 : decode prog_1_method_12_code 1 = .ok (.getfield (48), 3) := by decide +kernel
theorem d_LT_move_4 : decode prog_1_method_12_code 4 = .ok (.getfield (150), 3) := by decide +kernel
theorem d_LT_move_7 : decode prog_1_method_12_code 7 = .ok (.ifCond .eq (25), 3) := by decide +kernel
theorem d_LT_move_10 : decode prog_1_method_12_code 10 = .ok (.aload_n (0), 1) := by decide +kernel
theorem d_LT_move_11 : decode prog_1_method_12_code 11 = .ok (.getfield (23), 3) := by decide +kernel
theorem d_LT_move_14 : decode prog_1_method_12_code 14 = .ok (.iload_n (1), 1) := by decide +kernel
theorem d_LT_move_15 : decode prog_1_method_12_code 15 = .ok (.invokevirtual (68), 3) := by decide +kernel
theorem d_LT_move_18 : decode prog_1_method_12_code 18 = .ok (.ifCond .eq (14), 3) := by decide +kernel
theorem d_LT_move_21 : decode prog_1_method_12_code 21 = .ok (.aload_n (0), 1) := by decide +kernel
theorem d_LT_move_22 : decode prog_1_method_12_code 22 = .ok (.getfield (23), 3) := by decide +kernel
theorem d_LT_move_25 : decode prog_1_method_12_code 25 = .ok (.iload_n (2), 1) := by decide +kernel
theorem d_LT_move_26 : decode prog_1_method_12_code 26 = .ok (.invokevirtual (109), 3) := by decide +kernel
theorem d_LT_move_29 : decode prog_1_method_12_code 29 = .ok (.ifCond .ne (5), 3) := by decide +kernel
theorem d_LT_move_32 : decode prog_1_method_12_code 32 = .ok (.iconst (0), 1) := by decide +kernel
theorem d_LT_move_33 : decode prog_1_method_12_code 33 = .ok (.ireturn, 1) := by decide +kernel
theorem d_LT_move_34 : decode prog_1_method_12_code 34 = .ok (.aload_n (0), 1) := by decide +kernel
theorem d_LT_move_35 : decode prog_1_method_12_code 35 = .ok (.getfield (23), 3) := by decide +kernel
theorem d_LT_move_38 : decode prog_1_method_12_code 38 = .ok (.getfield (177), 3) := by decide +kernel
theorem d_LT_move_41 : decode prog_1_method_12_code 41 = .ok (.iload_n (1), 1) := by decide +kernel
theorem d_LT_move_42 : decode prog_1_method_12_code 42 = .ok (.iaload, 1) := by decide +kernel
theorem d_LT_move_43 : decode prog_1_method_12_code 43 = .ok (.istore_n (3), 1) := by decide +kernel
theorem d_LT_move_44 : decode prog_1_method_12_code 44 = .ok (.aload_n (0), 1) := by decide +kernel
theorem d_LT_move_45 : decode prog_1_method_12_code 45 = .ok (.getfield (23), 3) := by decide +kernel
theorem d_LT_move_48 : decode prog_1_method_12_code 48 = .ok (.getfield (177), 3) := by decide +kernel
theorem d_LT_move_51 : decode prog_1_method_12_code 51 = .ok (.iload_n (1), 1) := by decide +kernel
theorem d_LT_move_52 : decode prog_1_method_12_code 52 = .ok (.iload_n (2), 1) := by decide +kernel
theorem d_LT_move_53 : decode prog_1_method_12_code 53 = .ok (.iastore, 1) := by decide +kernel
theorem d_LT_move_54 : decode prog_1_method_12_code 54 = .ok (.aload_n (0), 1) := by decide +kernel
theorem d_LT_move_55 : decode prog_1_method_12_code 55 = .ok (.getfield (39), 3) := by decide +kernel
theorem d_LT_move_58 : decode prog_1_method_12_code 58 = .ok (.invokevirtual (124), 3) := by decide +kernel
theorem d_LT_move_61 : decode prog_1_method_12_code 61 = .ok (.iconst (-1), 1) := by decide +kernel
theorem d_LT_move_62 : decode prog_1_method_12_code 62 = .ok (.if_icmp .eq (15), 3) := by decide +kernel
theorem d_LT_move_65 : decode prog_1_method_12_code 65 = .ok (.aload_n (0), 1) := by decide +kernel
theorem d_LT_move_66 : decode prog_1_method_12_code 66 = .ok (.getfield (23), 3) := by decide +kernel
theorem d_LT_move_69 : decode prog_1_method_12_code 69 = .ok (.getfield (177), 3) := by decide +kernel
theorem d_LT_move_72 : decode prog_1_method_12_code 72 = .ok (.iload_n (1), 1) := by decide +kernel
theorem d_LT_move_73 : decode prog_1_method_12_code 73 = .ok (.iload_n (3), 1) := by decide +kernel
theorem d_LT_move_74 : decode prog_1_method_12_code 74 = .ok (.iastore, 1) := by decide +kernel
theorem d_LT_move_75 : decode prog_1_method_12_code 75 = .ok (.iconst (0), 1) := by decide +kernel
theorem d_LT_move_76 : decode prog_1_method_12_code 76 = .ok (.ireturn, 1) := by decide +kernel
theorem d_LT_move_77 : decode prog_1_method_12_code 77 = .ok (.aload_n (0), 1) := by decide +kernel
theorem d_LT_move_78 : decode prog_1_method_12_code 78 = .ok (.invokevirtual (79), 3) := by decide +kernel
theorem d_LT_move_81 : decode prog_1_method_12_code 81 = .ok (.aload_n (0), 1) := by decide +kernel
theorem d_LT_move_82 : decode prog_1_method_12_code 82 = .ok (.invokevirtual (128), 3) := by decide +kernel
theorem d_LT_move_85 : decode prog_1_method_12_code 85 = .ok (.astore (4), 2) := by decide +kernel
theorem d_LT_move_87 : decode prog_1_method_12_code 87 = .ok (.aload (4), 2) := by decide +kernel
theorem d_LT_move_89 : decode prog_1_method_12_code 89 = .ok (.invokevirtual (132), 3) := by decide +kernel
theorem d_LT_move_92 : decode prog_1_method_12_code 92 = .ok (.aload (4), 2) := by decide +kernel
theorem d_LT_move_94 : decode prog_1_method_12_code 94 = .ok (.aload_n (0), 1) := by decide +kernel
theorem d_LT_move_95 : decode prog_1_method_12_code 95 = .ok (.getfield (48), 3) := by decide +kernel
theorem d_LT_move_98 : decode prog_1_method_12_code 98 = .ok (.invokevirtual (137), 3) := by decide +kernel
theorem d_LT_move_101 : decode prog_1_method_12_code 101 = .ok (.iconst (1), 1) := by decide +kernel
theorem d_LT_move_102 : decode prog_1_method_12_code 102 = .ok (.ireturn, 1) := by decide +kernel
set_option maxHeartbeats 4000000 in
set_option maxRecDepth 100000 in
theorem k_LT_move (N : Nat) {X : zX} (C : zB X prog_1_method_12_code 5 R_LT rm_LT_move) {h0 : zH} {p : Int32 × zH} (E : zR X (some .boolean) rm_LT_move h0 (some (.int p.1)) p.2) : ∀ (x0 : Nat) (x1 : Int32) (x2 : Int32) (h : zH), f_LT_move N x0 x1 x2 h = some p → Zt X 5 0 0 0 [(0, .ref x0), (1, .int x1), (2, .int x2)] [] h := by
  intro x0 x1 x2 h hf
  unfold f_LT_move at hf
  refine z_aload_n C 0 d_LT_move_0 rfl rfl ?_
  refine z_getR C 1 3 rfl in_LT (by decide) w_269 rfl d_LT_move_1 hf (fun v1 hf => ?_)
  refine z_getI C 5 4 rfl in_Table (by decide) w_205 rfl d_LT_move_4 hf (fun v2 hf => ?_)
  refine z_if_eq (tgt := 32) C d_LT_move_7 (by decide) hf (fun hf => ?_) (fun hf => ?_)
  · refine z_iconst C (v := (0 : Int32)) d_LT_move_32 (by decide) ?_
    exact z_zret C E (Nat.le_of_ble_eq_true rfl) (Nat.le_of_ble_eq_true rfl) d_LT_move_33 hf
  · refine z_aload_n C 0 d_LT_move_10 rfl rfl ?_
    refine z_getR C 1 0 rfl in_LT (by decide) w_266 rfl d_LT_move_11 hf (fun v3 hf => ?_)
    refine z_iload_n C 1 d_LT_move_14 rfl rfl ?_
    obtain ⟨p4, hc, hf⟩ := Option.bind_eq_some_iff.mp hf
    obtain ⟨hz, hc⟩ := zck_some hc
    refine z_callV C (ci := 2) (c_Site_isPlace N C.2.2.1 hc) rfl hz w_304 w_59 w_301 w_302 w_303 pd_Site_isPlace rfl ⟨(Nat.le_of_ble_eq_true rfl), (Nat.le_of_ble_eq_true rfl)⟩ ⟨(Nat.le_of_ble_eq_true rfl), (Nat.le_of_ble_eq_true rfl)⟩ rfl (Nat.le_of_ble_eq_true rfl) d_LT_move_15 (k' := 0) (n' := 0) (stk' := [.int p4.1]) rfl rfl rfl ?_
    refine z_if_eq (tgt := 32) C d_LT_move_18 (by decide) hf (fun hf => ?_) (fun hf => ?_)
    · refine z_iconst C (v := (0 : Int32)) d_LT_move_32 (by decide) ?_
      exact z_zret C E (Nat.le_of_ble_eq_true rfl) (Nat.le_of_ble_eq_true rfl) d_LT_move_33 hf
    · refine z_aload_n C 0 d_LT_move_21 rfl rfl ?_
      refine z_getR C 1 0 rfl in_LT (by decide) w_266 rfl d_LT_move_22 hf (fun v5 hf => ?_)
      refine z_iload_n C 2 d_LT_move_25 rfl rfl ?_
      obtain ⟨p6, hc, hf⟩ := Option.bind_eq_some_iff.mp hf
      obtain ⟨hz, hc⟩ := zck_some hc
      refine z_callV C (ci := 2) (c_Site_isLevelOrNone N C.2.2.1 hc) rfl hz w_354 w_59 w_351 w_352 w_353 pd_Site_isLevelOrNone rfl ⟨(Nat.le_of_ble_eq_true rfl), (Nat.le_of_ble_eq_true rfl)⟩ ⟨(Nat.le_of_ble_eq_true rfl), (Nat.le_of_ble_eq_true rfl)⟩ rfl (Nat.le_of_ble_eq_true rfl) d_LT_move_26 (k' := 0) (n' := 0) (stk' := [.int p6.1]) rfl rfl rfl ?_
      refine z_if_ne (tgt := 34) C d_LT_move_29 (by decide) hf (fun hf => ?_) (fun hf => ?_)
      · refine z_aload_n C 0 d_LT_move_34 rfl rfl ?_
        refine z_getR C 1 0 rfl in_LT (by decide) w_266 rfl d_LT_move_35 hf (fun v7 hf => ?_)
        refine z_getR C 2 6 rfl in_Site (by decide) w_112 rfl d_LT_move_38 hf (fun v8 hf => ?_)
        refine z_iload_n C 1 d_LT_move_41 rfl rfl ?_
        refine z_iald C d_LT_move_42 hf (fun v9 hf => ?_)
        refine z_istore_n C (lv' := [(3, .int v9), (0, .ref x0), (1, .int x1), (2, .int x2)]) d_LT_move_43 rfl (by decide) rfl ?_
        refine z_aload_n C 1 d_LT_move_44 rfl rfl ?_
        refine z_getR C 1 0 rfl in_LT (by decide) w_266 rfl d_LT_move_45 hf (fun v10 hf => ?_)
        refine z_getR C 2 6 rfl in_Site (by decide) w_112 rfl d_LT_move_48 hf (fun v11 hf => ?_)
        refine z_iload_n C 2 d_LT_move_51 rfl rfl ?_
        refine z_iload_n C 3 d_LT_move_52 rfl rfl ?_
        refine z_iast C d_LT_move_53 hf (fun h12 hf => ?_)
        refine z_aload_n C 1 d_LT_move_54 rfl rfl ?_
        refine z_getR C 1 2 rfl in_LT (by decide) w_268 rfl d_LT_move_55 hf (fun v13 hf => ?_)
        obtain ⟨p14, hc, hf⟩ := Option.bind_eq_some_iff.mp hf
        obtain ⟨hz, hc⟩ := zck_some hc
        refine z_callV C (ci := 4) (c_Reach_firstBarred N C.2.2.1 hc) rfl hz w_367 w_62 w_364 w_365 w_366 pd_Reach_firstBarred rfl ⟨(Nat.le_of_ble_eq_true rfl), (Nat.le_of_ble_eq_true rfl)⟩ ⟨(Nat.le_of_ble_eq_true rfl), (Nat.le_of_ble_eq_true rfl)⟩ rfl (Nat.le_of_ble_eq_true rfl) d_LT_move_58 (k' := 0) (n' := 0) (stk' := [.int p14.1]) rfl rfl rfl ?_
        refine z_iconst C (v := (-1 : Int32)) d_LT_move_61 (by decide) ?_
        refine z_ic_eq (tgt := 77) C d_LT_move_62 (by decide) hf (fun hf => ?_) (fun hf => ?_)
        · refine z_aload_n C 1 d_LT_move_77 rfl rfl ?_
          obtain ⟨p15, hc, hf⟩ := Option.bind_eq_some_iff.mp hf
          obtain ⟨hz, hc⟩ := zck_some hc
          refine z_callV C (ci := 1) (c_LT_forget N C.2.2.1 hc) rfl hz w_312 w_57 w_309 w_311 w_0 pd_LT_forget rfl ⟨(Nat.le_of_ble_eq_true rfl), (Nat.le_of_ble_eq_true rfl)⟩ ⟨(Nat.le_of_ble_eq_true rfl), (Nat.le_of_ble_eq_true rfl)⟩ rfl (Nat.le_of_ble_eq_true rfl) d_LT_move_78 (k' := 0) (n' := 0) (stk' := []) rfl rfl rfl ?_
          refine z_aload_n C 1 d_LT_move_81 rfl rfl ?_
          obtain ⟨p16, hc, hf⟩ := Option.bind_eq_some_iff.mp hf
          obtain ⟨hz, hc⟩ := zck_some hc
          refine z_callV C (ci := 1) (c_LT_bestSearch N C.2.2.1 hc) rfl hz w_412 w_57 w_409 w_411 w_5 pd_LT_bestSearch rfl ⟨(Nat.le_of_ble_eq_true rfl), (Nat.le_of_ble_eq_true rfl)⟩ ⟨(Nat.le_of_ble_eq_true rfl), (Nat.le_of_ble_eq_true rfl)⟩ rfl (Nat.le_of_ble_eq_true rfl) d_LT_move_82 (k' := 29) (n' := 94086) (stk' := [.ref p16.1]) rfl rfl rfl ?_
          refine z_astore C (lv' := [(4, .ref p16.1), (3, .int v9), (0, .ref x0), (1, .int x1), (2, .int x2)]) d_LT_move_85 (by decide) rfl ?_
          refine z_aload C 0 d_LT_move_87 rfl ?_
          obtain ⟨p17, hc, hf⟩ := Option.bind_eq_some_iff.mp hf
          obtain ⟨hz, hc⟩ := zck_some hc
          refine z_callV C (ci := 8) (c_Search_fillLayers N C.2.2.1 hc) rfl hz w_459 w_67 w_456 w_457 w_458 pd_Search_fillLayers rfl ⟨(Nat.le_of_ble_eq_true rfl), (Nat.le_of_ble_eq_true rfl)⟩ ⟨(Nat.le_of_ble_eq_true rfl), (Nat.le_of_ble_eq_true rfl)⟩ rfl (Nat.le_of_ble_eq_true rfl) d_LT_move_89 (k' := 29) (n' := 94086) (stk' := []) rfl rfl rfl ?_
          refine z_aload C 0 d_LT_move_92 rfl ?_
          refine z_aload_n C 2 d_LT_move_94 rfl rfl ?_
          refine z_getR C 1 3 rfl in_LT (by decide) w_269 rfl d_LT_move_95 hf (fun v18 hf => ?_)
          obtain ⟨p19, hc, hf⟩ := Option.bind_eq_some_iff.mp hf
          obtain ⟨hz, hc⟩ := zck_some hc
          refine z_callV C (ci := 8) (c_Search_trace N C.2.2.1 hc) rfl hz w_553 w_67 w_550 w_551 w_552 pd_Search_trace rfl ⟨(Nat.le_of_ble_eq_true rfl), (Nat.le_of_ble_eq_true rfl)⟩ ⟨(Nat.le_of_ble_eq_true rfl), (Nat.le_of_ble_eq_true rfl)⟩ rfl (Nat.le_of_ble_eq_true rfl) d_LT_move_98 (k' := 29) (n' := 94086) (stk' := []) rfl rfl rfl ?_
          refine z_iconst C (v := (1 : Int32)) d_LT_move_101 (by decide) ?_
          exact z_zret C E (Nat.le_of_ble_eq_true rfl) (Nat.le_of_ble_eq_true rfl) d_LT_move_102 hf
        · refine z_aload_n C 1 d_LT_move_65 rfl rfl ?_
          refine z_getR C 1 0 rfl in_LT (by decide) w_266 rfl d_LT_move_66 hf (fun v20 hf => ?_)
          refine z_getR C 2 6 rfl in_Site (by decide) w_112 rfl d_LT_move_69 hf (fun v21 hf => ?_)
          refine z_iload_n C 2 d_LT_move_72 rfl rfl ?_
          refine z_iload_n C 0 d_LT_move_73 rfl rfl ?_
          refine z_iast C d_LT_move_74 hf (fun h22 hf => ?_)
          refine z_iconst C (v := (0 : Int32)) d_LT_move_75 (by decide) ?_
          exact z_zret C E (Nat.le_of_ble_eq_true rfl) (Nat.le_of_ble_eq_true rfl) d_LT_move_76 hf
      · refine z_iconst C (v := (0 : Int32)) d_LT_move_32 (by decide) ?_
        exact z_zret C E (Nat.le_of_ble_eq_true rfl) (Nat.le_of_ble_eq_true rfl) d_LT_move_33 hf

theorem c_LT_move (N : Nat) {l : Launch} {D : va_G} {T : List (ClassId × FieldType)} (hT : T.map (fun q => q.2) = ztl) {x0 : Nat} {x1 : Int32} {x2 : Int32} {h : zH} {p : Int32 × zH} (hf : f_LT_move N x0 x1 x2 h = some p) : zM l y_LT_move prog_1_method_12_code 5 (some .boolean) rm_LT_move D T [.ref x0, .int x1, .int x2] h (some (.int p.1)) p.2 :=
  z_enter (by decide) hT (Nat.le_of_ble_eq_true rfl) (fun X el eD eT hin C E => k_LT_move N C E x0 x1 x2 h hf)
/-! ===== LevelTables.run()I ===== -/
abbrev y_LT_run : MethodName := ⟨R_LT, "run", "()I"⟩
theorem pd_LT_run : y_LT_run.cls ≠ "java/lang/invoke/MethodHandle" ∧ y_LT_run.cls ≠ "java/lang/invoke/VarHandle" ∧ (parseMethodDescriptor y_LT_run.desc).map (fun d => d.parameters.length) = some 0 := ⟨by decide +kernel, by decide +kernel, by decide +kernel⟩
abbrev rm_LT_run : Room := { frames := 6, cells := 29, slots := 94086, locals := 157 }
def f_LT_run (N : Nat) (x0 : Nat) (h : zH) : Option (Int32 × zH) :=
  Option.bind (zck (zis h x0 1) (f_LT_forget N x0  h)) fun (p1 : Unit × zH) =>
  Option.bind (zgR p1.2 x0 1 2) fun (v2 : Nat) =>
  Option.bind (zck (zis p1.2 v2 4) (f_Reach_firstBarred N v2  p1.2)) fun (p3 : Int32 × zH) =>
  (if p3.1 = (-1 : Int32) then
    Option.bind (zck (zis p3.2 x0 1) (f_LT_bestSearch N x0  p3.2)) fun (p4 : Nat × zH) =>
    Option.bind (zck (zis p4.2 p4.1 8) (f_Search_fillLayers N p4.1  p4.2)) fun (p5 : Unit × zH) =>
    Option.bind (zgR p5.2 x0 1 3) fun (v6 : Nat) =>
    Option.bind (zck (zis p5.2 p4.1 8) (f_Search_trace N p4.1 v6 p5.2)) fun (p7 : Unit × zH) =>
    Option.bind (zgR p7.2 x0 1 3) fun (v8 : Nat) =>
    Option.bind (zgI p7.2 v8 5 5) fun (v9 : Int32) =>
    Option.bind (f_Integer_bitCount N v9 p7.2) fun (p10 : Int32 × zH) =>
    some (p10.1, p10.2)
  else
    some (((-1 : Int32) - p3.1), p3.2))
theorem d_LT_run_0 : decode prog_1_method_8_code 0 = .ok (.aload_n (0), 1) := by decide +kernel
theorem d_LT_run_1 : decode prog_1_method_8_code 1 = .ok (.invokevirtual (79), 3) := by decide +kernel
theorem d_LT_run_4 : decode prog_1_method_8_code 4 = .ok (.aload_n (0), 1) := by decide +kernel
theorem d_LT_run_5 : decode prog_1_method_8_code 5 = .ok (.getfield (39), 3) := by decide +kernel
theorem d_LT_run_8 : decode prog_1_method_8_code 8 = .ok (.invokevirtual (124), 3) := by decide +kernel
theorem d_LT_run_11 : decode prog_1_method_8_code 11 = .ok (.istore_n (1), 1) := by decide +kernel
theorem d_LT_run_12 : decode prog_1_method_8_code 12 = .ok (.iload_n (1), 1) := by decide +kernel
theorem d_LT_run_13 : decode prog_1_method_8_code 13 = .ok (.iconst (-1), 1) := by decide +kernel
theorem d_LT_run_14 : decode prog_1_method_8_code 14 = .ok (.if_icmp .eq (7), 3) := by decide +kernel
theorem d_LT_run_17 : decode prog_1_method_8_code 17 = .ok (.iconst (-1), 1) := by decide +kernel
theorem d_LT_run_18 : decode prog_1_method_8_code 18 = .ok (.iload_n (1), 1) := by decide +kernel
theorem d_LT_run_19 : decode prog_1_method_8_code 19 = .ok (.isub, 1) := by decide +kernel
theorem d_LT_run_20 : decode prog_1_method_8_code 20 = .ok (.ireturn, 1) := by decide +kernel
theorem d_LT_run_21 : decode prog_1_method_8_code 21 = .ok (.aload_n (0), 1) := by decide +kernel
theorem d_LT_run_22 : decode prog_1_method_8_code 22 = .ok (.invokevirtual (128), 3) := by decide +kernel
theorem d_LT_run_25 : decode prog_1_method_8_code 25 = .ok (.astore_n (2), 1) := by decide +kernel
theorem d_LT_run_26 : decode prog_1_method_8_code 26 = .ok (.aload_n (2), 1) := by decide +kernel
theorem d_LT_run_27 : decode prog_1_method_8_code 27 = .ok (.invokevirtual (132), 3) := by decide +kernel
theorem d_LT_run_30 : decode prog_1_method_8_code 30 = .ok (.aload_n (2), 1) := by decide +kernel
theorem d_LT_run_31 : decode prog_1_method_8_code 31 = .ok (.aload_n (0), 1) := by decide +kernel
theorem d_LT_run_32 : decode prog_1_method_8_code 32 = .ok (.getfield (48), 3) := by decide +kernel
theorem d_LT_run_35 : decode prog_1_method_8_code 35 = .ok (.invokevirtual (137), 3) := by decide +kernel
theorem d_LT_run_38 : decode prog_1_method_8_code 38 = .ok (.aload_n (0), 1) := by decide +kernel
theorem d_LT_run_39 : decode prog_1_method_8_code 39 = .ok (.getfield (48), 3) := by decide +kernel
theorem d_LT_run_42 : decode prog_1_method_8_code 42 = .ok (.getfield (141), 3) := by decide +kernel
theorem d_LT_run_45 : decode prog_1_method_8_code 45 = .ok (.invokestatic (144), 3) := by decide +kernel
theorem d_LT_run_48 : decode prog_1_method_8_code 48 = .ok (.ireturn, 1) := by decide +kernel
set_option maxHeartbeats 4000000 in
set_option maxRecDepth 100000 in
theorem k_LT_run (N : Nat) {X : zX} (C : zB X prog_1_method_8_code 3 R_LT rm_LT_run) {h0 : zH} {p : Int32 × zH} (E : zR X (some .int) rm_LT_run h0 (some (.int p.1)) p.2) : ∀ (x0 : Nat) (h : zH), f_LT_run N x0 h = some p → Zt X 3 0 0 0 [(0, .ref x0)] [] h := by
  intro x0 h hf
  unfold f_LT_run at hf
  refine z_aload_n C 0 d_LT_run_0 rfl rfl ?_
  obtain ⟨p1, hc, hf⟩ := Option.bind_eq_some_iff.mp hf
  obtain ⟨hz, hc⟩ := zck_some hc
  refine z_callV C (ci := 1) (c_LT_forget N C.2.2.1 hc) rfl hz w_312 w_57 w_309 w_311 w_0 pd_LT_forget rfl ⟨(Nat.le_of_ble_eq_true rfl), (Nat.le_of_ble_eq_true rfl)⟩ ⟨(Nat.le_of_ble_eq_true rfl), (Nat.le_of_ble_eq_true rfl)⟩ rfl (Nat.le_of_ble_eq_true rfl) d_LT_run_1 (k' := 0) (n' := 0) (stk' := []) rfl rfl rfl ?_
  refine z_aload_n C 0 d_LT_run_4 rfl rfl ?_
  refine z_getR C 1 2 rfl in_LT (by decide) w_268 rfl d_LT_run_5 hf (fun v2 hf => ?_)
  obtain ⟨p3, hc, hf⟩ := Option.bind_eq_some_iff.mp hf
  obtain ⟨hz, hc⟩ := zck_some hc
  refine z_callV C (ci := 4) (c_Reach_firstBarred N C.2.2.1 hc) rfl hz w_367 w_62 w_364 w_365 w_366 pd_Reach_firstBarred rfl ⟨(Nat.le_of_ble_eq_true rfl), (Nat.le_of_ble_eq_true rfl)⟩ ⟨(Nat.le_of_ble_eq_true rfl), (Nat.le_of_ble_eq_true rfl)⟩ rfl (Nat.le_of_ble_eq_true rfl) d_LT_run_8 (k' := 0) (n' := 0) (stk' := [.int p3.1]) rfl rfl rfl ?_
  refine z_istore_n C (lv' := [(1, .int p3.1), (0, .ref x0)]) d_LT_run_11 rfl (by decide) rfl ?_
  refine z_iload_n C 0 d_LT_run_12 rfl rfl ?_
  refine z_iconst C (v := (-1 : Int32)) d_LT_run_13 (by decide) ?_
  refine z_ic_eq (tgt := 21) C d_LT_run_14 (by decide) hf (fun hf => ?_) (fun hf => ?_)
  · refine z_aload_n C 1 d_LT_run_21 rfl rfl ?_
    obtain ⟨p4, hc, hf⟩ := Option.bind_eq_some_iff.mp hf
    obtain ⟨hz, hc⟩ := zck_some hc
    refine z_callV C (ci := 1) (c_LT_bestSearch N C.2.2.1 hc) rfl hz w_412 w_57 w_409 w_411 w_5 pd_LT_bestSearch rfl ⟨(Nat.le_of_ble_eq_true rfl), (Nat.le_of_ble_eq_true rfl)⟩ ⟨(Nat.le_of_ble_eq_true rfl), (Nat.le_of_ble_eq_true rfl)⟩ rfl (Nat.le_of_ble_eq_true rfl) d_LT_run_22 (k' := 29) (n' := 94086) (stk' := [.ref p4.1]) rfl rfl rfl ?_
    refine z_astore_n C (lv' := [(2, .ref p4.1), (1, .int p3.1), (0, .ref x0)]) d_LT_run_25 rfl (by decide) rfl ?_
    refine z_aload_n C 0 d_LT_run_26 rfl rfl ?_
    obtain ⟨p5, hc, hf⟩ := Option.bind_eq_some_iff.mp hf
    obtain ⟨hz, hc⟩ := zck_some hc
    refine z_callV C (ci := 8) (c_Search_fillLayers N C.2.2.1 hc) rfl hz w_459 w_67 w_456 w_457 w_458 pd_Search_fillLayers rfl ⟨(Nat.le_of_ble_eq_true rfl), (Nat.le_of_ble_eq_true rfl)⟩ ⟨(Nat.le_of_ble_eq_true rfl), (Nat.le_of_ble_eq_true rfl)⟩ rfl (Nat.le_of_ble_eq_true rfl) d_LT_run_27 (k' := 29) (n' := 94086) (stk' := []) rfl rfl rfl ?_
    refine z_aload_n C 0 d_LT_run_30 rfl rfl ?_
    refine z_aload_n C 2 d_LT_run_31 rfl rfl ?_
    refine z_getR C 1 3 rfl in_LT (by decide) w_269 rfl d_LT_run_32 hf (fun v6 hf => ?_)
    obtain ⟨p7, hc, hf⟩ := Option.bind_eq_some_iff.mp hf
    obtain ⟨hz, hc⟩ := zck_some hc
    refine z_callV C (ci := 8) (c_Search_trace N C.2.2.1 hc) rfl hz w_553 w_67 w_550 w_551 w_552 pd_Search_trace rfl ⟨(Nat.le_of_ble_eq_true rfl), (Nat.le_of_ble_eq_true rfl)⟩ ⟨(Nat.le_of_ble_eq_true rfl), (Nat.le_of_ble_eq_true rfl)⟩ rfl (Nat.le_of_ble_eq_true rfl) d_LT_run_35 (k' := 29) (n' := 94086) (stk' := []) rfl rfl rfl ?_
    refine z_aload_n C 2 d_LT_run_38 rfl rfl ?_
    refine z_getR C 1 3 rfl in_LT (by decide) w_269 rfl d_LT_run_39 hf (fun v8 hf => ?_)
    refine z_getI C 5 5 rfl in_Table (by decide) w_208 rfl d_LT_run_42 hf (fun v9 hf => ?_)
    obtain ⟨p10, hc, hf⟩ := Option.bind_eq_some_iff.mp hf
    refine z_callS C (c_Integer_bitCount N C.2.2.1 hc) w_580 w_69 w_578 w_579 pd_Integer_bitCount rfl ⟨(Nat.le_of_ble_eq_true rfl), (Nat.le_of_ble_eq_true rfl)⟩ ⟨(Nat.le_of_ble_eq_true rfl), (Nat.le_of_ble_eq_true rfl)⟩ rfl (Nat.le_of_ble_eq_true rfl) d_LT_run_45 (k' := 29) (n' := 94086) (stk' := [.int p10.1]) rfl rfl rfl ?_
    exact z_iret C E (Nat.le_of_ble_eq_true rfl) (Nat.le_of_ble_eq_true rfl) d_LT_run_48 hf
  · refine z_iconst C (v := (-1 : Int32)) d_LT_run_17 (by decide) ?_
    refine z_iload_n C 0 d_LT_run_18 rfl rfl ?_
    refine z_isub C d_LT_run_19 ?_
    exact z_iret C E (Nat.le_of_ble_eq_true rfl) (Nat.le_of_ble_eq_true rfl) d_LT_run_20 hf

theorem c_LT_run (N : Nat) {l : Launch} {D : va_G} {T : List (ClassId × FieldType)} (hT : T.map (fun q => q.2) = ztl) {x0 : Nat} {h : zH} {p : Int32 × zH} (hf : f_LT_run N x0 h = some p) : zM l y_LT_run prog_1_method_8_code 3 (some .int) rm_LT_run D T [.ref x0] h (some (.int p.1)) p.2 :=
  z_enter (by decide) hT (Nat.le_of_ble_eq_true rfl) (fun X el eD eT hin C E => k_LT_run N C E x0 h hf)
