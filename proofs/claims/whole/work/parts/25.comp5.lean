/-! ===== LevelTables$Search.fillLast([JI)V ===== -/
abbrev y_Search_fillLast : MethodName := ⟨R_Search, "fillLast", "([JI)V"⟩
theorem pd_Search_fillLast : y_Search_fillLast.cls ≠ "java/lang/invoke/MethodHandle" ∧ y_Search_fillLast.cls ≠ "java/lang/invoke/VarHandle" ∧ (parseMethodDescriptor y_Search_fillLast.desc).map (fun d => d.parameters.length) = some 2 := ⟨by decide +kernel, by decide +kernel, by decide +kernel⟩
abbrev rm_Search_fillLast : Room := { frames := 2, cells := 0, slots := 0, locals := 45 }
def f_Search_fillLast_64 (N : Nat) (rc33 : Nat → Nat → Int32 → Int64 → Int32 → Int32 → zH → Option (Unit × zH)) (x0 : Nat) (x1 : Nat) (x2 : Int32) (x3 : Int64) (x5 : Int32) (x6 : Int32) (h : zH) : Option (Unit × zH) :=
  rc33 x0 x1 x2 x3 x5 (x6 + (1 : Int32)) h
def b_Search_fillLast_33 (N : Nat) (rc33 : Nat → Nat → Int32 → Int64 → Int32 → Int32 → zH → Option (Unit × zH)) (x0 : Nat) (x1 : Nat) (x2 : Int32) (x3 : Int64) (x5 : Int32) (x6 : Int32) (h : zH) : Option (Unit × zH) :=
  (if x5 < x6 then
    some ((), h)
  else
    Option.bind (zgR h x0 8 0) fun (v1 : Nat) =>
    Option.bind (zck (zis h v1 2) (f_Site_slopeFits N v1 (x2 - x6) h)) fun (p2 : Int32 × zH) =>
    (if p2.1 = 0 then
      f_Search_fillLast_64 N rc33 x0 x1 x2 x3 x5 x6 p2.2
    else
      Option.bind (zck (zis p2.2 x0 8) (f_Search_indexOf N x0 x2 x6 p2.2)) fun (p3 : Int32 × zH) =>
      Option.bind (zsJ p3.2 1 x1 p3.1 x3) fun (h4 : zH) =>
      f_Search_fillLast_64 N rc33 x0 x1 x2 x3 x5 x6 h4))
def f_Search_fillLast_33 (N : Nat) : Nat → Nat → Nat → Int32 → Int64 → Int32 → Int32 → zH → Option (Unit × zH)
  | 0 => fun _ _ _ _ _ _ _ => none
  | n + 1 => fun x0 x1 x2 x3 x5 x6 h => b_Search_fillLast_33 N (f_Search_fillLast_33 N n) x0 x1 x2 x3 x5 x6 h
def f_Search_fillLast (N : Nat) (x0 : Nat) (x1 : Nat) (x2 : Int32) (h : zH) : Option (Unit × zH) :=
  Option.bind (zgR h x0 8 0) fun (v5 : Nat) =>
  Option.bind (zgI h v5 2 0) fun (v6 : Int32) =>
  Option.bind (zck (zis h x0 8) (f_Search_earthValue N x0 v6 x2 h)) fun (p7 : Int64 × zH) =>
  Option.bind (zgR p7.2 x0 8 0) fun (v8 : Nat) =>
  Option.bind (zck (zis p7.2 v8 2) (f_Site_highestNear N v8 x2 p7.2)) fun (p9 : Int32 × zH) =>
  Option.bind (zgR p9.2 x0 8 0) fun (v10 : Nat) =>
  Option.bind (zck (zis p9.2 v10 2) (f_Site_lowestNear N v10 x2 p9.2)) fun (p11 : Int32 × zH) =>
  f_Search_fillLast_33 N N x0 x1 x2 p7.1 p9.1 p11.1 p11.2
theorem d_Search_fillLast_0 : decode prog_5_method_9_code 0 = .ok (.aload_n (0), 1) := by decide +kernel
theorem d_Search_fillLast_1 : decode prog_5_method_9_code 1 = .ok (.aload_n (0), 1) := by decide +kernel
theorem d_Search_fillLast_2 : decode prog_5_method_9_code 2 = .ok (.getfield (15), 3) := by decide +kernel
theorem d_Search_fillLast_5 : decode prog_5_method_9_code 5 = .ok (.getfield (47), 3) := by decide +kernel
theorem d_Search_fillLast_8 : decode prog_5_method_9_code 8 = .ok (.iload_n (2), 1) := by decide +kernel
theorem d_Search_fillLast_9 : decode prog_5_method_9_code 9 = .ok (.invokevirtual (113), 3) := by decide +kernel
theorem d_Search_fillLast_12 : decode prog_5_method_9_code 12 = .ok (.lstore_n (3), 1) := by decide +kernel
theorem d_Search_fillLast_13 : decode prog_5_method_9_code 13 = .ok (.aload_n (0), 1) := by decide +kernel
theorem d_Search_fillLast_14 : decode prog_5_method_9_code 14 = .ok (.getfield (15), 3) := by decide +kernel
theorem d_Search_fillLast_17 : decode prog_5_method_9_code 17 = .ok (.iload_n (2), 1) := by decide +kernel
theorem d_Search_fillLast_18 : decode prog_5_method_9_code 18 = .ok (.invokevirtual (117), 3) := by decide +kernel
theorem d_Search_fillLast_21 : decode prog_5_method_9_code 21 = .ok (.istore (5), 2) := by decide +kernel
theorem d_Search_fillLast_23 : decode prog_5_method_9_code 23 = .ok (.aload_n (0), 1) := by decide +kernel
theorem d_Search_fillLast_24 : decode prog_5_method_9_code 24 = .ok (.getfield (15), 3) := by decide +kernel
theorem d_Search_fillLast_27 : decode prog_5_method_9_code 27 = .ok (.iload_n (2), 1) := by decide +kernel
theorem d_Search_fillLast_28 : decode prog_5_method_9_code 28 = .ok (.invokevirtual (120), 3) := by decide +kernel
theorem d_Search_fillLast_31 : decode prog_5_method_9_code 31 = .ok (.istore (6), 2) := by decide +kernel
theorem d_Search_fillLast_33 : decode prog_5_method_9_code 33 = .ok (.iload (6), 2) := by decide +kernel
theorem d_Search_fillLast_35 : decode prog_5_method_9_code 35 = .ok (.iload (5), 2) := by decide +kernel
theorem d_Search_fillLast_37 : decode prog_5_method_9_code 37 = .ok (.if_icmp .gt (33), 3) := by decide +kernel
theorem d_Search_fillLast_40 : decode prog_5_method_9_code 40 = .ok (.aload_n (0), 1) := by decide +kernel
theorem d_Search_fillLast_41 : decode prog_5_method_9_code 41 = .ok (.getfield (15), 3) := by decide +kernel
theorem d_Search_fillLast_44 : decode prog_5_method_9_code 44 = .ok (.iload_n (2), 1) := by decide +kernel
theorem d_Search_fillLast_45 : decode prog_5_method_9_code 45 = .ok (.iload (6), 2) := by decide +kernel
theorem d_Search_fillLast_47 : decode prog_5_method_9_code 47 = .ok (.isub, 1) := by decide +kernel
theorem d_Search_fillLast_48 : decode prog_5_method_9_code 48 = .ok (.invokevirtual (123), 3) := by decide +kernel
theorem d_Search_fillLast_51 : decode prog_5_method_9_code 51 = .ok (.ifCond .eq (13), 3) := by decide +kernel
theorem d_Search_fillLast_54 : decode prog_5_method_9_code 54 = .ok (.aload_n (1), 1) := by decide +kernel
theorem d_Search_fillLast_55 : decode prog_5_method_9_code 55 = .ok (.aload_n (0), 1) := by decide +kernel
theorem d_Search_fillLast_56 : decode prog_5_method_9_code 56 = .ok (.iload_n (2), 1) := by decide +kernel
theorem d_Search_fillLast_57 : decode prog_5_method_9_code 57 = .ok (.iload (6), 2) := by decide +kernel
theorem d_Search_fillLast_59 : decode prog_5_method_9_code 59 = .ok (.invokevirtual (126), 3) := by decide +kernel
theorem d_Search_fillLast_62 : decode prog_5_method_9_code 62 = .ok (.lload_n (3), 1) := by decide +kernel
theorem d_Search_fillLast_63 : decode prog_5_method_9_code 63 = .ok (.lastore, 1) := by decide +kernel
theorem d_Search_fillLast_64 : decode prog_5_method_9_code 64 = .ok (.iinc (6) (1), 3) := by decide +kernel
theorem d_Search_fillLast_67 : decode prog_5_method_9_code 67 = .ok (.goto (-34), 3) := by decide +kernel
theorem d_Search_fillLast_70 : decode prog_5_method_9_code 70 = .ok (.return_, 1) := by decide +kernel
set_option maxHeartbeats 4000000 in
set_option maxRecDepth 100000 in
theorem k_Search_fillLast_64 (N : Nat) {X : zX} (C : zB X prog_5_method_9_code 7 R_Search rm_Search_fillLast) {h0 : zH} {p : Unit × zH} (E : zR X none rm_Search_fillLast h0 none p.2) {rc33 : Nat → Nat → Int32 → Int64 → Int32 → Int32 → zH → Option (Unit × zH)} (H33 : ∀ (x0 : Nat) (x1 : Nat) (x2 : Int32) (x3 : Int64) (x5 : Int32) (x6 : Int32) (h : zH), rc33 x0 x1 x2 x3 x5 x6 h = some p → Zt X 7 0 0 33 [(0, .ref x0), (1, .ref x1), (2, .int x2), (3, .long x3), (5, .int x5), (6, .int x6)] [] h) : ∀ (x0 : Nat) (x1 : Nat) (x2 : Int32) (x3 : Int64) (x5 : Int32) (x6 : Int32) (h : zH), f_Search_fillLast_64 N rc33 x0 x1 x2 x3 x5 x6 h = some p → Zt X 7 0 0 64 [(0, .ref x0), (1, .ref x1), (2, .int x2), (3, .long x3), (5, .int x5), (6, .int x6)] [] h := by
  intro x0 x1 x2 x3 x5 x6 h hf
  unfold f_Search_fillLast_64 at hf
  refine z_iinc C (v := (x6 + (1 : Int32))) (lv' := [(6, .int (x6 + (1 : Int32))), (0, .ref x0), (1, .ref x1), (2, .int x2), (3, .long x3), (5, .int x5)]) 5 d_Search_fillLast_64 rfl (by rfl) (by decide) rfl ?_
  refine z_goto (tgt := 33) C d_Search_fillLast_67 (by decide) ?_
  refine z_sub [1, 2, 3, 4, 5, 0] rfl ?_
  exact H33 _ _ _ _ _ _ _ hf

set_option maxHeartbeats 4000000 in
set_option maxRecDepth 100000 in
theorem k_Search_fillLast_33 (N : Nat) {X : zX} (C : zB X prog_5_method_9_code 7 R_Search rm_Search_fillLast) {h0 : zH} {p : Unit × zH} (E : zR X none rm_Search_fillLast h0 none p.2) : ∀ n : Nat, ∀ (x0 : Nat) (x1 : Nat) (x2 : Int32) (x3 : Int64) (x5 : Int32) (x6 : Int32) (h : zH), f_Search_fillLast_33 N n x0 x1 x2 x3 x5 x6 h = some p → Zt X 7 0 0 33 [(0, .ref x0), (1, .ref x1), (2, .int x2), (3, .long x3), (5, .int x5), (6, .int x6)] [] h := by
  intro n
  induction n with
  | zero => intro x0 x1 x2 x3 x5 x6 h hf; cases hf
  | succ n ih =>
  intro x0 x1 x2 x3 x5 x6 h hf
  have H33 := ih
  replace hf : b_Search_fillLast_33 N (f_Search_fillLast_33 N n) x0 x1 x2 x3 x5 x6 h = some p := hf
  unfold b_Search_fillLast_33 at hf
  refine z_iload C 5 d_Search_fillLast_33 rfl ?_
  refine z_iload C 4 d_Search_fillLast_35 rfl ?_
  refine z_ic_gt (tgt := 70) C d_Search_fillLast_37 (by decide) hf (fun hf => ?_) (fun hf => ?_)
  · exact z_vret C E (Nat.le_of_ble_eq_true rfl) (Nat.le_of_ble_eq_true rfl) d_Search_fillLast_70 hf
  · refine z_aload_n C 0 d_Search_fillLast_40 rfl rfl ?_
    refine z_getR C 8 0 rfl in_Search (by decide) w_422 rfl d_Search_fillLast_41 hf (fun v1 hf => ?_)
    refine z_iload_n C 2 d_Search_fillLast_44 rfl rfl ?_
    refine z_iload C 5 d_Search_fillLast_45 rfl ?_
    refine z_isub C d_Search_fillLast_47 ?_
    obtain ⟨p2, hc, hf⟩ := Option.bind_eq_some_iff.mp hf
    obtain ⟨hz, hc⟩ := zck_some hc
    refine z_callV C (ci := 2) (c_Site_slopeFits N C.2.2.1 hc) rfl hz w_405 w_59 w_485 w_403 w_404 pd_Site_slopeFits rfl ⟨(Nat.le_of_ble_eq_true rfl), (Nat.le_of_ble_eq_true rfl)⟩ ⟨(Nat.le_of_ble_eq_true rfl), (Nat.le_of_ble_eq_true rfl)⟩ rfl (Nat.le_of_ble_eq_true rfl) d_Search_fillLast_48 (k' := 0) (n' := 0) (stk' := [.int p2.1]) rfl rfl rfl ?_
    refine z_if_eq (tgt := 64) C d_Search_fillLast_51 (by decide) hf (fun hf => ?_) (fun hf => ?_)
    · refine z_sub [0, 1, 2, 3, 4, 5] rfl ?_
      exact k_Search_fillLast_64 N C E H33 _ _ _ _ _ _ _ hf
    · refine z_aload_n C 1 d_Search_fillLast_54 rfl rfl ?_
      refine z_aload_n C 0 d_Search_fillLast_55 rfl rfl ?_
      refine z_iload_n C 2 d_Search_fillLast_56 rfl rfl ?_
      refine z_iload C 5 d_Search_fillLast_57 rfl ?_
      obtain ⟨p3, hc, hf⟩ := Option.bind_eq_some_iff.mp hf
      obtain ⟨hz, hc⟩ := zck_some hc
      refine z_callV C (ci := 8) (c_Search_indexOf N C.2.2.1 hc) rfl hz w_489 w_67 w_486 w_488 w_10 pd_Search_indexOf rfl ⟨(Nat.le_of_ble_eq_true rfl), (Nat.le_of_ble_eq_true rfl)⟩ ⟨(Nat.le_of_ble_eq_true rfl), (Nat.le_of_ble_eq_true rfl)⟩ rfl (Nat.le_of_ble_eq_true rfl) d_Search_fillLast_59 (k' := 0) (n' := 0) (stk' := [.int p3.1, .ref x1]) rfl rfl rfl ?_
      refine z_lload_n C 3 d_Search_fillLast_62 rfl rfl ?_
      refine z_last C d_Search_fillLast_63 hf (fun h4 hf => ?_)
      refine z_sub [0, 1, 2, 3, 4, 5] rfl ?_
      exact k_Search_fillLast_64 N C E H33 _ _ _ _ _ _ _ hf

set_option maxHeartbeats 4000000 in
set_option maxRecDepth 100000 in
theorem k_Search_fillLast (N : Nat) {X : zX} (C : zB X prog_5_method_9_code 7 R_Search rm_Search_fillLast) {h0 : zH} {p : Unit × zH} (E : zR X none rm_Search_fillLast h0 none p.2) : ∀ (x0 : Nat) (x1 : Nat) (x2 : Int32) (h : zH), f_Search_fillLast N x0 x1 x2 h = some p → Zt X 7 0 0 0 [(0, .ref x0), (1, .ref x1), (2, .int x2)] [] h := by
  intro x0 x1 x2 h hf
  unfold f_Search_fillLast at hf
  refine z_aload_n C 0 d_Search_fillLast_0 rfl rfl ?_
  refine z_aload_n C 0 d_Search_fillLast_1 rfl rfl ?_
  refine z_getR C 8 0 rfl in_Search (by decide) w_422 rfl d_Search_fillLast_2 hf (fun v5 hf => ?_)
  refine z_getI C 2 0 rfl in_Site (by decide) w_95 rfl d_Search_fillLast_5 hf (fun v6 hf => ?_)
  refine z_iload_n C 2 d_Search_fillLast_8 rfl rfl ?_
  obtain ⟨p7, hc, hf⟩ := Option.bind_eq_some_iff.mp hf
  obtain ⟨hz, hc⟩ := zck_some hc
  refine z_callV C (ci := 8) (c_Search_earthValue N C.2.2.1 hc) rfl hz w_478 w_67 w_475 w_477 w_9 pd_Search_earthValue rfl ⟨(Nat.le_of_ble_eq_true rfl), (Nat.le_of_ble_eq_true rfl)⟩ ⟨(Nat.le_of_ble_eq_true rfl), (Nat.le_of_ble_eq_true rfl)⟩ rfl (Nat.le_of_ble_eq_true rfl) d_Search_fillLast_9 (k' := 0) (n' := 0) (stk' := [.long p7.1]) rfl rfl rfl ?_
  refine z_lstore_n C (lv' := [(3, .long p7.1), (0, .ref x0), (1, .ref x1), (2, .int x2)]) d_Search_fillLast_12 rfl (by decide) rfl ?_
  refine z_aload_n C 1 d_Search_fillLast_13 rfl rfl ?_
  refine z_getR C 8 0 rfl in_Search (by decide) w_422 rfl d_Search_fillLast_14 hf (fun v8 hf => ?_)
  refine z_iload_n C 3 d_Search_fillLast_17 rfl rfl ?_
  obtain ⟨p9, hc, hf⟩ := Option.bind_eq_some_iff.mp hf
  obtain ⟨hz, hc⟩ := zck_some hc
  refine z_callV C (ci := 2) (c_Site_highestNear N C.2.2.1 hc) rfl hz w_391 w_59 w_483 w_389 w_390 pd_Site_highestNear rfl ⟨(Nat.le_of_ble_eq_true rfl), (Nat.le_of_ble_eq_true rfl)⟩ ⟨(Nat.le_of_ble_eq_true rfl), (Nat.le_of_ble_eq_true rfl)⟩ rfl (Nat.le_of_ble_eq_true rfl) d_Search_fillLast_18 (k' := 0) (n' := 0) (stk' := [.int p9.1]) rfl rfl rfl ?_
  refine z_istore C (lv' := [(5, .int p9.1), (3, .long p7.1), (0, .ref x0), (1, .ref x1), (2, .int x2)]) d_Search_fillLast_21 (by decide) rfl ?_
  refine z_aload_n C 2 d_Search_fillLast_23 rfl rfl ?_
  refine z_getR C 8 0 rfl in_Search (by decide) w_422 rfl d_Search_fillLast_24 hf (fun v10 hf => ?_)
  refine z_iload_n C 4 d_Search_fillLast_27 rfl rfl ?_
  obtain ⟨p11, hc, hf⟩ := Option.bind_eq_some_iff.mp hf
  obtain ⟨hz, hc⟩ := zck_some hc
  refine z_callV C (ci := 2) (c_Site_lowestNear N C.2.2.1 hc) rfl hz w_396 w_59 w_484 w_394 w_395 pd_Site_lowestNear rfl ⟨(Nat.le_of_ble_eq_true rfl), (Nat.le_of_ble_eq_true rfl)⟩ ⟨(Nat.le_of_ble_eq_true rfl), (Nat.le_of_ble_eq_true rfl)⟩ rfl (Nat.le_of_ble_eq_true rfl) d_Search_fillLast_28 (k' := 0) (n' := 0) (stk' := [.int p11.1]) rfl rfl rfl ?_
  refine z_istore C (lv' := [(6, .int p11.1), (5, .int p9.1), (3, .long p7.1), (0, .ref x0), (1, .ref x1), (2, .int x2)]) d_Search_fillLast_31 (by decide) rfl ?_
  refine z_sub [3, 4, 5, 2, 1, 0] rfl ?_
  exact k_Search_fillLast_33 N C E N _ _ _ _ _ _ _ hf

theorem c_Search_fillLast (N : Nat) {l : Launch} {D : va_G} {T : List (ClassId × FieldType)} (hT : T.map (fun q => q.2) = ztl) {x0 : Nat} {x1 : Nat} {x2 : Int32} {h : zH} {p : Unit × zH} (hf : f_Search_fillLast N x0 x1 x2 h = some p) : zM l y_Search_fillLast prog_5_method_9_code 7 none rm_Search_fillLast D T [.ref x0, .ref x1, .int x2] h none p.2 :=
  z_enter (by decide) hT (Nat.le_of_ble_eq_true rfl) (fun X el eD eT hin C E => k_Search_fillLast N C E x0 x1 x2 h hf)
/-! ===== LevelTables$Search.addStep(III)V ===== -/
abbrev y_Search_addStep : MethodName := ⟨R_Search, "addStep", "(III)V"⟩
theorem pd_Search_addStep : y_Search_addStep.cls ≠ "java/lang/invoke/MethodHandle" ∧ y_Search_addStep.cls ≠ "java/lang/invoke/VarHandle" ∧ (parseMethodDescriptor y_Search_addStep.desc).map (fun d => d.parameters.length) = some 3 := ⟨by decide +kernel, by decide +kernel, by decide +kernel⟩
abbrev rm_Search_addStep : Room := { frames := 2, cells := 0, slots := 0, locals := 56 }
def f_Search_addStep (N : Nat) (x0 : Nat) (x1 : Int32) (x2 : Int32) (x3 : Int32) (h : zH) : Option (Unit × zH) :=
  Option.bind (zck (zis h x0 8) (f_Search_earthValue N x0 x1 x2 h)) fun (p1 : Int64 × zH) =>
  Option.bind (zgJ p1.2 x0 8 6) fun (v2 : Int64) =>
  Option.bind (zgR p1.2 x0 8 8) fun (v3 : Nat) =>
  Option.bind (zgI p1.2 x0 8 3) fun (v4 : Int32) =>
  Option.bind (zgR p1.2 x0 8 7) fun (v5 : Nat) =>
  Option.bind (zck (zis p1.2 x0 8) (f_Search_slotOf N x0 (x1 + (1 : Int32)) p1.2)) fun (p6 : Int32 × zH) =>
  Option.bind (zaR p6.2 3 v5 p6.1) fun (v7 : Nat) =>
  Option.bind (zck (zis p6.2 x0 8) (f_Search_indexOf N x0 x3 x2 p6.2)) fun (p8 : Int32 × zH) =>
  Option.bind (zck (zis p8.2 x0 8) (f_Search_merge N x0 v3 (x3 * v4) v7 p8.1 (p1.1 + (v2 * (Int32.toInt64 (zabs (x3 - x2))))) p8.2)) fun (p9 : Unit × zH) =>
  some ((), p9.2)
theorem d_Search_addStep_0 : decode prog_5_method_15_code 0 = .ok (.aload_n (0), 1) := by decide +kernel
theorem d_Search_addStep_1 : decode prog_5_method_15_code 1 = .ok (.iload_n (1), 1) := by decide +kernel
theorem d_Search_addStep_2 : decode prog_5_method_15_code 2 = .ok (.iload_n (2), 1) := by decide +kernel
theorem d_Search_addStep_3 : decode prog_5_method_15_code 3 = .ok (.invokevirtual (113), 3) := by decide +kernel
theorem d_Search_addStep_6 : decode prog_5_method_15_code 6 = .ok (.aload_n (0), 1) := by decide +kernel
theorem d_Search_addStep_7 : decode prog_5_method_15_code 7 = .ok (.getfield (44), 3) := by decide +kernel
theorem d_Search_addStep_10 : decode prog_5_method_15_code 10 = .ok (.iload_n (3), 1) := by decide +kernel
theorem d_Search_addStep_11 : decode prog_5_method_15_code 11 = .ok (.iload_n (2), 1) := by decide +kernel
theorem d_Search_addStep_12 : decode prog_5_method_15_code 12 = .ok (.isub, 1) := by decide +kernel
theorem d_Search_addStep_13 : decode prog_5_method_15_code 13 = .ok (.invokestatic (162), 3) := by decide +kernel
theorem d_Search_addStep_16 : decode prog_5_method_15_code 16 = .ok (.i2l, 1) := by decide +kernel
theorem d_Search_addStep_17 : decode prog_5_method_15_code 17 = .ok (.lmul, 1) := by decide +kernel
theorem d_Search_addStep_18 : decode prog_5_method_15_code 18 = .ok (.ladd, 1) := by decide +kernel
theorem d_Search_addStep_19 : decode prog_5_method_15_code 19 = .ok (.lstore (4), 2) := by decide +kernel
theorem d_Search_addStep_21 : decode prog_5_method_15_code 21 = .ok (.aload_n (0), 1) := by decide +kernel
theorem d_Search_addStep_22 : decode prog_5_method_15_code 22 = .ok (.aload_n (0), 1) := by decide +kernel
theorem d_Search_addStep_23 : decode prog_5_method_15_code 23 = .ok (.getfield (55), 3) := by decide +kernel
theorem d_Search_addStep_26 : decode prog_5_method_15_code 26 = .ok (.iload_n (3), 1) := by decide +kernel
theorem d_Search_addStep_27 : decode prog_5_method_15_code 27 = .ok (.aload_n (0), 1) := by decide +kernel
theorem d_Search_addStep_28 : decode prog_5_method_15_code 28 = .ok (.getfield (23), 3) := by decide +kernel
theorem d_Search_addStep_31 : decode prog_5_method_15_code 31 = .ok (.imul, 1) := by decide +kernel
theorem d_Search_addStep_32 : decode prog_5_method_15_code 32 = .ok (.aload_n (0), 1) := by decide +kernel
theorem d_Search_addStep_33 : decode prog_5_method_15_code 33 = .ok (.getfield (52), 3) := by decide +kernel
theorem d_Search_addStep_36 : decode prog_5_method_15_code 36 = .ok (.aload_n (0), 1) := by decide +kernel
theorem d_Search_addStep_37 : decode prog_5_method_15_code 37 = .ok (.iload_n (1), 1) := by decide +kernel
theorem d_Search_addStep_38 : decode prog_5_method_15_code 38 = .ok (.iconst (1), 1) := by decide +kernel
theorem d_Search_addStep_39 : decode prog_5_method_15_code 39 = .ok (.iadd, 1) := by decide +kernel
theorem d_Search_addStep_40 : decode prog_5_method_15_code 40 = .ok (.invokevirtual (82), 3) := by decide +kernel
theorem d_Search_addStep_43 : decode prog_5_method_15_code 43 = .ok (.aaload, 1) := by decide +kernel
theorem d_Search_addStep_44 : decode prog_5_method_15_code 44 = .ok (.aload_n (0), 1) := by decide +kernel
theorem d_Search_addStep_45 : decode prog_5_method_15_code 45 = .ok (.iload_n (3), 1) := by decide +kernel
theorem d_Search_addStep_46 : decode prog_5_method_15_code 46 = .ok (.iload_n (2), 1) := by decide +kernel
theorem d_Search_addStep_47 : decode prog_5_method_15_code 47 = .ok (.invokevirtual (126), 3) := by decide +kernel
theorem d_Search_addStep_50 : decode prog_5_method_15_code 50 = .ok (.lload (4), 2) := by decide +kernel
theorem d_Search_addStep_52 : decode prog_5_method_15_code 52 = .ok (.invokevirtual (145), 3) := by decide +kernel
theorem d_Search_addStep_55 : decode prog_5_method_15_code 55 = .ok (.return_, 1) := by decide +kernel
set_option maxHeartbeats 4000000 in
set_option maxRecDepth 100000 in
theorem k_Search_addStep (N : Nat) {X : zX} (C : zB X prog_5_method_15_code 6 R_Search rm_Search_addStep) {h0 : zH} {p : Unit × zH} (E : zR X none rm_Search_addStep h0 none p.2) : ∀ (x0 : Nat) (x1 : Int32) (x2 : Int32) (x3 : Int32) (h : zH), f_Search_addStep N x0 x1 x2 x3 h = some p → Zt X 6 0 0 0 [(0, .ref x0), (1, .int x1), (2, .int x2), (3, .int x3)] [] h := by
  intro x0 x1 x2 x3 h hf
  unfold f_Search_addStep at hf
  refine z_aload_n C 0 d_Search_addStep_0 rfl rfl ?_
  refine z_iload_n C 1 d_Search_addStep_1 rfl rfl ?_
  refine z_iload_n C 2 d_Search_addStep_2 rfl rfl ?_
  obtain ⟨p1, hc, hf⟩ := Option.bind_eq_some_iff.mp hf
  obtain ⟨hz, hc⟩ := zck_some hc
  refine z_callV C (ci := 8) (c_Search_earthValue N C.2.2.1 hc) rfl hz w_478 w_67 w_475 w_477 w_9 pd_Search_earthValue rfl ⟨(Nat.le_of_ble_eq_true rfl), (Nat.le_of_ble_eq_true rfl)⟩ ⟨(Nat.le_of_ble_eq_true rfl), (Nat.le_of_ble_eq_true rfl)⟩ rfl (Nat.le_of_ble_eq_true rfl) d_Search_addStep_3 (k' := 0) (n' := 0) (stk' := [.long p1.1]) rfl rfl rfl ?_
  refine z_aload_n C 0 d_Search_addStep_6 rfl rfl ?_
  refine z_getJ C 8 6 rfl in_Search (by decide) w_428 rfl d_Search_addStep_7 hf (fun v2 hf => ?_)
  refine z_iload_n C 3 d_Search_addStep_10 rfl rfl ?_
  refine z_iload_n C 2 d_Search_addStep_11 rfl rfl ?_
  refine z_isub C d_Search_addStep_12 ?_
  refine z_mabs C w_502 w_407 w_58 w_408 (Nat.le_of_ble_eq_true rfl) (Nat.le_of_ble_eq_true rfl) (Nat.le_of_ble_eq_true rfl) (Nat.le_of_ble_eq_true rfl) d_Search_addStep_13 ?_
  refine z_i2l C d_Search_addStep_16 ?_
  refine z_lmul C d_Search_addStep_17 ?_
  refine z_ladd C d_Search_addStep_18 ?_
  refine z_lstore C (lv' := [(4, .long (p1.1 + (v2 * (Int32.toInt64 (zabs (x3 - x2)))))), (0, .ref x0), (1, .int x1), (2, .int x2), (3, .int x3)]) d_Search_addStep_19 (by decide) rfl ?_
  refine z_aload_n C 1 d_Search_addStep_21 rfl rfl ?_
  refine z_aload_n C 1 d_Search_addStep_22 rfl rfl ?_
  refine z_getR C 8 8 rfl in_Search (by decide) w_430 rfl d_Search_addStep_23 hf (fun v3 hf => ?_)
  refine z_iload_n C 4 d_Search_addStep_26 rfl rfl ?_
  refine z_aload_n C 1 d_Search_addStep_27 rfl rfl ?_
  refine z_getI C 8 3 rfl in_Search (by decide) w_425 rfl d_Search_addStep_28 hf (fun v4 hf => ?_)
  refine z_imul C d_Search_addStep_31 ?_
  refine z_aload_n C 1 d_Search_addStep_32 rfl rfl ?_
  refine z_getR C 8 7 rfl in_Search (by decide) w_429 rfl d_Search_addStep_33 hf (fun v5 hf => ?_)
  refine z_aload_n C 1 d_Search_addStep_36 rfl rfl ?_
  refine z_iload_n C 2 d_Search_addStep_37 rfl rfl ?_
  refine z_iconst C (v := (1 : Int32)) d_Search_addStep_38 (by decide) ?_
  refine z_iadd C d_Search_addStep_39 ?_
  obtain ⟨p6, hc, hf⟩ := Option.bind_eq_some_iff.mp hf
  obtain ⟨hz, hc⟩ := zck_some hc
  refine z_callV C (ci := 8) (c_Search_slotOf N C.2.2.1 hc) rfl hz w_467 w_67 w_464 w_466 w_7 pd_Search_slotOf rfl ⟨(Nat.le_of_ble_eq_true rfl), (Nat.le_of_ble_eq_true rfl)⟩ ⟨(Nat.le_of_ble_eq_true rfl), (Nat.le_of_ble_eq_true rfl)⟩ rfl (Nat.le_of_ble_eq_true rfl) d_Search_addStep_40 (k' := 0) (n' := 0) (stk' := [.int p6.1, .ref v5, .int (x3 * v4), .ref v3, .ref x0]) rfl rfl rfl ?_
  refine z_aald C d_Search_addStep_43 hf (fun v7 hf => ?_)
  refine z_aload_n C 1 d_Search_addStep_44 rfl rfl ?_
  refine z_iload_n C 4 d_Search_addStep_45 rfl rfl ?_
  refine z_iload_n C 3 d_Search_addStep_46 rfl rfl ?_
  obtain ⟨p8, hc, hf⟩ := Option.bind_eq_some_iff.mp hf
  obtain ⟨hz, hc⟩ := zck_some hc
  refine z_callV C (ci := 8) (c_Search_indexOf N C.2.2.1 hc) rfl hz w_489 w_67 w_486 w_488 w_10 pd_Search_indexOf rfl ⟨(Nat.le_of_ble_eq_true rfl), (Nat.le_of_ble_eq_true rfl)⟩ ⟨(Nat.le_of_ble_eq_true rfl), (Nat.le_of_ble_eq_true rfl)⟩ rfl (Nat.le_of_ble_eq_true rfl) d_Search_addStep_47 (k' := 0) (n' := 0) (stk' := [.int p8.1, .ref v7, .int (x3 * v4), .ref v3, .ref x0]) rfl rfl rfl ?_
  refine z_lload C 0 d_Search_addStep_50 rfl ?_
  obtain ⟨p9, hc, hf⟩ := Option.bind_eq_some_iff.mp hf
  obtain ⟨hz, hc⟩ := zck_some hc
  refine z_callV C (ci := 8) (c_Search_merge N C.2.2.1 hc) rfl hz w_506 w_67 w_503 w_505 w_13 pd_Search_merge rfl ⟨(Nat.le_of_ble_eq_true rfl), (Nat.le_of_ble_eq_true rfl)⟩ ⟨(Nat.le_of_ble_eq_true rfl), (Nat.le_of_ble_eq_true rfl)⟩ rfl (Nat.le_of_ble_eq_true rfl) d_Search_addStep_52 (k' := 0) (n' := 0) (stk' := []) rfl rfl rfl ?_
  exact z_vret C E (Nat.le_of_ble_eq_true rfl) (Nat.le_of_ble_eq_true rfl) d_Search_addStep_55 hf

theorem c_Search_addStep (N : Nat) {l : Launch} {D : va_G} {T : List (ClassId × FieldType)} (hT : T.map (fun q => q.2) = ztl) {x0 : Nat} {x1 : Int32} {x2 : Int32} {x3 : Int32} {h : zH} {p : Unit × zH} (hf : f_Search_addStep N x0 x1 x2 x3 h = some p) : zM l y_Search_addStep prog_5_method_15_code 6 none rm_Search_addStep D T [.ref x0, .int x1, .int x2, .int x3] h none p.2 :=
  z_enter (by decide) hT (Nat.le_of_ble_eq_true rfl) (fun X el eD eT hin C E => k_Search_addStep N C E x0 x1 x2 x3 h hf)
/-! ===== LevelTables$Search.fillStates([JI)V ===== -/
abbrev y_Search_fillStates : MethodName := ⟨R_Search, "fillStates", "([JI)V"⟩
theorem pd_Search_fillStates : y_Search_fillStates.cls ≠ "java/lang/invoke/MethodHandle" ∧ y_Search_fillStates.cls ≠ "java/lang/invoke/VarHandle" ∧ (parseMethodDescriptor y_Search_fillStates.desc).map (fun d => d.parameters.length) = some 2 := ⟨by decide +kernel, by decide +kernel, by decide +kernel⟩
abbrev rm_Search_fillStates : Room := { frames := 3, cells := 0, slots := 0, locals := 81 }
def f_Search_fillStates_158 (N : Nat) (rc31 : Nat → Nat → Int32 → Int32 → Int32 → Int32 → Int32 → Int32 → Int32 → zH → Option (Unit × zH)) (x0 : Nat) (x1 : Nat) (x2 : Int32) (x3 : Int32) (x4 : Int32) (x5 : Int32) (x6 : Int32) (x7 : Int32) (x8 : Int32) (h : zH) : Option (Unit × zH) :=
  rc31 x0 x1 x2 x3 x4 x5 x6 x7 (x8 + (1 : Int32)) h
def f_Search_fillStates_146 (N : Nat) (rc31 : Nat → Nat → Int32 → Int32 → Int32 → Int32 → Int32 → Int32 → Int32 → zH → Option (Unit × zH)) (x0 : Nat) (x1 : Nat) (x2 : Int32) (x3 : Int32) (x4 : Int32) (x8 : Int32) (x9 : Int32) (x11 : Int32) (x12 : Int32) (h : zH) : Option (Unit × zH) :=
  f_Search_fillStates_158 N rc31 x0 x1 x2 x3 x4 x11 x12 x9 x8 h
def f_Search_fillStates_135 (N : Nat) (rc31 : Nat → Nat → Int32 → Int32 → Int32 → Int32 → Int32 → Int32 → Int32 → zH → Option (Unit × zH)) (x0 : Nat) (x1 : Nat) (x2 : Int32) (x3 : Int32) (x4 : Int32) (x8 : Int32) (x9 : Int32) (x11 : Int32) (x12 : Int32) (h : zH) : Option (Unit × zH) :=
  Option.bind (zck (zis h x0 8) (f_Search_gather N x0 x1 x9 x11 x12 h)) fun (p1 : Unit × zH) =>
  f_Search_fillStates_146 N rc31 x0 x1 x2 x3 x4 x8 x9 x11 x12 p1.2
def b_Search_fillStates_31 (N : Nat) (rc31 : Nat → Nat → Int32 → Int32 → Int32 → Int32 → Int32 → Int32 → Int32 → zH → Option (Unit × zH)) (x0 : Nat) (x1 : Nat) (x2 : Int32) (x3 : Int32) (x4 : Int32) (x5 : Int32) (x6 : Int32) (x7 : Int32) (x8 : Int32) (h : zH) : Option (Unit × zH) :=
  (if x4 < x8 then
    some ((), h)
  else
    Option.bind (zgR h x0 8 0) fun (v2 : Nat) =>
    Option.bind (zck (zis h v2 2) (f_Site_slopeFits N v2 (x2 - x8) h)) fun (p3 : Int32 × zH) =>
    (if p3.1 = 0 then
      f_Search_fillStates_158 N rc31 x0 x1 x2 x3 x4 x5 x6 x7 x8 p3.2
    else
      Option.bind (zck (zis p3.2 x0 8) (f_Search_indexOf N x0 x2 x8 p3.2)) fun (p4 : Int32 × zH) =>
      Option.bind (zgR p4.2 x0 8 0) fun (v5 : Nat) =>
      Option.bind (zgI p4.2 v5 2 8) fun (v6 : Int32) =>
      Option.bind (zgR p4.2 x0 8 0) fun (v7 : Nat) =>
      Option.bind (zgI p4.2 v7 2 8) fun (v8 : Int32) =>
      (if (zmax x3 (((x2 + x2) - x8) - v6)) = x5 then
        (if (zmin x4 (((x2 + x2) - x8) + v8)) = x6 then
          Option.bind (zgI p4.2 x0 8 3) fun (v9 : Int32) =>
          Option.bind (zcpJ p4.2 x1 x7 x1 p4.1 v9) fun (h10 : zH) =>
          f_Search_fillStates_146 N rc31 x0 x1 x2 x3 x4 x8 p4.1 (zmax x3 (((x2 + x2) - x8) - v6)) (zmin x4 (((x2 + x2) - x8) + v8)) h10
        else
          f_Search_fillStates_135 N rc31 x0 x1 x2 x3 x4 x8 p4.1 (zmax x3 (((x2 + x2) - x8) - v6)) (zmin x4 (((x2 + x2) - x8) + v8)) p4.2)
      else
        f_Search_fillStates_135 N rc31 x0 x1 x2 x3 x4 x8 p4.1 (zmax x3 (((x2 + x2) - x8) - v6)) (zmin x4 (((x2 + x2) - x8) + v8)) p4.2)))
def f_Search_fillStates_31 (N : Nat) : Nat → Nat → Nat → Int32 → Int32 → Int32 → Int32 → Int32 → Int32 → Int32 → zH → Option (Unit × zH)
  | 0 => fun _ _ _ _ _ _ _ _ _ _ => none
  | n + 1 => fun x0 x1 x2 x3 x4 x5 x6 x7 x8 h => b_Search_fillStates_31 N (f_Search_fillStates_31 N n) x0 x1 x2 x3 x4 x5 x6 x7 x8 h
def f_Search_fillStates (N : Nat) (x0 : Nat) (x1 : Nat) (x2 : Int32) (h : zH) : Option (Unit × zH) :=
  Option.bind (zgR h x0 8 0) fun (v11 : Nat) =>
  Option.bind (zck (zis h v11 2) (f_Site_lowestNear N v11 x2 h)) fun (p12 : Int32 × zH) =>
  Option.bind (zgR p12.2 x0 8 0) fun (v13 : Nat) =>
  Option.bind (zck (zis p12.2 v13 2) (f_Site_highestNear N v13 x2 p12.2)) fun (p14 : Int32 × zH) =>
  f_Search_fillStates_31 N N x0 x1 x2 p12.1 p14.1 (-1 : Int32) (-1 : Int32) (-1 : Int32) p12.1 p14.2
theorem d_Search_fillStates_0 : decode prog_5_method_10_code 0 = .ok (.aload_n (0), 1) := by decide +kernel
theorem d_Search_fillStates_1 : decode prog_5_method_10_code 1 = .ok (.getfield (15), 3) := by decide +kernel
theorem d_Search_fillStates_4 : decode prog_5_method_10_code 4 = .ok (.iload_n (2), 1) := by decide +kernel
theorem d_Search_fillStates_5 : decode prog_5_method_10_code 5 = .ok (.invokevirtual (120), 3) := by decide +kernel
theorem d_Search_fillStates_8 : decode prog_5_method_10_code 8 = .ok (.istore_n (3), 1) := by decide +kernel
theorem d_Search_fillStates_9 : decode prog_5_method_10_code 9 = .ok (.aload_n (0), 1) := by decide +kernel
theorem d_Search_fillStates_10 : decode prog_5_method_10_code 10 = .ok (.getfield (15), 3) := by decide +kernel
theorem d_Search_fillStates_13 : decode prog_5_method_10_code 13 = .ok (.iload_n (2), 1) := by decide +kernel
theorem d_Search_fillStates_14 : decode prog_5_method_10_code 14 = .ok (.invokevirtual (117), 3) := by decide +kernel
theorem d_Search_fillStates_17 : decode prog_5_method_10_code 17 = .ok (.istore (4), 2) := by decide +kernel
theorem d_Search_fillStates_19 : decode prog_5_method_10_code 19 = .ok (.iconst (-1), 1) := by decide +kernel
theorem d_Search_fillStates_20 : decode prog_5_method_10_code 20 = .ok (.istore (5), 2) := by decide +kernel
theorem d_Search_fillStates_22 : decode prog_5_method_10_code 22 = .ok (.iconst (-1), 1) := by decide +kernel
theorem d_Search_fillStates_23 : decode prog_5_method_10_code 23 = .ok (.istore (6), 2) := by decide +kernel
theorem d_Search_fillStates_25 : decode prog_5_method_10_code 25 = .ok (.iconst (-1), 1) := by decide +kernel
theorem d_Search_fillStates_26 : decode prog_5_method_10_code 26 = .ok (.istore (7), 2) := by decide +kernel
theorem d_Search_fillStates_28 : decode prog_5_method_10_code 28 = .ok (.iload_n (3), 1) := by decide +kernel
theorem d_Search_fillStates_29 : decode prog_5_method_10_code 29 = .ok (.istore (8), 2) := by decide +kernel
theorem d_Search_fillStates_31 : decode prog_5_method_10_code 31 = .ok (.iload (8), 2) := by decide +kernel
theorem d_Search_fillStates_33 : decode prog_5_method_10_code 33 = .ok (.iload (4), 2) := by decide +kernel
theorem d_Search_fillStates_35 : decode prog_5_method_10_code 35 = .ok (.if_icmp .gt (129), 3) := by decide +kernel
theorem d_Search_fillStates_38 : decode prog_5_method_10_code 38 = .ok (.aload_n (0), 1) := by decide +kernel
theorem d_Search_fillStates_39 : decode prog_5_method_10_code 39 = .ok (.getfield (15), 3) := by decide +kernel
theorem d_Search_fillStates_42 : decode prog_5_method_10_code 42 = .ok (.iload_n (2), 1) := by decide +kernel
theorem d_Search_fillStates_43 : decode prog_5_method_10_code 43 = .ok (.iload (8), 2) := by decide +kernel
theorem d_Search_fillStates_45 : decode prog_5_method_10_code 45 = .ok (.isub, 1) := by decide +kernel
theorem d_Search_fillStates_46 : decode prog_5_method_10_code 46 = .ok (.invokevirtual (123), 3) := by decide +kernel
theorem d_Search_fillStates_49 : decode prog_5_method_10_code 49 = .ok (.ifCond .ne (6), 3) := by decide +kernel
theorem d_Search_fillStates_52 : decode prog_5_method_10_code 52 = .ok (.goto (106), 3) := by decide +kernel
theorem d_Search_fillStates_55 : decode prog_5_method_10_code 55 = .ok (.aload_n (0), 1) := by decide +kernel
theorem d_Search_fillStates_56 : decode prog_5_method_10_code 56 = .ok (.iload_n (2), 1) := by decide +kernel
theorem d_Search_fillStates_57 : decode prog_5_method_10_code 57 = .ok (.iload (8), 2) := by decide +kernel
theorem d_Search_fillStates_59 : decode prog_5_method_10_code 59 = .ok (.invokevirtual (126), 3) := by decide +kernel
theorem d_Search_fillStates_62 : decode prog_5_method_10_code 62 = .ok (.istore (9), 2) := by decide +kernel
theorem d_Search_fillStates_64 : decode prog_5_method_10_code 64 = .ok (.iload_n (2), 1) := by decide +kernel
theorem d_Search_fillStates_65 : decode prog_5_method_10_code 65 = .ok (.iload_n (2), 1) := by decide +kernel
theorem d_Search_fillStates_66 : decode prog_5_method_10_code 66 = .ok (.iadd, 1) := by decide +kernel
theorem d_Search_fillStates_67 : decode prog_5_method_10_code 67 = .ok (.iload (8), 2) := by decide +kernel
theorem d_Search_fillStates_69 : decode prog_5_method_10_code 69 = .ok (.isub, 1) := by decide +kernel
theorem d_Search_fillStates_70 : decode prog_5_method_10_code 70 = .ok (.istore (10), 2) := by decide +kernel
theorem d_Search_fillStates_72 : decode prog_5_method_10_code 72 = .ok (.iload_n (3), 1) := by decide +kernel
theorem d_Search_fillStates_73 : decode prog_5_method_10_code 73 = .ok (.iload (10), 2) := by decide +kernel
theorem d_Search_fillStates_75 : decode prog_5_method_10_code 75 = .ok (.aload_n (0), 1) := by decide +kernel
theorem d_Search_fillStates_76 : decode prog_5_method_10_code 76 = .ok (.getfield (15), 3) := by decide +kernel
theorem d_Search_fillStates_79 : decode prog_5_method_10_code 79 = .ok (.getfield (130), 3) := by decide +kernel
theorem d_Search_fillStates_82 : decode prog_5_method_10_code 82 = .ok (.isub, 1) := by decide +kernel
theorem d_Search_fillStates_83 : decode prog_5_method_10_code 83 = .ok (.invokestatic (133), 3) := by decide +kernel
theorem d_Search_fillStates_86 : decode prog_5_method_10_code 86 = .ok (.istore (11), 2) := by decide +kernel
theorem d_Search_fillStates_88 : decode prog_5_method_10_code 88 = .ok (.iload (4), 2) := by decide +kernel
theorem d_Search_fillStates_90 : decode prog_5_method_10_code 90 = .ok (.iload (10), 2) := by decide +kernel
theorem d_Search_fillStates_92 : decode prog_5_method_10_code 92 = .ok (.aload_n (0), 1) := by decide +kernel
theorem d_Search_fillStates_93 : decode prog_5_method_10_code 93 = .ok (.getfield (15), 3) := by decide +kernel
theorem d_Search_fillStates_96 : decode prog_5_method_10_code 96 = .ok (.getfield (130), 3) := by decide +kernel
theorem d_Search_fillStates_99 : decode prog_5_method_10_code 99 = .ok (.iadd, 1) := by decide +kernel
theorem d_Search_fillStates_100 : decode prog_5_method_10_code 100 = .ok (.invokestatic (138), 3) := by decide +kernel
theorem d_Search_fillStates_103 : decode prog_5_method_10_code 103 = .ok (.istore (12), 2) := by decide +kernel
theorem d_Search_fillStates_105 : decode prog_5_method_10_code 105 = .ok (.iload (11), 2) := by decide +kernel
theorem d_Search_fillStates_107 : decode prog_5_method_10_code 107 = .ok (.iload (5), 2) := by decide +kernel
theorem d_Search_fillStates_109 : decode prog_5_method_10_code 109 = .ok (.if_icmp .ne (26), 3) := by decide +kernel
theorem d_Search_fillStates_112 : decode prog_5_method_10_code 112 = .ok (.iload (12), 2) := by decide +kernel
theorem d_Search_fillStates_114 : decode prog_5_method_10_code 114 = .ok (.iload (6), 2) := by decide +kernel
theorem d_Search_fillStates_116 : decode prog_5_method_10_code 116 = .ok (.if_icmp .ne (19), 3) := by decide +kernel
theorem d_Search_fillStates_119 : decode prog_5_method_10_code 119 = .ok (.aload_n (1), 1) := by decide +kernel
theorem d_Search_fillStates_120 : decode prog_5_method_10_code 120 = .ok (.iload (7), 2) := by decide +kernel
theorem d_Search_fillStates_122 : decode prog_5_method_10_code 122 = .ok (.aload_n (1), 1) := by decide +kernel
theorem d_Search_fillStates_123 : decode prog_5_method_10_code 123 = .ok (.iload (9), 2) := by decide +kernel
theorem d_Search_fillStates_125 : decode prog_5_method_10_code 125 = .ok (.aload_n (0), 1) := by decide +kernel
theorem d_Search_fillStates_126 : decode prog_5_method_10_code 126 = .ok (.getfield (23), 3) := by decide +kernel
theorem d_Search_fillStates_129 : decode prog_5_method_10_code 129 = .ok (.invokestatic (86), 3) := by decide +kernel
theorem d_Search_fillStates_132 : decode prog_5_method_10_code 132 = .ok (.goto (14), 3) := by decide +kernel
theorem d_Search_fillStates_135 : decode prog_5_method_10_code 135 = .ok (.aload_n (0), 1) := by decide +kernel
theorem d_Search_fillStates_136 : decode prog_5_method_10_code 136 = .ok (.aload_n (1), 1) := by decide +kernel
theorem d_Search_fillStates_137 : decode prog_5_method_10_code 137 = .ok (.iload (9), 2) := by decide +kernel
theorem d_Search_fillStates_139 : decode prog_5_method_10_code 139 = .ok (.iload (11), 2) := by decide +kernel
theorem d_Search_fillStates_141 : decode prog_5_method_10_code 141 = .ok (.iload (12), 2) := by decide +kernel
theorem d_Search_fillStates_143 : decode prog_5_method_10_code 143 = .ok (.invokevirtual (141), 3) := by decide +kernel
theorem d_Search_fillStates_146 : decode prog_5_method_10_code 146 = .ok (.iload (11), 2) := by decide +kernel
theorem d_Search_fillStates_148 : decode prog_5_method_10_code 148 = .ok (.istore (5), 2) := by decide +kernel
theorem d_Search_fillStates_150 : decode prog_5_method_10_code 150 = .ok (.iload (12), 2) := by decide +kernel
theorem d_Search_fillStates_152 : decode prog_5_method_10_code 152 = .ok (.istore (6), 2) := by decide +kernel
theorem d_Search_fillStates_154 : decode prog_5_method_10_code 154 = .ok (.iload (9), 2) := by decide +kernel
theorem d_Search_fillStates_156 : decode prog_5_method_10_code 156 = .ok (.istore (7), 2) := by decide +kernel
theorem d_Search_fillStates_158 : decode prog_5_method_10_code 158 = .ok (.iinc (8) (1), 3) := by decide +kernel
theorem d_Search_fillStates_161 : decode prog_5_method_10_code 161 = .ok (.goto (-130), 3) := by decide +kernel
theorem d_Search_fillStates_164 : decode prog_5_method_10_code 164 = .ok (.return_, 1) := by decide +kernel
set_option maxHeartbeats 4000000 in
set_option maxRecDepth 100000 in
theorem k_Search_fillStates_158 (N : Nat) {X : zX} (C : zB X prog_5_method_10_code 13 R_Search rm_Search_fillStates) {h0 : zH} {p : Unit × zH} (E : zR X none rm_Search_fillStates h0 none p.2) {rc31 : Nat → Nat → Int32 → Int32 → Int32 → Int32 → Int32 → Int32 → Int32 → zH → Option (Unit × zH)} (H31 : ∀ (x0 : Nat) (x1 : Nat) (x2 : Int32) (x3 : Int32) (x4 : Int32) (x5 : Int32) (x6 : Int32) (x7 : Int32) (x8 : Int32) (h : zH), rc31 x0 x1 x2 x3 x4 x5 x6 x7 x8 h = some p → Zt X 13 0 0 31 [(0, .ref x0), (1, .ref x1), (2, .int x2), (3, .int x3), (4, .int x4), (5, .int x5), (6, .int x6), (7, .int x7), (8, .int x8)] [] h) : ∀ (x0 : Nat) (x1 : Nat) (x2 : Int32) (x3 : Int32) (x4 : Int32) (x5 : Int32) (x6 : Int32) (x7 : Int32) (x8 : Int32) (h : zH), f_Search_fillStates_158 N rc31 x0 x1 x2 x3 x4 x5 x6 x7 x8 h = some p → Zt X 13 0 0 158 [(0, .ref x0), (1, .ref x1), (2, .int x2), (3, .int x3), (4, .int x4), (5, .int x5), (6, .int x6), (7, .int x7), (8, .int x8)] [] h := by
  intro x0 x1 x2 x3 x4 x5 x6 x7 x8 h hf
  unfold f_Search_fillStates_158 at hf
  refine z_iinc C (v := (x8 + (1 : Int32))) (lv' := [(8, .int (x8 + (1 : Int32))), (0, .ref x0), (1, .ref x1), (2, .int x2), (3, .int x3), (4, .int x4), (5, .int x5), (6, .int x6), (7, .int x7)]) 8 d_Search_fillStates_158 rfl (by rfl) (by decide) rfl ?_
  refine z_goto (tgt := 31) C d_Search_fillStates_161 (by decide) ?_
  refine z_sub [1, 2, 3, 4, 5, 6, 7, 8, 0] rfl ?_
  exact H31 _ _ _ _ _ _ _ _ _ _ hf

set_option maxHeartbeats 4000000 in
set_option maxRecDepth 100000 in
theorem k_Search_fillStates_146 (N : Nat) {X : zX} (C : zB X prog_5_method_10_code 13 R_Search rm_Search_fillStates) {h0 : zH} {p : Unit × zH} (E : zR X none rm_Search_fillStates h0 none p.2) {rc31 : Nat → Nat → Int32 → Int32 → Int32 → Int32 → Int32 → Int32 → Int32 → zH → Option (Unit × zH)} (H31 : ∀ (x0 : Nat) (x1 : Nat) (x2 : Int32) (x3 : Int32) (x4 : Int32) (x5 : Int32) (x6 : Int32) (x7 : Int32) (x8 : Int32) (h : zH), rc31 x0 x1 x2 x3 x4 x5 x6 x7 x8 h = some p → Zt X 13 0 0 31 [(0, .ref x0), (1, .ref x1), (2, .int x2), (3, .int x3), (4, .int x4), (5, .int x5), (6, .int x6), (7, .int x7), (8, .int x8)] [] h) : ∀ (x0 : Nat) (x1 : Nat) (x2 : Int32) (x3 : Int32) (x4 : Int32) (x8 : Int32) (x9 : Int32) (x11 : Int32) (x12 : Int32) (h : zH), f_Search_fillStates_146 N rc31 x0 x1 x2 x3 x4 x8 x9 x11 x12 h = some p → Zt X 13 0 0 146 [(0, .ref x0), (1, .ref x1), (2, .int x2), (3, .int x3), (4, .int x4), (8, .int x8), (9, .int x9), (11, .int x11), (12, .int x12)] [] h := by
  intro x0 x1 x2 x3 x4 x8 x9 x11 x12 h hf
  unfold f_Search_fillStates_146 at hf
  refine z_iload C 7 d_Search_fillStates_146 rfl ?_
  refine z_istore C (lv' := [(5, .int x11), (0, .ref x0), (1, .ref x1), (2, .int x2), (3, .int x3), (4, .int x4), (8, .int x8), (9, .int x9), (11, .int x11), (12, .int x12)]) d_Search_fillStates_148 (by decide) rfl ?_
  refine z_iload C 9 d_Search_fillStates_150 rfl ?_
  refine z_istore C (lv' := [(6, .int x12), (5, .int x11), (0, .ref x0), (1, .ref x1), (2, .int x2), (3, .int x3), (4, .int x4), (8, .int x8), (9, .int x9), (11, .int x11), (12, .int x12)]) d_Search_fillStates_152 (by decide) rfl ?_
  refine z_iload C 8 d_Search_fillStates_154 rfl ?_
  refine z_istore C (lv' := [(7, .int x9), (6, .int x12), (5, .int x11), (0, .ref x0), (1, .ref x1), (2, .int x2), (3, .int x3), (4, .int x4), (8, .int x8), (9, .int x9), (11, .int x11), (12, .int x12)]) d_Search_fillStates_156 (by decide) rfl ?_
  refine z_sub [3, 4, 5, 6, 7, 2, 1, 0, 8] rfl ?_
  exact k_Search_fillStates_158 N C E H31 _ _ _ _ _ _ _ _ _ _ hf

set_option maxHeartbeats 4000000 in
set_option maxRecDepth 100000 in
theorem k_Search_fillStates_135 (N : Nat) {X : zX} (C : zB X prog_5_method_10_code 13 R_Search rm_Search_fillStates) {h0 : zH} {p : Unit × zH} (E : zR X none rm_Search_fillStates h0 none p.2) {rc31 : Nat → Nat → Int32 → Int32 → Int32 → Int32 → Int32 → Int32 → Int32 → zH → Option (Unit × zH)} (H31 : ∀ (x0 : Nat) (x1 : Nat) (x2 : Int32) (x3 : Int32) (x4 : Int32) (x5 : Int32) (x6 : Int32) (x7 : Int32) (x8 : Int32) (h : zH), rc31 x0 x1 x2 x3 x4 x5 x6 x7 x8 h = some p → Zt X 13 0 0 31 [(0, .ref x0), (1, .ref x1), (2, .int x2), (3, .int x3), (4, .int x4), (5, .int x5), (6, .int x6), (7, .int x7), (8, .int x8)] [] h) : ∀ (x0 : Nat) (x1 : Nat) (x2 : Int32) (x3 : Int32) (x4 : Int32) (x8 : Int32) (x9 : Int32) (x11 : Int32) (x12 : Int32) (h : zH), f_Search_fillStates_135 N rc31 x0 x1 x2 x3 x4 x8 x9 x11 x12 h = some p → Zt X 13 0 0 135 [(0, .ref x0), (1, .ref x1), (2, .int x2), (3, .int x3), (4, .int x4), (8, .int x8), (9, .int x9), (11, .int x11), (12, .int x12)] [] h := by
  intro x0 x1 x2 x3 x4 x8 x9 x11 x12 h hf
  unfold f_Search_fillStates_135 at hf
  refine z_aload_n C 0 d_Search_fillStates_135 rfl rfl ?_
  refine z_aload_n C 1 d_Search_fillStates_136 rfl rfl ?_
  refine z_iload C 6 d_Search_fillStates_137 rfl ?_
  refine z_iload C 7 d_Search_fillStates_139 rfl ?_
  refine z_iload C 8 d_Search_fillStates_141 rfl ?_
  obtain ⟨p1, hc, hf⟩ := Option.bind_eq_some_iff.mp hf
  obtain ⟨hz, hc⟩ := zck_some hc
  refine z_callV C (ci := 8) (c_Search_gather N C.2.2.1 hc) rfl hz w_537 w_67 w_534 w_536 w_18 pd_Search_gather rfl ⟨(Nat.le_of_ble_eq_true rfl), (Nat.le_of_ble_eq_true rfl)⟩ ⟨(Nat.le_of_ble_eq_true rfl), (Nat.le_of_ble_eq_true rfl)⟩ rfl (Nat.le_of_ble_eq_true rfl) d_Search_fillStates_143 (k' := 0) (n' := 0) (stk' := []) rfl rfl rfl ?_
  refine z_sub [0, 1, 2, 3, 4, 5, 6, 7, 8] rfl ?_
  exact k_Search_fillStates_146 N C E H31 _ _ _ _ _ _ _ _ _ _ hf

set_option maxHeartbeats 4000000 in
set_option maxRecDepth 100000 in
theorem k_Search_fillStates_31 (N : Nat) {X : zX} (C : zB X prog_5_method_10_code 13 R_Search rm_Search_fillStates) {h0 : zH} {p : Unit × zH} (E : zR X none rm_Search_fillStates h0 none p.2) : ∀ n : Nat, ∀ (x0 : Nat) (x1 : Nat) (x2 : Int32) (x3 : Int32) (x4 : Int32) (x5 : Int32) (x6 : Int32) (x7 : Int32) (x8 : Int32) (h : zH), f_Search_fillStates_31 N n x0 x1 x2 x3 x4 x5 x6 x7 x8 h = some p → Zt X 13 0 0 31 [(0, .ref x0), (1, .ref x1), (2, .int x2), (3, .int x3), (4, .int x4), (5, .int x5), (6, .int x6), (7, .int x7), (8, .int x8)] [] h := by
  intro n
  induction n with
  | zero => intro x0 x1 x2 x3 x4 x5 x6 x7 x8 h hf; cases hf
  | succ n ih =>
  intro x0 x1 x2 x3 x4 x5 x6 x7 x8 h hf
  have H31 := ih
  replace hf : b_Search_fillStates_31 N (f_Search_fillStates_31 N n) x0 x1 x2 x3 x4 x5 x6 x7 x8 h = some p := hf
  unfold b_Search_fillStates_31 at hf
  refine z_iload C 8 d_Search_fillStates_31 rfl ?_
  refine z_iload C 4 d_Search_fillStates_33 rfl ?_
  refine z_ic_gt (tgt := 164) C d_Search_fillStates_35 (by decide) hf (fun hf => ?_) (fun hf => ?_)
  · exact z_vret C E (Nat.le_of_ble_eq_true rfl) (Nat.le_of_ble_eq_true rfl) d_Search_fillStates_164 hf
  · refine z_aload_n C 0 d_Search_fillStates_38 rfl rfl ?_
    refine z_getR C 8 0 rfl in_Search (by decide) w_422 rfl d_Search_fillStates_39 hf (fun v2 hf => ?_)
    refine z_iload_n C 2 d_Search_fillStates_42 rfl rfl ?_
    refine z_iload C 8 d_Search_fillStates_43 rfl ?_
    refine z_isub C d_Search_fillStates_45 ?_
    obtain ⟨p3, hc, hf⟩ := Option.bind_eq_some_iff.mp hf
    obtain ⟨hz, hc⟩ := zck_some hc
    refine z_callV C (ci := 2) (c_Site_slopeFits N C.2.2.1 hc) rfl hz w_405 w_59 w_485 w_403 w_404 pd_Site_slopeFits rfl ⟨(Nat.le_of_ble_eq_true rfl), (Nat.le_of_ble_eq_true rfl)⟩ ⟨(Nat.le_of_ble_eq_true rfl), (Nat.le_of_ble_eq_true rfl)⟩ rfl (Nat.le_of_ble_eq_true rfl) d_Search_fillStates_46 (k' := 0) (n' := 0) (stk' := [.int p3.1]) rfl rfl rfl ?_
    refine z_if_ne (tgt := 55) C d_Search_fillStates_49 (by decide) hf (fun hf => ?_) (fun hf => ?_)
    · refine z_aload_n C 0 d_Search_fillStates_55 rfl rfl ?_
      refine z_iload_n C 2 d_Search_fillStates_56 rfl rfl ?_
      refine z_iload C 8 d_Search_fillStates_57 rfl ?_
      obtain ⟨p4, hc, hf⟩ := Option.bind_eq_some_iff.mp hf
      obtain ⟨hz, hc⟩ := zck_some hc
      refine z_callV C (ci := 8) (c_Search_indexOf N C.2.2.1 hc) rfl hz w_489 w_67 w_486 w_488 w_10 pd_Search_indexOf rfl ⟨(Nat.le_of_ble_eq_true rfl), (Nat.le_of_ble_eq_true rfl)⟩ ⟨(Nat.le_of_ble_eq_true rfl), (Nat.le_of_ble_eq_true rfl)⟩ rfl (Nat.le_of_ble_eq_true rfl) d_Search_fillStates_59 (k' := 0) (n' := 0) (stk' := [.int p4.1]) rfl rfl rfl ?_
      refine z_istore C (lv' := [(9, .int p4.1), (0, .ref x0), (1, .ref x1), (2, .int x2), (3, .int x3), (4, .int x4), (5, .int x5), (6, .int x6), (7, .int x7), (8, .int x8)]) d_Search_fillStates_62 (by decide) rfl ?_
      refine z_iload_n C 3 d_Search_fillStates_64 rfl rfl ?_
      refine z_iload_n C 3 d_Search_fillStates_65 rfl rfl ?_
      refine z_iadd C d_Search_fillStates_66 ?_
      refine z_iload C 9 d_Search_fillStates_67 rfl ?_
      refine z_isub C d_Search_fillStates_69 ?_
      refine z_istore C (lv' := [(10, .int ((x2 + x2) - x8)), (9, .int p4.1), (0, .ref x0), (1, .ref x1), (2, .int x2), (3, .int x3), (4, .int x4), (5, .int x5), (6, .int x6), (7, .int x7), (8, .int x8)]) d_Search_fillStates_70 (by decide) rfl ?_
      refine z_iload_n C 5 d_Search_fillStates_72 rfl rfl ?_
      refine z_iload C 0 d_Search_fillStates_73 rfl ?_
      refine z_aload_n C 2 d_Search_fillStates_75 rfl rfl ?_
      refine z_getR C 8 0 rfl in_Search (by decide) w_422 rfl d_Search_fillStates_76 hf (fun v5 hf => ?_)
      refine z_getI C 2 8 rfl in_Site (by decide) w_118 rfl d_Search_fillStates_79 hf (fun v6 hf => ?_)
      refine z_isub C d_Search_fillStates_82 ?_
      refine z_mmax C w_529 w_82 w_58 w_83 (Nat.le_of_ble_eq_true rfl) (Nat.le_of_ble_eq_true rfl) (Nat.le_of_ble_eq_true rfl) (Nat.le_of_ble_eq_true rfl) d_Search_fillStates_83 ?_
      refine z_istore C (lv' := [(11, .int (zmax x3 (((x2 + x2) - x8) - v6))), (10, .int ((x2 + x2) - x8)), (9, .int p4.1), (0, .ref x0), (1, .ref x1), (2, .int x2), (3, .int x3), (4, .int x4), (5, .int x5), (6, .int x6), (7, .int x7), (8, .int x8)]) d_Search_fillStates_86 (by decide) rfl ?_
      refine z_iload C 7 d_Search_fillStates_88 rfl ?_
      refine z_iload C 1 d_Search_fillStates_90 rfl ?_
      refine z_aload_n C 3 d_Search_fillStates_92 rfl rfl ?_
      refine z_getR C 8 0 rfl in_Search (by decide) w_422 rfl d_Search_fillStates_93 hf (fun v7 hf => ?_)
      refine z_getI C 2 8 rfl in_Site (by decide) w_118 rfl d_Search_fillStates_96 hf (fun v8 hf => ?_)
      refine z_iadd C d_Search_fillStates_99 ?_
      refine z_mmin C w_530 w_79 w_58 w_80 (Nat.le_of_ble_eq_true rfl) (Nat.le_of_ble_eq_true rfl) (Nat.le_of_ble_eq_true rfl) (Nat.le_of_ble_eq_true rfl) d_Search_fillStates_100 ?_
      refine z_istore C (lv' := [(12, .int (zmin x4 (((x2 + x2) - x8) + v8))), (11, .int (zmax x3 (((x2 + x2) - x8) - v6))), (10, .int ((x2 + x2) - x8)), (9, .int p4.1), (0, .ref x0), (1, .ref x1), (2, .int x2), (3, .int x3), (4, .int x4), (5, .int x5), (6, .int x6), (7, .int x7), (8, .int x8)]) d_Search_fillStates_103 (by decide) rfl ?_
      refine z_iload C 1 d_Search_fillStates_105 rfl ?_
      refine z_iload C 9 d_Search_fillStates_107 rfl ?_
      refine z_ic_ne (tgt := 135) C d_Search_fillStates_109 (by decide) hf (fun hf => ?_) (fun hf => ?_)
      · refine z_sub [4, 5, 6, 7, 8, 12, 3, 1, 0] rfl ?_
        exact k_Search_fillStates_135 N C E H31 _ _ _ _ _ _ _ _ _ _ hf
      · refine z_iload C 0 d_Search_fillStates_112 rfl ?_
        refine z_iload C 10 d_Search_fillStates_114 rfl ?_
        refine z_ic_ne (tgt := 135) C d_Search_fillStates_116 (by decide) hf (fun hf => ?_) (fun hf => ?_)
        · refine z_sub [4, 5, 6, 7, 8, 12, 3, 1, 0] rfl ?_
          exact k_Search_fillStates_135 N C E H31 _ _ _ _ _ _ _ _ _ _ hf
        · refine z_aload_n C 5 d_Search_fillStates_119 rfl rfl ?_
          refine z_iload C 11 d_Search_fillStates_120 rfl ?_
          refine z_aload_n C 5 d_Search_fillStates_122 rfl rfl ?_
          refine z_iload C 3 d_Search_fillStates_123 rfl ?_
          refine z_aload_n C 4 d_Search_fillStates_125 rfl rfl ?_
          refine z_getI C 8 3 rfl in_Search (by decide) w_425 rfl d_Search_fillStates_126 hf (fun v9 hf => ?_)
          refine z_cpJ C w_531 w_533 w_532 w_68 (Nat.le_of_ble_eq_true rfl) (Nat.le_of_ble_eq_true rfl) d_Search_fillStates_129 hf (fun h10 hf => ?_)
          refine z_goto (tgt := 146) C d_Search_fillStates_132 (by decide) ?_
          refine z_sub [4, 5, 6, 7, 8, 12, 3, 1, 0] rfl ?_
          exact k_Search_fillStates_146 N C E H31 _ _ _ _ _ _ _ _ _ _ hf
    · refine z_goto (tgt := 158) C d_Search_fillStates_52 (by decide) ?_
      refine z_sub [0, 1, 2, 3, 4, 5, 6, 7, 8] rfl ?_
      exact k_Search_fillStates_158 N C E H31 _ _ _ _ _ _ _ _ _ _ hf

set_option maxHeartbeats 4000000 in
set_option maxRecDepth 100000 in
theorem k_Search_fillStates (N : Nat) {X : zX} (C : zB X prog_5_method_10_code 13 R_Search rm_Search_fillStates) {h0 : zH} {p : Unit × zH} (E : zR X none rm_Search_fillStates h0 none p.2) : ∀ (x0 : Nat) (x1 : Nat) (x2 : Int32) (h : zH), f_Search_fillStates N x0 x1 x2 h = some p → Zt X 13 0 0 0 [(0, .ref x0), (1, .ref x1), (2, .int x2)] [] h := by
  intro x0 x1 x2 h hf
  unfold f_Search_fillStates at hf
  refine z_aload_n C 0 d_Search_fillStates_0 rfl rfl ?_
  refine z_getR C 8 0 rfl in_Search (by decide) w_422 rfl d_Search_fillStates_1 hf (fun v11 hf => ?_)
  refine z_iload_n C 2 d_Search_fillStates_4 rfl rfl ?_
  obtain ⟨p12, hc, hf⟩ := Option.bind_eq_some_iff.mp hf
  obtain ⟨hz, hc⟩ := zck_some hc
  refine z_callV C (ci := 2) (c_Site_lowestNear N C.2.2.1 hc) rfl hz w_396 w_59 w_484 w_394 w_395 pd_Site_lowestNear rfl ⟨(Nat.le_of_ble_eq_true rfl), (Nat.le_of_ble_eq_true rfl)⟩ ⟨(Nat.le_of_ble_eq_true rfl), (Nat.le_of_ble_eq_true rfl)⟩ rfl (Nat.le_of_ble_eq_true rfl) d_Search_fillStates_5 (k' := 0) (n' := 0) (stk' := [.int p12.1]) rfl rfl rfl ?_
  refine z_istore_n C (lv' := [(3, .int p12.1), (0, .ref x0), (1, .ref x1), (2, .int x2)]) d_Search_fillStates_8 rfl (by decide) rfl ?_
  refine z_aload_n C 1 d_Search_fillStates_9 rfl rfl ?_
  refine z_getR C 8 0 rfl in_Search (by decide) w_422 rfl d_Search_fillStates_10 hf (fun v13 hf => ?_)
  refine z_iload_n C 3 d_Search_fillStates_13 rfl rfl ?_
  obtain ⟨p14, hc, hf⟩ := Option.bind_eq_some_iff.mp hf
  obtain ⟨hz, hc⟩ := zck_some hc
  refine z_callV C (ci := 2) (c_Site_highestNear N C.2.2.1 hc) rfl hz w_391 w_59 w_483 w_389 w_390 pd_Site_highestNear rfl ⟨(Nat.le_of_ble_eq_true rfl), (Nat.le_of_ble_eq_true rfl)⟩ ⟨(Nat.le_of_ble_eq_true rfl), (Nat.le_of_ble_eq_true rfl)⟩ rfl (Nat.le_of_ble_eq_true rfl) d_Search_fillStates_14 (k' := 0) (n' := 0) (stk' := [.int p14.1]) rfl rfl rfl ?_
  refine z_istore C (lv' := [(4, .int p14.1), (3, .int p12.1), (0, .ref x0), (1, .ref x1), (2, .int x2)]) d_Search_fillStates_17 (by decide) rfl ?_
  refine z_iconst C (v := (-1 : Int32)) d_Search_fillStates_19 (by decide) ?_
  refine z_istore C (lv' := [(5, .int (-1 : Int32)), (4, .int p14.1), (3, .int p12.1), (0, .ref x0), (1, .ref x1), (2, .int x2)]) d_Search_fillStates_20 (by decide) rfl ?_
  refine z_iconst C (v := (-1 : Int32)) d_Search_fillStates_22 (by decide) ?_
  refine z_istore C (lv' := [(6, .int (-1 : Int32)), (5, .int (-1 : Int32)), (4, .int p14.1), (3, .int p12.1), (0, .ref x0), (1, .ref x1), (2, .int x2)]) d_Search_fillStates_23 (by decide) rfl ?_
  refine z_iconst C (v := (-1 : Int32)) d_Search_fillStates_25 (by decide) ?_
  refine z_istore C (lv' := [(7, .int (-1 : Int32)), (6, .int (-1 : Int32)), (5, .int (-1 : Int32)), (4, .int p14.1), (3, .int p12.1), (0, .ref x0), (1, .ref x1), (2, .int x2)]) d_Search_fillStates_26 (by decide) rfl ?_
  refine z_iload_n C 4 d_Search_fillStates_28 rfl rfl ?_
  refine z_istore C (lv' := [(8, .int p12.1), (7, .int (-1 : Int32)), (6, .int (-1 : Int32)), (5, .int (-1 : Int32)), (4, .int p14.1), (3, .int p12.1), (0, .ref x0), (1, .ref x1), (2, .int x2)]) d_Search_fillStates_29 (by decide) rfl ?_
  refine z_sub [6, 7, 8, 5, 4, 3, 2, 1, 0] rfl ?_
  exact k_Search_fillStates_31 N C E N _ _ _ _ _ _ _ _ _ _ hf

theorem c_Search_fillStates (N : Nat) {l : Launch} {D : va_G} {T : List (ClassId × FieldType)} (hT : T.map (fun q => q.2) = ztl) {x0 : Nat} {x1 : Nat} {x2 : Int32} {h : zH} {p : Unit × zH} (hf : f_Search_fillStates N x0 x1 x2 h = some p) : zM l y_Search_fillStates prog_5_method_10_code 13 none rm_Search_fillStates D T [.ref x0, .ref x1, .int x2] h none p.2 :=
  z_enter (by decide) hT (Nat.le_of_ble_eq_true rfl) (fun X el eD eT hin C E => k_Search_fillStates N C E x0 x1 x2 h hf)
/-! ===== LevelTables$Search.traceFrom(LLevelTables$Table;I)I ===== -/
abbrev y_Search_traceFrom : MethodName := ⟨R_Search, "traceFrom", "(LLevelTables$Table;I)I"⟩
theorem pd_Search_traceFrom : y_Search_traceFrom.cls ≠ "java/lang/invoke/MethodHandle" ∧ y_Search_traceFrom.cls ≠ "java/lang/invoke/VarHandle" ∧ (parseMethodDescriptor y_Search_traceFrom.desc).map (fun d => d.parameters.length) = some 2 := ⟨by decide +kernel, by decide +kernel, by decide +kernel⟩
abbrev rm_Search_traceFrom : Room := { frames := 3, cells := 0, slots := 0, locals := 85 }
def f_Search_traceFrom_176 (N : Nat) (rc55 : Nat → Nat → Int32 → Int32 → Int32 → Int64 → Int32 → Int32 → zH → Option (Int32 × zH)) (x0 : Nat) (x1 : Nat) (x2 : Int32) (x3 : Int32) (x4 : Int32) (x5 : Int64) (x7 : Int32) (x8 : Int32) (h : zH) : Option (Int32 × zH) :=
  rc55 x0 x1 x2 x3 x4 x5 x7 (x8 + (1 : Int32)) h
def b_Search_traceFrom_55 (N : Nat) (rc55 : Nat → Nat → Int32 → Int32 → Int32 → Int64 → Int32 → Int32 → zH → Option (Int32 × zH)) (x0 : Nat) (x1 : Nat) (x2 : Int32) (x3 : Int32) (x4 : Int32) (x5 : Int64) (x7 : Int32) (x8 : Int32) (h : zH) : Option (Int32 × zH) :=
  (if x7 < x8 then
    Option.bind (zgR h x0 8 0) fun (v1 : Nat) =>
    Option.bind (zgI h v1 2 0) fun (v2 : Int32) =>
    some (v2, h)
  else
    Option.bind (zck (zis h x0 8) (f_Search_mayFollow N x0 x1 x2 x8 h)) fun (p3 : Int32 × zH) =>
    (if p3.1 = 0 then
      f_Search_traceFrom_176 N rc55 x0 x1 x2 x3 x4 x5 x7 x8 p3.2
    else
      Option.bind (zck (zis p3.2 x0 8) (f_Search_addStep N x0 x2 x3 x8 p3.2)) fun (p4 : Unit × zH) =>
      Option.bind (zgR p4.2 x0 8 8) fun (v5 : Nat) =>
      Option.bind (zaJ p4.2 1 v5 x8) fun (v6 : Int64) =>
      (if (lg_cmp v6 x5) = 0 then
        Option.bind (zck (zis p4.2 x0 8) (f_Search_lay N x0 x1 x2 (x2 + (1 : Int32)) (x8 - x3) (-1 : Int32) p4.2)) fun (p16 : Int32 × zH) =>
        some (p16.1, p16.2)
      else
        Option.bind (zck (zis p4.2 x0 8) (f_Search_addSpan N x0 x4 x3 x8 p4.2)) fun (p7 : Unit × zH) =>
        (if x4 = (-1 : Int32) then
          f_Search_traceFrom_176 N rc55 x0 x1 x2 x3 x4 x5 x7 x8 p7.2
        else
          Option.bind (zgR p7.2 x0 8 8) fun (v8 : Nat) =>
          Option.bind (zaJ p7.2 1 v8 x8) fun (v9 : Int64) =>
          (if (lg_cmp v9 x5) = 0 then
            Option.bind (zgI p7.2 x1 5 5) fun (v10 : Int32) =>
            Option.bind (zp p7.2 x1 5 5 (.int (v10 ||| ((1 : Int32) <<< (x4 &&& 31))))) fun (h11 : zH) =>
            Option.bind (zgR h11 x0 8 1) fun (v12 : Nat) =>
            Option.bind (zgR h11 v12 3 2) fun (v13 : Nat) =>
            Option.bind (zaI h11 0 v13 x4) fun (v14 : Int32) =>
            Option.bind (zck (zis h11 x0 8) (f_Search_lay N x0 x1 x2 v14 (x8 - x3) x4 h11)) fun (p15 : Int32 × zH) =>
            some (p15.1, p15.2)
          else
            f_Search_traceFrom_176 N rc55 x0 x1 x2 x3 x4 x5 x7 x8 p7.2)))))
def f_Search_traceFrom_55 (N : Nat) : Nat → Nat → Nat → Int32 → Int32 → Int32 → Int64 → Int32 → Int32 → zH → Option (Int32 × zH)
  | 0 => fun _ _ _ _ _ _ _ _ _ => none
  | n + 1 => fun x0 x1 x2 x3 x4 x5 x7 x8 h => b_Search_traceFrom_55 N (f_Search_traceFrom_55 N n) x0 x1 x2 x3 x4 x5 x7 x8 h
def f_Search_traceFrom (N : Nat) (x0 : Nat) (x1 : Nat) (x2 : Int32) (h : zH) : Option (Int32 × zH) :=
  Option.bind (zgR h x1 5 2) fun (v17 : Nat) =>
  Option.bind (zaI h 0 v17 x2) fun (v18 : Int32) =>
  Option.bind (zgR h x0 8 1) fun (v19 : Nat) =>
  Option.bind (zck (zis h v19 3) (f_Spans_startingAt N v19 x2 h)) fun (p20 : Int32 × zH) =>
  Option.bind (zck (zis p20.2 x0 8) (f_Search_wantedAt N x0 x1 x2 p20.2)) fun (p21 : Int64 × zH) =>
  Option.bind (zgR p21.2 x0 8 8) fun (v22 : Nat) =>
  Option.bind (f_Arrays_fill_AJJV N v22 (1152921504606846976 : Int64) p21.2) fun (p23 : Unit × zH) =>
  Option.bind (zgR p23.2 x0 8 0) fun (v24 : Nat) =>
  Option.bind (zck (zis p23.2 v24 2) (f_Site_highestNear N v24 v18 p23.2)) fun (p25 : Int32 × zH) =>
  Option.bind (zgR p25.2 x0 8 0) fun (v26 : Nat) =>
  Option.bind (zck (zis p25.2 v26 2) (f_Site_lowestNear N v26 v18 p25.2)) fun (p27 : Int32 × zH) =>
  f_Search_traceFrom_55 N N x0 x1 x2 v18 p20.1 p21.1 p25.1 p27.1 p27.2
theorem d_Search_traceFrom_0 : decode prog_5_method_20_code 0 = .ok (.aload_n (1), 1) := by decide +kernel
theorem d_Search_traceFrom_1 : decode prog_5_method_20_code 1 = .ok (.getfield (189), 3) := by decide +kernel
theorem d_Search_traceFrom_4 : decode prog_5_method_20_code 4 = .ok (.iload_n (2), 1) := by decide +kernel
theorem d_Search_traceFrom_5 : decode prog_5_method_20_code 5 = .ok (.iaload, 1) := by decide +kernel
theorem d_Search_traceFrom_6 : decode prog_5_method_20_code 6 = .ok (.istore_n (3), 1) := by decide +kernel
theorem d_Search_traceFrom_7 : decode prog_5_method_20_code 7 = .ok (.aload_n (0), 1) := by decide +kernel
theorem d_Search_traceFrom_8 : decode prog_5_method_20_code 8 = .ok (.getfield (19), 3) := by decide +kernel
theorem d_Search_traceFrom_11 : decode prog_5_method_20_code 11 = .ok (.iload_n (2), 1) := by decide +kernel
theorem d_Search_traceFrom_12 : decode prog_5_method_20_code 12 = .ok (.invokevirtual (149), 3) := by decide +kernel
theorem d_Search_traceFrom_15 : decode prog_5_method_20_code 15 = .ok (.istore (4), 2) := by decide +kernel
theorem d_Search_traceFrom_17 : decode prog_5_method_20_code 17 = .ok (.aload_n (0), 1) := by decide +kernel
theorem d_Search_traceFrom_18 : decode prog_5_method_20_code 18 = .ok (.aload_n (1), 1) := by decide +kernel
theorem d_Search_traceFrom_19 : decode prog_5_method_20_code 19 = .ok (.iload_n (2), 1) := by decide +kernel
theorem d_Search_traceFrom_20 : decode prog_5_method_20_code 20 = .ok (.invokevirtual (206), 3) := by decide +kernel
theorem d_Search_traceFrom_23 : decode prog_5_method_20_code 23 = .ok (.lstore (5), 2) := by decide +kernel
theorem d_Search_traceFrom_25 : decode prog_5_method_20_code 25 = .ok (.aload_n (0), 1) := by decide +kernel
theorem d_Search_traceFrom_26 : decode prog_5_method_20_code 26 = .ok (.getfield (55), 3) := by decide +kernel
theorem d_Search_traceFrom_29 : decode prog_5_method_20_code 29 = .ok (.ldc2_w (78), 3) := by decide +kernel
theorem d_Search_traceFrom_32 : decode prog_5_method_20_code 32 = .ok (.invokestatic (92), 3) := by decide +kernel
theorem d_Search_traceFrom_35 : decode prog_5_method_20_code 35 = .ok (.aload_n (0), 1) := by decide +kernel
theorem d_Search_traceFrom_36 : decode prog_5_method_20_code 36 = .ok (.getfield (15), 3) := by decide +kernel
theorem d_Search_traceFrom_39 : decode prog_5_method_20_code 39 = .ok (.iload_n (3), 1) := by decide +kernel
theorem d_Search_traceFrom_40 : decode prog_5_method_20_code 40 = .ok (.invokevirtual (117), 3) := by decide +kernel
theorem d_Search_traceFrom_43 : decode prog_5_method_20_code 43 = .ok (.istore (7), 2) := by decide +kernel
theorem d_Search_traceFrom_45 : decode prog_5_method_20_code 45 = .ok (.aload_n (0), 1) := by decide +kernel
theorem d_Search_traceFrom_46 : decode prog_5_method_20_code 46 = .ok (.getfield (15), 3) := by decide +kernel
theorem d_Search_traceFrom_49 : decode prog_5_method_20_code 49 = .ok (.iload_n (3), 1) := by decide +kernel
theorem d_Search_traceFrom_50 : decode prog_5_method_20_code 50 = .ok (.invokevirtual (120), 3) := by decide +kernel
theorem d_Search_traceFrom_53 : decode prog_5_method_20_code 53 = .ok (.istore (8), 2) := by decide +kernel
theorem d_Search_traceFrom_55 : decode prog_5_method_20_code 55 = .ok (.iload (8), 2) := by decide +kernel
theorem d_Search_traceFrom_57 : decode prog_5_method_20_code 57 = .ok (.iload (7), 2) := by decide +kernel
theorem d_Search_traceFrom_59 : decode prog_5_method_20_code 59 = .ok (.if_icmp .gt (123), 3) := by decide +kernel
theorem d_Search_traceFrom_62 : decode prog_5_method_20_code 62 = .ok (.aload_n (0), 1) := by decide +kernel
theorem d_Search_traceFrom_63 : decode prog_5_method_20_code 63 = .ok (.aload_n (1), 1) := by decide +kernel
theorem d_Search_traceFrom_64 : decode prog_5_method_20_code 64 = .ok (.iload_n (2), 1) := by decide +kernel
theorem d_Search_traceFrom_65 : decode prog_5_method_20_code 65 = .ok (.iload (8), 2) := by decide +kernel
theorem d_Search_traceFrom_67 : decode prog_5_method_20_code 67 = .ok (.invokevirtual (210), 3) := by decide +kernel
theorem d_Search_traceFrom_70 : decode prog_5_method_20_code 70 = .ok (.ifCond .ne (6), 3) := by decide +kernel
theorem d_Search_traceFrom_73 : decode prog_5_method_20_code 73 = .ok (.goto (103), 3) := by decide +kernel
theorem d_Search_traceFrom_76 : decode prog_5_method_20_code 76 = .ok (.aload_n (0), 1) := by decide +kernel
theorem d_Search_traceFrom_77 : decode prog_5_method_20_code 77 = .ok (.iload_n (2), 1) := by decide +kernel
theorem d_Search_traceFrom_78 : decode prog_5_method_20_code 78 = .ok (.iload_n (3), 1) := by decide +kernel
theorem d_Search_traceFrom_79 : decode prog_5_method_20_code 79 = .ok (.iload (8), 2) := by decide +kernel
theorem d_Search_traceFrom_81 : decode prog_5_method_20_code 81 = .ok (.invokevirtual (152), 3) := by decide +kernel
theorem d_Search_traceFrom_84 : decode prog_5_method_20_code 84 = .ok (.aload_n (0), 1) := by decide +kernel
theorem d_Search_traceFrom_85 : decode prog_5_method_20_code 85 = .ok (.getfield (55), 3) := by decide +kernel
theorem d_Search_traceFrom_88 : decode prog_5_method_20_code 88 = .ok (.iload (8), 2) := by decide +kernel
theorem d_Search_traceFrom_90 : decode prog_5_method_20_code 90 = .ok (.laload, 1) := by decide +kernel
theorem d_Search_traceFrom_91 : decode prog_5_method_20_code 91 = .ok (.lload (5), 2) := by decide +kernel
theorem d_Search_traceFrom_93 : decode prog_5_method_20_code 93 = .ok (.lcmp, 1) := by decide +kernel
theorem d_Search_traceFrom_94 : decode prog_5_method_20_code 94 = .ok (.ifCond .ne (18), 3) := by decide +kernel
theorem d_Search_traceFrom_97 : decode prog_5_method_20_code 97 = .ok (.aload_n (0), 1) := by decide +kernel
theorem d_Search_traceFrom_98 : decode prog_5_method_20_code 98 = .ok (.aload_n (1), 1) := by decide +kernel
theorem d_Search_traceFrom_99 : decode prog_5_method_20_code 99 = .ok (.iload_n (2), 1) := by decide +kernel
theorem d_Search_traceFrom_100 : decode prog_5_method_20_code 100 = .ok (.iload_n (2), 1) := by decide +kernel
theorem d_Search_traceFrom_101 : decode prog_5_method_20_code 101 = .ok (.iconst (1), 1) := by decide +kernel
theorem d_Search_traceFrom_102 : decode prog_5_method_20_code 102 = .ok (.iadd, 1) := by decide +kernel
theorem d_Search_traceFrom_103 : decode prog_5_method_20_code 103 = .ok (.iload (8), 2) := by decide +kernel
theorem d_Search_traceFrom_105 : decode prog_5_method_20_code 105 = .ok (.iload_n (3), 1) := by decide +kernel
theorem d_Search_traceFrom_106 : decode prog_5_method_20_code 106 = .ok (.isub, 1) := by decide +kernel
theorem d_Search_traceFrom_107 : decode prog_5_method_20_code 107 = .ok (.iconst (-1), 1) := by decide +kernel
theorem d_Search_traceFrom_108 : decode prog_5_method_20_code 108 = .ok (.invokevirtual (214), 3) := by decide +kernel
theorem d_Search_traceFrom_111 : decode prog_5_method_20_code 111 = .ok (.ireturn, 1) := by decide +kernel
theorem d_Search_traceFrom_112 : decode prog_5_method_20_code 112 = .ok (.aload_n (0), 1) := by decide +kernel
theorem d_Search_traceFrom_113 : decode prog_5_method_20_code 113 = .ok (.iload (4), 2) := by decide +kernel
theorem d_Search_traceFrom_115 : decode prog_5_method_20_code 115 = .ok (.iload_n (3), 1) := by decide +kernel
theorem d_Search_traceFrom_116 : decode prog_5_method_20_code 116 = .ok (.iload (8), 2) := by decide +kernel
theorem d_Search_traceFrom_118 : decode prog_5_method_20_code 118 = .ok (.invokevirtual (156), 3) := by decide +kernel
theorem d_Search_traceFrom_121 : decode prog_5_method_20_code 121 = .ok (.iload (4), 2) := by decide +kernel
theorem d_Search_traceFrom_123 : decode prog_5_method_20_code 123 = .ok (.iconst (-1), 1) := by decide +kernel
theorem d_Search_traceFrom_124 : decode prog_5_method_20_code 124 = .ok (.if_icmp .eq (52), 3) := by decide +kernel
theorem d_Search_traceFrom_127 : decode prog_5_method_20_code 127 = .ok (.aload_n (0), 1) := by decide +kernel
theorem d_Search_traceFrom_128 : decode prog_5_method_20_code 128 = .ok (.getfield (55), 3) := by decide +kernel
theorem d_Search_traceFrom_131 : decode prog_5_method_20_code 131 = .ok (.iload (8), 2) := by decide +kernel
theorem d_Search_traceFrom_133 : decode prog_5_method_20_code 133 = .ok (.laload, 1) := by decide +kernel
theorem d_Search_traceFrom_134 : decode prog_5_method_20_code 134 = .ok (.lload (5), 2) := by decide +kernel
theorem d_Search_traceFrom_136 : decode prog_5_method_20_code 136 = .ok (.lcmp, 1) := by decide +kernel
theorem d_Search_traceFrom_137 : decode prog_5_method_20_code 137 = .ok (.ifCond .ne (39), 3) := by decide +kernel
theorem d_Search_traceFrom_140 : decode prog_5_method_20_code 140 = .ok (.aload_n (1), 1) := by decide +kernel
theorem d_Search_traceFrom_141 : decode prog_5_method_20_code 141 = .ok (.dup, 1) := by decide +kernel
theorem d_Search_traceFrom_142 : decode prog_5_method_20_code 142 = .ok (.getfield (194), 3) := by decide +kernel
theorem d_Search_traceFrom_145 : decode prog_5_method_20_code 145 = .ok (.iconst (1), 1) := by decide +kernel
theorem d_Search_traceFrom_146 : decode prog_5_method_20_code 146 = .ok (.iload (4), 2) := by decide +kernel
theorem d_Search_traceFrom_148 : decode prog_5_method_20_code 148 = .ok (.ishl, 1) := by decide +kernel
theorem d_Search_traceFrom_149 : decode prog_5_method_20_code 149 = .ok (.ior, 1) := by decide +kernel
theorem d_Search_traceFrom_150 : decode prog_5_method_20_code 150 = .ok (.putfield (194), 3) := by decide +kernel
theorem d_Search_traceFrom_153 : decode prog_5_method_20_code 153 = .ok (.aload_n (0), 1) := by decide +kernel
theorem d_Search_traceFrom_154 : decode prog_5_method_20_code 154 = .ok (.aload_n (1), 1) := by decide +kernel
theorem d_Search_traceFrom_155 : decode prog_5_method_20_code 155 = .ok (.iload_n (2), 1) := by decide +kernel
theorem d_Search_traceFrom_156 : decode prog_5_method_20_code 156 = .ok (.aload_n (0), 1) := by decide +kernel
theorem d_Search_traceFrom_157 : decode prog_5_method_20_code 157 = .ok (.getfield (19), 3) := by decide +kernel
theorem d_Search_traceFrom_160 : decode prog_5_method_20_code 160 = .ok (.getfield (165), 3) := by decide +kernel
theorem d_Search_traceFrom_163 : decode prog_5_method_20_code 163 = .ok (.iload (4), 2) := by decide +kernel
theorem d_Search_traceFrom_165 : decode prog_5_method_20_code 165 = .ok (.iaload, 1) := by decide +kernel
theorem d_Search_traceFrom_166 : decode prog_5_method_20_code 166 = .ok (.iload (8), 2) := by decide +kernel
theorem d_Search_traceFrom_168 : decode prog_5_method_20_code 168 = .ok (.iload_n (3), 1) := by decide +kernel
theorem d_Search_traceFrom_169 : decode prog_5_method_20_code 169 = .ok (.isub, 1) := by decide +kernel
theorem d_Search_traceFrom_170 : decode prog_5_method_20_code 170 = .ok (.iload (4), 2) := by decide +kernel
theorem d_Search_traceFrom_172 : decode prog_5_method_20_code 172 = .ok (.invokevirtual (214), 3) := by decide +kernel
theorem d_Search_traceFrom_175 : decode prog_5_method_20_code 175 = .ok (.ireturn, 1) := by decide +kernel
theorem d_Search_traceFrom_176 : decode prog_5_method_20_code 176 = .ok (.iinc (8) (1), 3) := by decide +kernel
theorem d_Search_traceFrom_179 : decode prog_5_method_20_code 179 = .ok (.goto (-124), 3) := by decide +kernel
theorem d_Search_traceFrom_182 : decode prog_5_method_20_code 182 = .ok (.aload_n (0), 1) := by decide +kernel
theorem d_Search_traceFrom_183 : decode prog_5_method_20_code 183 = .ok (.getfield (15), 3) := by decide +kernel
theorem d_Search_traceFrom_186 : decode prog_5_method_20_code 186 = .ok (.getfield (47), 3) := by decide +kernel
theorem d_Search_traceFrom_189 : decode prog_5_method_20_code 189 = .ok (.ireturn, 1) := by decide +kernel
set_option maxHeartbeats 4000000 in
set_option maxRecDepth 100000 in
theorem k_Search_traceFrom_176 (N : Nat) {X : zX} (C : zB X prog_5_method_20_code 9 R_Search rm_Search_traceFrom) {h0 : zH} {p : Int32 × zH} (E : zR X (some .int) rm_Search_traceFrom h0 (some (.int p.1)) p.2) {rc55 : Nat → Nat → Int32 → Int32 → Int32 → Int64 → Int32 → Int32 → zH → Option (Int32 × zH)} (H55 : ∀ (x0 : Nat) (x1 : Nat) (x2 : Int32) (x3 : Int32) (x4 : Int32) (x5 : Int64) (x7 : Int32) (x8 : Int32) (h : zH), rc55 x0 x1 x2 x3 x4 x5 x7 x8 h = some p → Zt X 9 0 0 55 [(0, .ref x0), (1, .ref x1), (2, .int x2), (3, .int x3), (4, .int x4), (5, .long x5), (7, .int x7), (8, .int x8)] [] h) : ∀ (x0 : Nat) (x1 : Nat) (x2 : Int32) (x3 : Int32) (x4 : Int32) (x5 : Int64) (x7 : Int32) (x8 : Int32) (h : zH), f_Search_traceFrom_176 N rc55 x0 x1 x2 x3 x4 x5 x7 x8 h = some p → Zt X 9 0 0 176 [(0, .ref x0), (1, .ref x1), (2, .int x2), (3, .int x3), (4, .int x4), (5, .long x5), (7, .int x7), (8, .int x8)] [] h := by
  intro x0 x1 x2 x3 x4 x5 x7 x8 h hf
  unfold f_Search_traceFrom_176 at hf
  refine z_iinc C (v := (x8 + (1 : Int32))) (lv' := [(8, .int (x8 + (1 : Int32))), (0, .ref x0), (1, .ref x1), (2, .int x2), (3, .int x3), (4, .int x4), (5, .long x5), (7, .int x7)]) 7 d_Search_traceFrom_176 rfl (by rfl) (by decide) rfl ?_
  refine z_goto (tgt := 55) C d_Search_traceFrom_179 (by decide) ?_
  refine z_sub [1, 2, 3, 4, 5, 6, 7, 0] rfl ?_
  exact H55 _ _ _ _ _ _ _ _ _ hf

set_option maxHeartbeats 4000000 in
set_option maxRecDepth 100000 in
theorem k_Search_traceFrom_55 (N : Nat) {X : zX} (C : zB X prog_5_method_20_code 9 R_Search rm_Search_traceFrom) {h0 : zH} {p : Int32 × zH} (E : zR X (some .int) rm_Search_traceFrom h0 (some (.int p.1)) p.2) : ∀ n : Nat, ∀ (x0 : Nat) (x1 : Nat) (x2 : Int32) (x3 : Int32) (x4 : Int32) (x5 : Int64) (x7 : Int32) (x8 : Int32) (h : zH), f_Search_traceFrom_55 N n x0 x1 x2 x3 x4 x5 x7 x8 h = some p → Zt X 9 0 0 55 [(0, .ref x0), (1, .ref x1), (2, .int x2), (3, .int x3), (4, .int x4), (5, .long x5), (7, .int x7), (8, .int x8)] [] h := by
  intro n
  induction n with
  | zero => intro x0 x1 x2 x3 x4 x5 x7 x8 h hf; cases hf
  | succ n ih =>
  intro x0 x1 x2 x3 x4 x5 x7 x8 h hf
  have H55 := ih
  replace hf : b_Search_traceFrom_55 N (f_Search_traceFrom_55 N n) x0 x1 x2 x3 x4 x5 x7 x8 h = some p := hf
  unfold b_Search_traceFrom_55 at hf
  refine z_iload C 7 d_Search_traceFrom_55 rfl ?_
  refine z_iload C 6 d_Search_traceFrom_57 rfl ?_
  refine z_ic_gt (tgt := 182) C d_Search_traceFrom_59 (by decide) hf (fun hf => ?_) (fun hf => ?_)
  · refine z_aload_n C 0 d_Search_traceFrom_182 rfl rfl ?_
    refine z_getR C 8 0 rfl in_Search (by decide) w_422 rfl d_Search_traceFrom_183 hf (fun v1 hf => ?_)
    refine z_getI C 2 0 rfl in_Site (by decide) w_95 rfl d_Search_traceFrom_186 hf (fun v2 hf => ?_)
    exact z_iret C E (Nat.le_of_ble_eq_true rfl) (Nat.le_of_ble_eq_true rfl) d_Search_traceFrom_189 hf
  · refine z_aload_n C 0 d_Search_traceFrom_62 rfl rfl ?_
    refine z_aload_n C 1 d_Search_traceFrom_63 rfl rfl ?_
    refine z_iload_n C 2 d_Search_traceFrom_64 rfl rfl ?_
    refine z_iload C 7 d_Search_traceFrom_65 rfl ?_
    obtain ⟨p3, hc, hf⟩ := Option.bind_eq_some_iff.mp hf
    obtain ⟨hz, hc⟩ := zck_some hc
    refine z_callV C (ci := 8) (c_Search_mayFollow N C.2.2.1 hc) rfl hz w_565 w_67 w_562 w_564 w_23 pd_Search_mayFollow rfl ⟨(Nat.le_of_ble_eq_true rfl), (Nat.le_of_ble_eq_true rfl)⟩ ⟨(Nat.le_of_ble_eq_true rfl), (Nat.le_of_ble_eq_true rfl)⟩ rfl (Nat.le_of_ble_eq_true rfl) d_Search_traceFrom_67 (k' := 0) (n' := 0) (stk' := [.int p3.1]) rfl rfl rfl ?_
    refine z_if_ne (tgt := 76) C d_Search_traceFrom_70 (by decide) hf (fun hf => ?_) (fun hf => ?_)
    · refine z_aload_n C 0 d_Search_traceFrom_76 rfl rfl ?_
      refine z_iload_n C 2 d_Search_traceFrom_77 rfl rfl ?_
      refine z_iload_n C 3 d_Search_traceFrom_78 rfl rfl ?_
      refine z_iload C 7 d_Search_traceFrom_79 rfl ?_
      obtain ⟨p4, hc, hf⟩ := Option.bind_eq_some_iff.mp hf
      obtain ⟨hz, hc⟩ := zck_some hc
      refine z_callV C (ci := 8) (c_Search_addStep N C.2.2.1 hc) rfl hz w_501 w_67 w_498 w_500 w_12 pd_Search_addStep rfl ⟨(Nat.le_of_ble_eq_true rfl), (Nat.le_of_ble_eq_true rfl)⟩ ⟨(Nat.le_of_ble_eq_true rfl), (Nat.le_of_ble_eq_true rfl)⟩ rfl (Nat.le_of_ble_eq_true rfl) d_Search_traceFrom_81 (k' := 0) (n' := 0) (stk' := []) rfl rfl rfl ?_
      refine z_aload_n C 0 d_Search_traceFrom_84 rfl rfl ?_
      refine z_getR C 8 8 rfl in_Search (by decide) w_430 rfl d_Search_traceFrom_85 hf (fun v5 hf => ?_)
      refine z_iload C 7 d_Search_traceFrom_88 rfl ?_
      refine z_lald C d_Search_traceFrom_90 hf (fun v6 hf => ?_)
      refine z_lload C 5 d_Search_traceFrom_91 rfl ?_
      refine z_lcmp C d_Search_traceFrom_93 ?_
      refine z_if_ne (tgt := 112) C d_Search_traceFrom_94 (by decide) hf (fun hf => ?_) (fun hf => ?_)
      · refine z_aload_n C 0 d_Search_traceFrom_112 rfl rfl ?_
        refine z_iload C 4 d_Search_traceFrom_113 rfl ?_
        refine z_iload_n C 3 d_Search_traceFrom_115 rfl rfl ?_
        refine z_iload C 7 d_Search_traceFrom_116 rfl ?_
        obtain ⟨p7, hc, hf⟩ := Option.bind_eq_some_iff.mp hf
        obtain ⟨hz, hc⟩ := zck_some hc
        refine z_callV C (ci := 8) (c_Search_addSpan N C.2.2.1 hc) rfl hz w_514 w_67 w_511 w_513 w_15 pd_Search_addSpan rfl ⟨(Nat.le_of_ble_eq_true rfl), (Nat.le_of_ble_eq_true rfl)⟩ ⟨(Nat.le_of_ble_eq_true rfl), (Nat.le_of_ble_eq_true rfl)⟩ rfl (Nat.le_of_ble_eq_true rfl) d_Search_traceFrom_118 (k' := 0) (n' := 0) (stk' := []) rfl rfl rfl ?_
        refine z_iload C 4 d_Search_traceFrom_121 rfl ?_
        refine z_iconst C (v := (-1 : Int32)) d_Search_traceFrom_123 (by decide) ?_
        refine z_ic_eq (tgt := 176) C d_Search_traceFrom_124 (by decide) hf (fun hf => ?_) (fun hf => ?_)
        · refine z_sub [0, 1, 2, 3, 4, 5, 6, 7] rfl ?_
          exact k_Search_traceFrom_176 N C E H55 _ _ _ _ _ _ _ _ _ hf
        · refine z_aload_n C 0 d_Search_traceFrom_127 rfl rfl ?_
          refine z_getR C 8 8 rfl in_Search (by decide) w_430 rfl d_Search_traceFrom_128 hf (fun v8 hf => ?_)
          refine z_iload C 7 d_Search_traceFrom_131 rfl ?_
          refine z_lald C d_Search_traceFrom_133 hf (fun v9 hf => ?_)
          refine z_lload C 5 d_Search_traceFrom_134 rfl ?_
          refine z_lcmp C d_Search_traceFrom_136 ?_
          refine z_if_ne (tgt := 176) C d_Search_traceFrom_137 (by decide) hf (fun hf => ?_) (fun hf => ?_)
          · refine z_sub [0, 1, 2, 3, 4, 5, 6, 7] rfl ?_
            exact k_Search_traceFrom_176 N C E H55 _ _ _ _ _ _ _ _ _ hf
          · refine z_aload_n C 1 d_Search_traceFrom_140 rfl rfl ?_
            refine z_dup C d_Search_traceFrom_141 rfl ?_
            refine z_getI C 5 5 rfl in_Table (by decide) w_209 rfl d_Search_traceFrom_142 hf (fun v10 hf => ?_)
            refine z_iconst C (v := (1 : Int32)) d_Search_traceFrom_145 (by decide) ?_
            refine z_iload C 4 d_Search_traceFrom_146 rfl ?_
            refine z_ishl C d_Search_traceFrom_148 ?_
            refine z_ior C d_Search_traceFrom_149 ?_
            refine z_put C 5 5 ty_Table rfl in_Table tyok_Table nm_Table (by decide) w_209 rfl (Or.inl rfl) rfl rfl rfl d_Search_traceFrom_150 hf (fun h11 hf => ?_)
            refine z_aload_n C 0 d_Search_traceFrom_153 rfl rfl ?_
            refine z_aload_n C 1 d_Search_traceFrom_154 rfl rfl ?_
            refine z_iload_n C 2 d_Search_traceFrom_155 rfl rfl ?_
            refine z_aload_n C 0 d_Search_traceFrom_156 rfl rfl ?_
            refine z_getR C 8 1 rfl in_Search (by decide) w_423 rfl d_Search_traceFrom_157 hf (fun v12 hf => ?_)
            refine z_getR C 3 2 rfl in_Spans (by decide) w_157 rfl d_Search_traceFrom_160 hf (fun v13 hf => ?_)
            refine z_iload C 4 d_Search_traceFrom_163 rfl ?_
            refine z_iald C d_Search_traceFrom_165 hf (fun v14 hf => ?_)
            refine z_iload C 7 d_Search_traceFrom_166 rfl ?_
            refine z_iload_n C 3 d_Search_traceFrom_168 rfl rfl ?_
            refine z_isub C d_Search_traceFrom_169 ?_
            refine z_iload C 4 d_Search_traceFrom_170 rfl ?_
            obtain ⟨p15, hc, hf⟩ := Option.bind_eq_some_iff.mp hf
            obtain ⟨hz, hc⟩ := zck_some hc
            refine z_callV C (ci := 8) (c_Search_lay N C.2.2.1 hc) rfl hz w_577 w_67 w_574 w_576 w_24 pd_Search_lay rfl ⟨(Nat.le_of_ble_eq_true rfl), (Nat.le_of_ble_eq_true rfl)⟩ ⟨(Nat.le_of_ble_eq_true rfl), (Nat.le_of_ble_eq_true rfl)⟩ rfl (Nat.le_of_ble_eq_true rfl) d_Search_traceFrom_172 (k' := 0) (n' := 0) (stk' := [.int p15.1]) rfl rfl rfl ?_
            exact z_iret C E (Nat.le_of_ble_eq_true rfl) (Nat.le_of_ble_eq_true rfl) d_Search_traceFrom_175 hf
      · refine z_aload_n C 0 d_Search_traceFrom_97 rfl rfl ?_
        refine z_aload_n C 1 d_Search_traceFrom_98 rfl rfl ?_
        refine z_iload_n C 2 d_Search_traceFrom_99 rfl rfl ?_
        refine z_iload_n C 2 d_Search_traceFrom_100 rfl rfl ?_
        refine z_iconst C (v := (1 : Int32)) d_Search_traceFrom_101 (by decide) ?_
        refine z_iadd C d_Search_traceFrom_102 ?_
        refine z_iload C 7 d_Search_traceFrom_103 rfl ?_
        refine z_iload_n C 3 d_Search_traceFrom_105 rfl rfl ?_
        refine z_isub C d_Search_traceFrom_106 ?_
        refine z_iconst C (v := (-1 : Int32)) d_Search_traceFrom_107 (by decide) ?_
        obtain ⟨p16, hc, hf⟩ := Option.bind_eq_some_iff.mp hf
        obtain ⟨hz, hc⟩ := zck_some hc
        refine z_callV C (ci := 8) (c_Search_lay N C.2.2.1 hc) rfl hz w_577 w_67 w_574 w_576 w_24 pd_Search_lay rfl ⟨(Nat.le_of_ble_eq_true rfl), (Nat.le_of_ble_eq_true rfl)⟩ ⟨(Nat.le_of_ble_eq_true rfl), (Nat.le_of_ble_eq_true rfl)⟩ rfl (Nat.le_of_ble_eq_true rfl) d_Search_traceFrom_108 (k' := 0) (n' := 0) (stk' := [.int p16.1]) rfl rfl rfl ?_
        exact z_iret C E (Nat.le_of_ble_eq_true rfl) (Nat.le_of_ble_eq_true rfl) d_Search_traceFrom_111 hf
    · refine z_goto (tgt := 176) C d_Search_traceFrom_73 (by decide) ?_
      refine z_sub [0, 1, 2, 3, 4, 5, 6, 7] rfl ?_
      exact k_Search_traceFrom_176 N C E H55 _ _ _ _ _ _ _ _ _ hf

set_option maxHeartbeats 4000000 in
set_option maxRecDepth 100000 in
theorem k_Search_traceFrom (N : Nat) {X : zX} (C : zB X prog_5_method_20_code 9 R_Search rm_Search_traceFrom) {h0 : zH} {p : Int32 × zH} (E : zR X (some .int) rm_Search_traceFrom h0 (some (.int p.1)) p.2) : ∀ (x0 : Nat) (x1 : Nat) (x2 : Int32) (h : zH), f_Search_traceFrom N x0 x1 x2 h = some p → Zt X 9 0 0 0 [(0, .ref x0), (1, .ref x1), (2, .int x2)] [] h := by
  intro x0 x1 x2 h hf
  unfold f_Search_traceFrom at hf
  refine z_aload_n C 1 d_Search_traceFrom_0 rfl rfl ?_
  refine z_getR C 5 2 rfl in_Table (by decide) w_200 rfl d_Search_traceFrom_1 hf (fun v17 hf => ?_)
  refine z_iload_n C 2 d_Search_traceFrom_4 rfl rfl ?_
  refine z_iald C d_Search_traceFrom_5 hf (fun v18 hf => ?_)
  refine z_istore_n C (lv' := [(3, .int v18), (0, .ref x0), (1, .ref x1), (2, .int x2)]) d_Search_traceFrom_6 rfl (by decide) rfl ?_
  refine z_aload_n C 1 d_Search_traceFrom_7 rfl rfl ?_
  refine z_getR C 8 1 rfl in_Search (by decide) w_423 rfl d_Search_traceFrom_8 hf (fun v19 hf => ?_)
  refine z_iload_n C 3 d_Search_traceFrom_11 rfl rfl ?_
  obtain ⟨p20, hc, hf⟩ := Option.bind_eq_some_iff.mp hf
  obtain ⟨hz, hc⟩ := zck_some hc
  refine z_callV C (ci := 3) (c_Spans_startingAt N C.2.2.1 hc) rfl hz w_497 w_61 w_494 w_495 w_496 pd_Spans_startingAt rfl ⟨(Nat.le_of_ble_eq_true rfl), (Nat.le_of_ble_eq_true rfl)⟩ ⟨(Nat.le_of_ble_eq_true rfl), (Nat.le_of_ble_eq_true rfl)⟩ rfl (Nat.le_of_ble_eq_true rfl) d_Search_traceFrom_12 (k' := 0) (n' := 0) (stk' := [.int p20.1]) rfl rfl rfl ?_
  refine z_istore C (lv' := [(4, .int p20.1), (3, .int v18), (0, .ref x0), (1, .ref x1), (2, .int x2)]) d_Search_traceFrom_15 (by decide) rfl ?_
  refine z_aload_n C 2 d_Search_traceFrom_17 rfl rfl ?_
  refine z_aload_n C 3 d_Search_traceFrom_18 rfl rfl ?_
  refine z_iload_n C 4 d_Search_traceFrom_19 rfl rfl ?_
  obtain ⟨p21, hc, hf⟩ := Option.bind_eq_some_iff.mp hf
  obtain ⟨hz, hc⟩ := zck_some hc
  refine z_callV C (ci := 8) (c_Search_wantedAt N C.2.2.1 hc) rfl hz w_561 w_67 w_558 w_560 w_22 pd_Search_wantedAt rfl ⟨(Nat.le_of_ble_eq_true rfl), (Nat.le_of_ble_eq_true rfl)⟩ ⟨(Nat.le_of_ble_eq_true rfl), (Nat.le_of_ble_eq_true rfl)⟩ rfl (Nat.le_of_ble_eq_true rfl) d_Search_traceFrom_20 (k' := 0) (n' := 0) (stk' := [.long p21.1]) rfl rfl rfl ?_
  refine z_lstore C (lv' := [(5, .long p21.1), (4, .int p20.1), (3, .int v18), (0, .ref x0), (1, .ref x1), (2, .int x2)]) d_Search_traceFrom_23 (by decide) rfl ?_
  refine z_aload_n C 3 d_Search_traceFrom_25 rfl rfl ?_
  refine z_getR C 8 8 rfl in_Search (by decide) w_430 rfl d_Search_traceFrom_26 hf (fun v22 hf => ?_)
  refine z_ldc2 C d_Search_traceFrom_29 w_468 ?_
  obtain ⟨p23, hc, hf⟩ := Option.bind_eq_some_iff.mp hf
  refine z_callS C (c_Arrays_fill_AJJV N C.2.2.1 hc) w_383 w_60 w_469 w_382 pd_Arrays_fill_AJJV rfl ⟨(Nat.le_of_ble_eq_true rfl), (Nat.le_of_ble_eq_true rfl)⟩ ⟨(Nat.le_of_ble_eq_true rfl), (Nat.le_of_ble_eq_true rfl)⟩ rfl (Nat.le_of_ble_eq_true rfl) d_Search_traceFrom_32 (k' := 0) (n' := 0) (stk' := []) rfl rfl rfl ?_
  refine z_aload_n C 3 d_Search_traceFrom_35 rfl rfl ?_
  refine z_getR C 8 0 rfl in_Search (by decide) w_422 rfl d_Search_traceFrom_36 hf (fun v24 hf => ?_)
  refine z_iload_n C 2 d_Search_traceFrom_39 rfl rfl ?_
  obtain ⟨p25, hc, hf⟩ := Option.bind_eq_some_iff.mp hf
  obtain ⟨hz, hc⟩ := zck_some hc
  refine z_callV C (ci := 2) (c_Site_highestNear N C.2.2.1 hc) rfl hz w_391 w_59 w_483 w_389 w_390 pd_Site_highestNear rfl ⟨(Nat.le_of_ble_eq_true rfl), (Nat.le_of_ble_eq_true rfl)⟩ ⟨(Nat.le_of_ble_eq_true rfl), (Nat.le_of_ble_eq_true rfl)⟩ rfl (Nat.le_of_ble_eq_true rfl) d_Search_traceFrom_40 (k' := 0) (n' := 0) (stk' := [.int p25.1]) rfl rfl rfl ?_
  refine z_istore C (lv' := [(7, .int p25.1), (5, .long p21.1), (4, .int p20.1), (3, .int v18), (0, .ref x0), (1, .ref x1), (2, .int x2)]) d_Search_traceFrom_43 (by decide) rfl ?_
  refine z_aload_n C 4 d_Search_traceFrom_45 rfl rfl ?_
  refine z_getR C 8 0 rfl in_Search (by decide) w_422 rfl d_Search_traceFrom_46 hf (fun v26 hf => ?_)
  refine z_iload_n C 3 d_Search_traceFrom_49 rfl rfl ?_
  obtain ⟨p27, hc, hf⟩ := Option.bind_eq_some_iff.mp hf
  obtain ⟨hz, hc⟩ := zck_some hc
  refine z_callV C (ci := 2) (c_Site_lowestNear N C.2.2.1 hc) rfl hz w_396 w_59 w_484 w_394 w_395 pd_Site_lowestNear rfl ⟨(Nat.le_of_ble_eq_true rfl), (Nat.le_of_ble_eq_true rfl)⟩ ⟨(Nat.le_of_ble_eq_true rfl), (Nat.le_of_ble_eq_true rfl)⟩ rfl (Nat.le_of_ble_eq_true rfl) d_Search_traceFrom_50 (k' := 0) (n' := 0) (stk' := [.int p27.1]) rfl rfl rfl ?_
  refine z_istore C (lv' := [(8, .int p27.1), (7, .int p25.1), (5, .long p21.1), (4, .int p20.1), (3, .int v18), (0, .ref x0), (1, .ref x1), (2, .int x2)]) d_Search_traceFrom_53 (by decide) rfl ?_
  refine z_sub [5, 6, 7, 4, 3, 2, 1, 0] rfl ?_
  exact k_Search_traceFrom_55 N C E N _ _ _ _ _ _ _ _ _ hf

theorem c_Search_traceFrom (N : Nat) {l : Launch} {D : va_G} {T : List (ClassId × FieldType)} (hT : T.map (fun q => q.2) = ztl) {x0 : Nat} {x1 : Nat} {x2 : Int32} {h : zH} {p : Int32 × zH} (hf : f_Search_traceFrom N x0 x1 x2 h = some p) : zM l y_Search_traceFrom prog_5_method_20_code 9 (some .int) rm_Search_traceFrom D T [.ref x0, .ref x1, .int x2] h (some (.int p.1)) p.2 :=
  z_enter (by decide) hT (Nat.le_of_ble_eq_true rfl) (fun X el eD eT hin C E => k_Search_traceFrom N C E x0 x1 x2 h hf)
/-! ===== LevelTables.curve(II)I ===== -/
abbrev y_LT_curve : MethodName := ⟨R_LT, "curve", "(II)I"⟩
theorem pd_LT_curve : y_LT_curve.cls ≠ "java/lang/invoke/MethodHandle" ∧ y_LT_curve.cls ≠ "java/lang/invoke/VarHandle" ∧ (parseMethodDescriptor y_LT_curve.desc).map (fun d => d.parameters.length) = some 2 := ⟨by decide +kernel, by decide +kernel, by decide +kernel⟩
abbrev rm_LT_curve : Room := { frames := 3, cells := 0, slots := 0, locals := 65 }
def f_LT_curve_52 (N : Nat) (x0 : Nat) (x1 : Int32) (x2 : Int32) (s0 : Int32) (h : zH) : Option (Int32 × zH) :=
  (if s0 = 0 then
    Option.bind (zgR h x0 1 4) fun (v1 : Nat) =>
    Option.bind (zck (zis h v1 6) (f_Curves_put N v1 x1 x2 h)) fun (p2 : Unit × zH) =>
    Option.bind (zgR p2.2 x0 1 4) fun (v3 : Nat) =>
    Option.bind (zgI p2.2 v3 6 1) fun (v4 : Int32) =>
    some (v4, p2.2)
  else
    some (s0, h))
def f_LT_curve (N : Nat) (x0 : Nat) (x1 : Int32) (x2 : Int32) (h : zH) : Option (Int32 × zH) :=
  Option.bind (zgR h x0 1 3) fun (v5 : Nat) =>
  Option.bind (zgI h v5 5 4) fun (v6 : Int32) =>
  (if v6 = 0 then
    some ((-1 : Int32), h)
  else
    (if x1 < (1 : Int32) then
      some ((-1 : Int32), h)
    else
      Option.bind (zgR h x0 1 0) fun (v7 : Nat) =>
      Option.bind (zgI h v7 2 0) fun (v8 : Int32) =>
      (if v8 ≤ x1 then
        some ((-1 : Int32), h)
      else
        Option.bind (f_LT_within N x2 (1000 : Int32) h) fun (p9 : Int32 × zH) =>
        (if p9.1 = 0 then
          some ((-1 : Int32), p9.2)
        else
          (if x2 = 0 then
            f_LT_curve_52 N x0 x1 x2 (0 : Int32) p9.2
          else
            Option.bind (zck (zis p9.2 x0 1) (f_LT_curveRefusal N x0 x1 x2 p9.2)) fun (p10 : Int32 × zH) =>
            f_LT_curve_52 N x0 x1 x2 p10.1 p10.2)))))
theorem d_LT_curve_0 : decode prog_1_method_14_code 0 = .ok (.aload_n (0), 1) := by decide +kernel
theorem d_LT_curve_1 : decode prog_1_method_14_code 1 = .ok (.getfield (48), 3) := by decide +kernel
theorem d_LT_curve_4 : decode prog_1_method_14_code 4 = .ok (.getfield (150), 3) := by decide +kernel
theorem d_LT_curve_7 : decode prog_1_method_14_code 7 = .ok (.ifCond .eq (29), 3) := by decide +kernel
theorem d_LT_curve_10 : decode prog_1_method_14_code 10 = .ok (.iload_n (1), 1) := by decide +kernel
theorem d_LT_curve_11 : decode prog_1_method_14_code 11 = .ok (.iconst (1), 1) := by decide +kernel
theorem d_LT_curve_12 : decode prog_1_method_14_code 12 = .ok (.if_icmp .lt (24), 3) := by decide +kernel
theorem d_LT_curve_15 : decode prog_1_method_14_code 15 = .ok (.iload_n (1), 1) := by decide +kernel
theorem d_LT_curve_16 : decode prog_1_method_14_code 16 = .ok (.aload_n (0), 1) := by decide +kernel
theorem d_LT_curve_17 : decode prog_1_method_14_code 17 = .ok (.getfield (23), 3) := by decide +kernel
theorem d_LT_curve_20 : decode prog_1_method_14_code 20 = .ok (.getfield (183), 3) := by decide +kernel
theorem d_LT_curve_23 : decode prog_1_method_14_code 23 = .ok (.if_icmp .ge (13), 3) := by decide +kernel
theorem d_LT_curve_26 : decode prog_1_method_14_code 26 = .ok (.iload_n (2), 1) := by decide +kernel
theorem d_LT_curve_27 : decode prog_1_method_14_code 27 = .ok (.sipush (1000), 3) := by decide +kernel
theorem d_LT_curve_30 : decode prog_1_method_14_code 30 = .ok (.invokestatic (83), 3) := by decide +kernel
theorem d_LT_curve_33 : decode prog_1_method_14_code 33 = .ok (.ifCond .ne (5), 3) := by decide +kernel
theorem d_LT_curve_36 : decode prog_1_method_14_code 36 = .ok (.iconst (-1), 1) := by decide +kernel
theorem d_LT_curve_37 : decode prog_1_method_14_code 37 = .ok (.ireturn, 1) := by decide +kernel
theorem d_LT_curve_38 : decode prog_1_method_14_code 38 = .ok (.iload_n (2), 1) := by decide +kernel
theorem d_LT_curve_39 : decode prog_1_method_14_code 39 = .ok (.ifCond .ne (7), 3) := by decide +kernel
theorem d_LT_curve_42 : decode prog_1_method_14_code 42 = .ok (.iconst (0), 1) := by decide +kernel
theorem d_LT_curve_43 : decode prog_1_method_14_code 43 = .ok (.goto (9), 3) := by decide +kernel
theorem d_LT_curve_46 : decode prog_1_method_14_code 46 = .ok (.aload_n (0), 1) := by decide +kernel
theorem d_LT_curve_47 : decode prog_1_method_14_code 47 = .ok (.iload_n (1), 1) := by decide +kernel
theorem d_LT_curve_48 : decode prog_1_method_14_code 48 = .ok (.iload_n (2), 1) := by decide +kernel
theorem d_LT_curve_49 : decode prog_1_method_14_code 49 = .ok (.invokevirtual (186), 3) := by decide +kernel
theorem d_LT_curve_52 : decode prog_1_method_14_code 52 = .ok (.istore_n (3), 1) := by decide +kernel
theorem d_LT_curve_53 : decode prog_1_method_14_code 53 = .ok (.iload_n (3), 1) := by decide +kernel
theorem d_LT_curve_54 : decode prog_1_method_14_code 54 = .ok (.ifCond .eq (5), 3) := by decide +kernel
theorem d_LT_curve_57 : decode prog_1_method_14_code 57 = .ok (.iload_n (3), 1) := by decide +kernel
theorem d_LT_curve_58 : decode prog_1_method_14_code 58 = .ok (.ireturn, 1) := by decide +kernel
theorem d_LT_curve_59 : decode prog_1_method_14_code 59 = .ok (.aload_n (0), 1) := by decide +kernel
theorem d_LT_curve_60 : decode prog_1_method_14_code 60 = .ok (.getfield (57), 3) := by decide +kernel
theorem d_LT_curve_63 : decode prog_1_method_14_code 63 = .ok (.iload_n (1), 1) := by decide +kernel
theorem d_LT_curve_64 : decode prog_1_method_14_code 64 = .ok (.iload_n (2), 1) := by decide +kernel
theorem d_LT_curve_65 : decode prog_1_method_14_code 65 = .ok (.invokevirtual (189), 3) := by decide +kernel
theorem d_LT_curve_68 : decode prog_1_method_14_code 68 = .ok (.aload_n (0), 1) := by decide +kernel
theorem d_LT_curve_69 : decode prog_1_method_14_code 69 = .ok (.getfield (57), 3) := by decide +kernel
theorem d_LT_curve_72 : decode prog_1_method_14_code 72 = .ok (.getfield (192), 3) := by decide +kernel
theorem d_LT_curve_75 : decode prog_1_method_14_code 75 = .ok (.ireturn, 1) := by decide +kernel
set_option maxHeartbeats 4000000 in
set_option maxRecDepth 100000 in
theorem k_LT_curve_52 (N : Nat) {X : zX} (C : zB X prog_1_method_14_code 4 R_LT rm_LT_curve) {h0 : zH} {p : Int32 × zH} (E : zR X (some .int) rm_LT_curve h0 (some (.int p.1)) p.2) : ∀ (x0 : Nat) (x1 : Int32) (x2 : Int32) (s0 : Int32) (h : zH), f_LT_curve_52 N x0 x1 x2 s0 h = some p → Zt X 4 0 0 52 [(0, .ref x0), (1, .int x1), (2, .int x2)] [.int s0] h := by
  intro x0 x1 x2 s0 h hf
  unfold f_LT_curve_52 at hf
  refine z_istore_n C (lv' := [(3, .int s0), (0, .ref x0), (1, .int x1), (2, .int x2)]) d_LT_curve_52 rfl (by decide) rfl ?_
  refine z_iload_n C 0 d_LT_curve_53 rfl rfl ?_
  refine z_if_eq (tgt := 59) C d_LT_curve_54 (by decide) hf (fun hf => ?_) (fun hf => ?_)
  · refine z_aload_n C 1 d_LT_curve_59 rfl rfl ?_
    refine z_getR C 1 4 rfl in_LT (by decide) w_270 rfl d_LT_curve_60 hf (fun v1 hf => ?_)
    refine z_iload_n C 2 d_LT_curve_63 rfl rfl ?_
    refine z_iload_n C 3 d_LT_curve_64 rfl rfl ?_
    obtain ⟨p2, hc, hf⟩ := Option.bind_eq_some_iff.mp hf
    obtain ⟨hz, hc⟩ := zck_some hc
    refine z_callV C (ci := 6) (c_Curves_put N C.2.2.1 hc) rfl hz w_632 w_64 w_629 w_630 w_631 pd_Curves_put rfl ⟨(Nat.le_of_ble_eq_true rfl), (Nat.le_of_ble_eq_true rfl)⟩ ⟨(Nat.le_of_ble_eq_true rfl), (Nat.le_of_ble_eq_true rfl)⟩ rfl (Nat.le_of_ble_eq_true rfl) d_LT_curve_65 (k' := 0) (n' := 0) (stk' := []) rfl rfl rfl ?_
    refine z_aload_n C 1 d_LT_curve_68 rfl rfl ?_
    refine z_getR C 1 4 rfl in_LT (by decide) w_270 rfl d_LT_curve_69 hf (fun v3 hf => ?_)
    refine z_getI C 6 1 rfl in_Curves (by decide) w_237 rfl d_LT_curve_72 hf (fun v4 hf => ?_)
    exact z_iret C E (Nat.le_of_ble_eq_true rfl) (Nat.le_of_ble_eq_true rfl) d_LT_curve_75 hf
  · refine z_iload_n C 0 d_LT_curve_57 rfl rfl ?_
    exact z_iret C E (Nat.le_of_ble_eq_true rfl) (Nat.le_of_ble_eq_true rfl) d_LT_curve_58 hf

set_option maxHeartbeats 4000000 in
set_option maxRecDepth 100000 in
theorem k_LT_curve (N : Nat) {X : zX} (C : zB X prog_1_method_14_code 4 R_LT rm_LT_curve) {h0 : zH} {p : Int32 × zH} (E : zR X (some .int) rm_LT_curve h0 (some (.int p.1)) p.2) : ∀ (x0 : Nat) (x1 : Int32) (x2 : Int32) (h : zH), f_LT_curve N x0 x1 x2 h = some p → Zt X 4 0 0 0 [(0, .ref x0), (1, .int x1), (2, .int x2)] [] h := by
  intro x0 x1 x2 h hf
  unfold f_LT_curve at hf
  refine z_aload_n C 0 d_LT_curve_0 rfl rfl ?_
  refine z_getR C 1 3 rfl in_LT (by decide) w_269 rfl d_LT_curve_1 hf (fun v5 hf => ?_)
  refine z_getI C 5 4 rfl in_Table (by decide) w_205 rfl d_LT_curve_4 hf (fun v6 hf => ?_)
  refine z_if_eq (tgt := 36) C d_LT_curve_7 (by decide) hf (fun hf => ?_) (fun hf => ?_)
  · refine z_iconst C (v := (-1 : Int32)) d_LT_curve_36 (by decide) ?_
    exact z_iret C E (Nat.le_of_ble_eq_true rfl) (Nat.le_of_ble_eq_true rfl) d_LT_curve_37 hf
  · refine z_iload_n C 1 d_LT_curve_10 rfl rfl ?_
    refine z_iconst C (v := (1 : Int32)) d_LT_curve_11 (by decide) ?_
    refine z_ic_lt (tgt := 36) C d_LT_curve_12 (by decide) hf (fun hf => ?_) (fun hf => ?_)
    · refine z_iconst C (v := (-1 : Int32)) d_LT_curve_36 (by decide) ?_
      exact z_iret C E (Nat.le_of_ble_eq_true rfl) (Nat.le_of_ble_eq_true rfl) d_LT_curve_37 hf
    · refine z_iload_n C 1 d_LT_curve_15 rfl rfl ?_
      refine z_aload_n C 0 d_LT_curve_16 rfl rfl ?_
      refine z_getR C 1 0 rfl in_LT (by decide) w_266 rfl d_LT_curve_17 hf (fun v7 hf => ?_)
      refine z_getI C 2 0 rfl in_Site (by decide) w_97 rfl d_LT_curve_20 hf (fun v8 hf => ?_)
      refine z_ic_ge (tgt := 36) C d_LT_curve_23 (by decide) hf (fun hf => ?_) (fun hf => ?_)
      · refine z_iconst C (v := (-1 : Int32)) d_LT_curve_36 (by decide) ?_
        exact z_iret C E (Nat.le_of_ble_eq_true rfl) (Nat.le_of_ble_eq_true rfl) d_LT_curve_37 hf
      · refine z_iload_n C 2 d_LT_curve_26 rfl rfl ?_
        refine z_sipush C (v := (1000 : Int32)) d_LT_curve_27 (by decide) ?_
        obtain ⟨p9, hc, hf⟩ := Option.bind_eq_some_iff.mp hf
        refine z_callS C (c_LT_within N C.2.2.1 hc) w_325 w_57 w_323 w_324 pd_LT_within rfl ⟨(Nat.le_of_ble_eq_true rfl), (Nat.le_of_ble_eq_true rfl)⟩ ⟨(Nat.le_of_ble_eq_true rfl), (Nat.le_of_ble_eq_true rfl)⟩ rfl (Nat.le_of_ble_eq_true rfl) d_LT_curve_30 (k' := 0) (n' := 0) (stk' := [.int p9.1]) rfl rfl rfl ?_
        refine z_if_ne (tgt := 38) C d_LT_curve_33 (by decide) hf (fun hf => ?_) (fun hf => ?_)
        · refine z_iload_n C 2 d_LT_curve_38 rfl rfl ?_
          refine z_if_ne (tgt := 46) C d_LT_curve_39 (by decide) hf (fun hf => ?_) (fun hf => ?_)
          · refine z_aload_n C 0 d_LT_curve_46 rfl rfl ?_
            refine z_iload_n C 1 d_LT_curve_47 rfl rfl ?_
            refine z_iload_n C 2 d_LT_curve_48 rfl rfl ?_
            obtain ⟨p10, hc, hf⟩ := Option.bind_eq_some_iff.mp hf
            obtain ⟨hz, hc⟩ := zck_some hc
            refine z_callV C (ci := 1) (c_LT_curveRefusal N C.2.2.1 hc) rfl hz w_617 w_57 w_614 w_616 w_25 pd_LT_curveRefusal rfl ⟨(Nat.le_of_ble_eq_true rfl), (Nat.le_of_ble_eq_true rfl)⟩ ⟨(Nat.le_of_ble_eq_true rfl), (Nat.le_of_ble_eq_true rfl)⟩ rfl (Nat.le_of_ble_eq_true rfl) d_LT_curve_49 (k' := 0) (n' := 0) (stk' := [.int p10.1]) rfl rfl rfl ?_
            refine z_sub [0, 1, 2] rfl ?_
            exact k_LT_curve_52 N C E _ _ _ _ _ hf
          · refine z_iconst C (v := (0 : Int32)) d_LT_curve_42 (by decide) ?_
            refine z_goto (tgt := 52) C d_LT_curve_43 (by decide) ?_
            refine z_sub [0, 1, 2] rfl ?_
            exact k_LT_curve_52 N C E _ _ _ _ _ hf
        · refine z_iconst C (v := (-1 : Int32)) d_LT_curve_36 (by decide) ?_
          exact z_iret C E (Nat.le_of_ble_eq_true rfl) (Nat.le_of_ble_eq_true rfl) d_LT_curve_37 hf

theorem c_LT_curve (N : Nat) {l : Launch} {D : va_G} {T : List (ClassId × FieldType)} (hT : T.map (fun q => q.2) = ztl) {x0 : Nat} {x1 : Int32} {x2 : Int32} {h : zH} {p : Int32 × zH} (hf : f_LT_curve N x0 x1 x2 h = some p) : zM l y_LT_curve prog_1_method_14_code 4 (some .int) rm_LT_curve D T [.ref x0, .int x1, .int x2] h (some (.int p.1)) p.2 :=
  z_enter (by decide) hT (Nat.le_of_ble_eq_true rfl) (fun X el eD eT hin C E => k_LT_curve N C E x0 x1 x2 h hf)
/-! ===== LevelTables.lane(II)I ===== -/
abbrev y_LT_lane : MethodName := ⟨R_LT, "lane", "(II)I"⟩
theorem pd_LT_lane : y_LT_lane.cls ≠ "java/lang/invoke/MethodHandle" ∧ y_LT_lane.cls ≠ "java/lang/invoke/VarHandle" ∧ (parseMethodDescriptor y_LT_lane.desc).map (fun d => d.parameters.length) = some 2 := ⟨by decide +kernel, by decide +kernel, by decide +kernel⟩
abbrev rm_LT_lane : Room := { frames := 3, cells := 0, slots := 0, locals := 74 }
def f_LT_lane (N : Nat) (x0 : Nat) (x1 : Int32) (x2 : Int32) (h : zH) : Option (Int32 × zH) :=
  Option.bind (zgR h x0 1 3) fun (v1 : Nat) =>
  Option.bind (zgI h v1 5 4) fun (v2 : Int32) =>
  (if v2 = 0 then
    some ((-1 : Int32), h)
  else
    (if x1 < 0 then
      some ((-1 : Int32), h)
    else
      Option.bind (f_LT_within N x2 (2 : Int32) h) fun (p3 : Int32 × zH) =>
      (if p3.1 = 0 then
        some ((-1 : Int32), p3.2)
      else
        Option.bind (zgR p3.2 x0 1 5) fun (v4 : Nat) =>
        Option.bind (zgR p3.2 x0 1 3) fun (v5 : Nat) =>
        Option.bind (zck (zis p3.2 v4 7) (f_Lorry_laneFact N v4 v5 x1 x2 p3.2)) fun (p6 : Int32 × zH) =>
        some (p6.1, p6.2))))
theorem d_LT_lane_0 : decode prog_1_method_17_code 0 = .ok (.aload_n (0), 1) := by decide +kernel
theorem d_LT_lane_1 : decode prog_1_method_17_code 1 = .ok (.getfield (48), 3) := by decide +kernel
theorem d_LT_lane_4 : decode prog_1_method_17_code 4 = .ok (.getfield (150), 3) := by decide +kernel
theorem d_LT_lane_7 : decode prog_1_method_17_code 7 = .ok (.ifCond .eq (15), 3) := by decide +kernel
theorem d_LT_lane_10 : decode prog_1_method_17_code 10 = .ok (.iload_n (1), 1) := by decide +kernel
theorem d_LT_lane_11 : decode prog_1_method_17_code 11 = .ok (.ifCond .lt (11), 3) := by decide +kernel
theorem d_LT_lane_14 : decode prog_1_method_17_code 14 = .ok (.iload_n (2), 1) := by decide +kernel
theorem d_LT_lane_15 : decode prog_1_method_17_code 15 = .ok (.iconst (2), 1) := by decide +kernel
theorem d_LT_lane_16 : decode prog_1_method_17_code 16 = .ok (.invokestatic (83), 3) := by decide +kernel
theorem d_LT_lane_19 : decode prog_1_method_17_code 19 = .ok (.ifCond .ne (5), 3) := by decide +kernel
theorem d_LT_lane_22 : decode prog_1_method_17_code 22 = .ok (.iconst (-1), 1) := by decide +kernel
theorem d_LT_lane_23 : decode prog_1_method_17_code 23 = .ok (.ireturn, 1) := by decide +kernel
theorem d_LT_lane_24 : decode prog_1_method_17_code 24 = .ok (.aload_n (0), 1) := by decide +kernel
theorem d_LT_lane_25 : decode prog_1_method_17_code 25 = .ok (.getfield (64), 3) := by decide +kernel
theorem d_LT_lane_28 : decode prog_1_method_17_code 28 = .ok (.aload_n (0), 1) := by decide +kernel
theorem d_LT_lane_29 : decode prog_1_method_17_code 29 = .ok (.getfield (48), 3) := by decide +kernel
theorem d_LT_lane_32 : decode prog_1_method_17_code 32 = .ok (.iload_n (1), 1) := by decide +kernel
theorem d_LT_lane_33 : decode prog_1_method_17_code 33 = .ok (.iload_n (2), 1) := by decide +kernel
theorem d_LT_lane_34 : decode prog_1_method_17_code 34 = .ok (.invokevirtual (217), 3) := by decide +kernel
theorem d_LT_lane_37 : decode prog_1_method_17_code 37 = .ok (.ireturn, 1) := by decide +kernel
set_option maxHeartbeats 4000000 in
set_option maxRecDepth 100000 in
theorem k_LT_lane (N : Nat) {X : zX} (C : zB X prog_1_method_17_code 3 R_LT rm_LT_lane) {h0 : zH} {p : Int32 × zH} (E : zR X (some .int) rm_LT_lane h0 (some (.int p.1)) p.2) : ∀ (x0 : Nat) (x1 : Int32) (x2 : Int32) (h : zH), f_LT_lane N x0 x1 x2 h = some p → Zt X 3 0 0 0 [(0, .ref x0), (1, .int x1), (2, .int x2)] [] h := by
  intro x0 x1 x2 h hf
  unfold f_LT_lane at hf
  refine z_aload_n C 0 d_LT_lane_0 rfl rfl ?_
  refine z_getR C 1 3 rfl in_LT (by decide) w_269 rfl d_LT_lane_1 hf (fun v1 hf => ?_)
  refine z_getI C 5 4 rfl in_Table (by decide) w_205 rfl d_LT_lane_4 hf (fun v2 hf => ?_)
  refine z_if_eq (tgt := 22) C d_LT_lane_7 (by decide) hf (fun hf => ?_) (fun hf => ?_)
  · refine z_iconst C (v := (-1 : Int32)) d_LT_lane_22 (by decide) ?_
    exact z_iret C E (Nat.le_of_ble_eq_true rfl) (Nat.le_of_ble_eq_true rfl) d_LT_lane_23 hf
  · refine z_iload_n C 1 d_LT_lane_10 rfl rfl ?_
    refine z_if_lt (tgt := 22) C d_LT_lane_11 (by decide) hf (fun hf => ?_) (fun hf => ?_)
    · refine z_iconst C (v := (-1 : Int32)) d_LT_lane_22 (by decide) ?_
      exact z_iret C E (Nat.le_of_ble_eq_true rfl) (Nat.le_of_ble_eq_true rfl) d_LT_lane_23 hf
    · refine z_iload_n C 2 d_LT_lane_14 rfl rfl ?_
      refine z_iconst C (v := (2 : Int32)) d_LT_lane_15 (by decide) ?_
      obtain ⟨p3, hc, hf⟩ := Option.bind_eq_some_iff.mp hf
      refine z_callS C (c_LT_within N C.2.2.1 hc) w_325 w_57 w_323 w_324 pd_LT_within rfl ⟨(Nat.le_of_ble_eq_true rfl), (Nat.le_of_ble_eq_true rfl)⟩ ⟨(Nat.le_of_ble_eq_true rfl), (Nat.le_of_ble_eq_true rfl)⟩ rfl (Nat.le_of_ble_eq_true rfl) d_LT_lane_16 (k' := 0) (n' := 0) (stk' := [.int p3.1]) rfl rfl rfl ?_
      refine z_if_ne (tgt := 24) C d_LT_lane_19 (by decide) hf (fun hf => ?_) (fun hf => ?_)
      · refine z_aload_n C 0 d_LT_lane_24 rfl rfl ?_
        refine z_getR C 1 5 rfl in_LT (by decide) w_271 rfl d_LT_lane_25 hf (fun v4 hf => ?_)
        refine z_aload_n C 0 d_LT_lane_28 rfl rfl ?_
        refine z_getR C 1 3 rfl in_LT (by decide) w_269 rfl d_LT_lane_29 hf (fun v5 hf => ?_)
        refine z_iload_n C 1 d_LT_lane_32 rfl rfl ?_
        refine z_iload_n C 2 d_LT_lane_33 rfl rfl ?_
        obtain ⟨p6, hc, hf⟩ := Option.bind_eq_some_iff.mp hf
        obtain ⟨hz, hc⟩ := zck_some hc
        refine z_callV C (ci := 7) (c_Lorry_laneFact N C.2.2.1 hc) rfl hz w_651 w_65 w_648 w_649 w_650 pd_Lorry_laneFact rfl ⟨(Nat.le_of_ble_eq_true rfl), (Nat.le_of_ble_eq_true rfl)⟩ ⟨(Nat.le_of_ble_eq_true rfl), (Nat.le_of_ble_eq_true rfl)⟩ rfl (Nat.le_of_ble_eq_true rfl) d_LT_lane_34 (k' := 0) (n' := 0) (stk' := [.int p6.1]) rfl rfl rfl ?_
        exact z_iret C E (Nat.le_of_ble_eq_true rfl) (Nat.le_of_ble_eq_true rfl) d_LT_lane_37 hf
      · refine z_iconst C (v := (-1 : Int32)) d_LT_lane_22 (by decide) ?_
        exact z_iret C E (Nat.le_of_ble_eq_true rfl) (Nat.le_of_ble_eq_true rfl) d_LT_lane_23 hf

theorem c_LT_lane (N : Nat) {l : Launch} {D : va_G} {T : List (ClassId × FieldType)} (hT : T.map (fun q => q.2) = ztl) {x0 : Nat} {x1 : Int32} {x2 : Int32} {h : zH} {p : Int32 × zH} (hf : f_LT_lane N x0 x1 x2 h = some p) : zM l y_LT_lane prog_1_method_17_code 3 (some .int) rm_LT_lane D T [.ref x0, .int x1, .int x2] h (some (.int p.1)) p.2 :=
  z_enter (by decide) hT (Nat.le_of_ble_eq_true rfl) (fun X el eD eT hin C E => k_LT_lane N C E x0 x1 x2 h hf)
/-! ===== LevelTables$Table.rankOf(I)I ===== -/
abbrev y_Table_rankOf : MethodName := ⟨R_Table, "rankOf", "(I)I"⟩
theorem pd_Table_rankOf : y_Table_rankOf.cls ≠ "java/lang/invoke/MethodHandle" ∧ y_Table_rankOf.cls ≠ "java/lang/invoke/VarHandle" ∧ (parseMethodDescriptor y_Table_rankOf.desc).map (fun d => d.parameters.length) = some 1 := ⟨by decide +kernel, by decide +kernel, by decide +kernel⟩
abbrev rm_Table_rankOf : Room := { frames := 2, cells := 0, slots := 0, locals := 42 }
def f_Table_rankOf_58 (N : Nat) (rc14 : Nat → Int32 → Int32 → Int32 → Int32 → zH → Option (Int32 × zH)) (x0 : Nat) (x1 : Int32) (x2 : Int32) (x3 : Int32) (x4 : Int32) (h : zH) : Option (Int32 × zH) :=
  rc14 x0 x1 x2 x3 (x4 + (1 : Int32)) h
def f_Table_rankOf_55 (N : Nat) (rc14 : Nat → Int32 → Int32 → Int32 → Int32 → zH → Option (Int32 × zH)) (x0 : Nat) (x1 : Int32) (x2 : Int32) (x3 : Int32) (x4 : Int32) (h : zH) : Option (Int32 × zH) :=
  f_Table_rankOf_58 N rc14 x0 x1 x2 (x3 + (1 : Int32)) x4 h
def b_Table_rankOf_14 (N : Nat) (rc14 : Nat → Int32 → Int32 → Int32 → Int32 → zH → Option (Int32 × zH)) (x0 : Nat) (x1 : Int32) (x2 : Int32) (x3 : Int32) (x4 : Int32) (h : zH) : Option (Int32 × zH) :=
  Option.bind (zgR h x0 5 0) fun (v1 : Nat) =>
  Option.bind (zgI h v1 2 0) fun (v2 : Int32) =>
  (if v2 < x4 then
    some (x3, h)
  else
    Option.bind (zck (zis h x0 5) (f_Table_filledAt N x0 x4 h)) fun (p3 : Int32 × zH) =>
    (if x2 < (zabs p3.1) then
      f_Table_rankOf_55 N rc14 x0 x1 x2 x3 x4 p3.2
    else
      (if (zabs p3.1) = x2 then
        (if x1 ≤ x4 then
          f_Table_rankOf_58 N rc14 x0 x1 x2 x3 x4 p3.2
        else
          f_Table_rankOf_55 N rc14 x0 x1 x2 x3 x4 p3.2)
      else
        f_Table_rankOf_58 N rc14 x0 x1 x2 x3 x4 p3.2)))
def f_Table_rankOf_14 (N : Nat) : Nat → Nat → Int32 → Int32 → Int32 → Int32 → zH → Option (Int32 × zH)
  | 0 => fun _ _ _ _ _ _ => none
  | n + 1 => fun x0 x1 x2 x3 x4 h => b_Table_rankOf_14 N (f_Table_rankOf_14 N n) x0 x1 x2 x3 x4 h
def f_Table_rankOf (N : Nat) (x0 : Nat) (x1 : Int32) (h : zH) : Option (Int32 × zH) :=
  Option.bind (zck (zis h x0 5) (f_Table_filledAt N x0 x1 h)) fun (p4 : Int32 × zH) =>
  f_Table_rankOf_14 N N x0 x1 (zabs p4.1) (0 : Int32) (0 : Int32) p4.2
theorem d_Table_rankOf_0 : decode prog_8_method_8_code 0 = .ok (.aload_n (0), 1) := by decide +kernel
theorem d_Table_rankOf_1 : decode prog_8_method_8_code 1 = .ok (.iload_n (1), 1) := by decide +kernel
theorem d_Table_rankOf_2 : decode prog_8_method_8_code 2 = .ok (.invokevirtual (50), 3) := by decide +kernel
theorem d_Table_rankOf_5 : decode prog_8_method_8_code 5 = .ok (.invokestatic (63), 3) := by decide +kernel
theorem d_Table_rankOf_8 : decode prog_8_method_8_code 8 = .ok (.istore_n (2), 1) := by decide +kernel
theorem d_Table_rankOf_9 : decode prog_8_method_8_code 9 = .ok (.iconst (0), 1) := by decide +kernel
theorem d_Table_rankOf_10 : decode prog_8_method_8_code 10 = .ok (.istore_n (3), 1) := by decide +kernel
theorem d_Table_rankOf_11 : decode prog_8_method_8_code 11 = .ok (.iconst (0), 1) := by decide +kernel
theorem d_Table_rankOf_12 : decode prog_8_method_8_code 12 = .ok (.istore (4), 2) := by decide +kernel
theorem d_Table_rankOf_14 : decode prog_8_method_8_code 14 = .ok (.iload (4), 2) := by decide +kernel
theorem d_Table_rankOf_16 : decode prog_8_method_8_code 16 = .ok (.aload_n (0), 1) := by decide +kernel
theorem d_Table_rankOf_17 : decode prog_8_method_8_code 17 = .ok (.getfield (23), 3) := by decide +kernel
theorem d_Table_rankOf_20 : decode prog_8_method_8_code 20 = .ok (.getfield (31), 3) := by decide +kernel
theorem d_Table_rankOf_23 : decode prog_8_method_8_code 23 = .ok (.if_icmp .gt (41), 3) := by decide +kernel
theorem d_Table_rankOf_26 : decode prog_8_method_8_code 26 = .ok (.aload_n (0), 1) := by decide +kernel
theorem d_Table_rankOf_27 : decode prog_8_method_8_code 27 = .ok (.iload (4), 2) := by decide +kernel
theorem d_Table_rankOf_29 : decode prog_8_method_8_code 29 = .ok (.invokevirtual (50), 3) := by decide +kernel
theorem d_Table_rankOf_32 : decode prog_8_method_8_code 32 = .ok (.invokestatic (63), 3) := by decide +kernel
theorem d_Table_rankOf_35 : decode prog_8_method_8_code 35 = .ok (.istore (5), 2) := by decide +kernel
theorem d_Table_rankOf_37 : decode prog_8_method_8_code 37 = .ok (.iload (5), 2) := by decide +kernel
theorem d_Table_rankOf_39 : decode prog_8_method_8_code 39 = .ok (.iload_n (2), 1) := by decide +kernel
theorem d_Table_rankOf_40 : decode prog_8_method_8_code 40 = .ok (.if_icmp .gt (15), 3) := by decide +kernel
theorem d_Table_rankOf_43 : decode prog_8_method_8_code 43 = .ok (.iload (5), 2) := by decide +kernel
theorem d_Table_rankOf_45 : decode prog_8_method_8_code 45 = .ok (.iload_n (2), 1) := by decide +kernel
theorem d_Table_rankOf_46 : decode prog_8_method_8_code 46 = .ok (.if_icmp .ne (12), 3) := by decide +kernel
theorem d_Table_rankOf_49 : decode prog_8_method_8_code 49 = .ok (.iload (4), 2) := by decide +kernel
theorem d_Table_rankOf_51 : decode prog_8_method_8_code 51 = .ok (.iload_n (1), 1) := by decide +kernel
theorem d_Table_rankOf_52 : decode prog_8_method_8_code 52 = .ok (.if_icmp .ge (6), 3) := by decide +kernel
theorem d_Table_rankOf_55 : decode prog_8_method_8_code 55 = .ok (.iinc (3) (1), 3) := by decide +kernel
theorem d_Table_rankOf_58 : decode prog_8_method_8_code 58 = .ok (.iinc (4) (1), 3) := by decide +kernel
theorem d_Table_rankOf_61 : decode prog_8_method_8_code 61 = .ok (.goto (-47), 3) := by decide +kernel
theorem d_Table_rankOf_64 : decode prog_8_method_8_code 64 = .ok (.iload_n (3), 1) := by decide +kernel
theorem d_Table_rankOf_65 : decode prog_8_method_8_code 65 = .ok (.ireturn, 1) := by decide +kernel
set_option maxHeartbeats 4000000 in
set_option maxRecDepth 100000 in
theorem k_Table_rankOf_58 (N : Nat) {X : zX} (C : zB X prog_8_method_8_code 6 R_Table rm_Table_rankOf) {h0 : zH} {p : Int32 × zH} (E : zR X (some .int) rm_Table_rankOf h0 (some (.int p.1)) p.2) {rc14 : Nat → Int32 → Int32 → Int32 → Int32 → zH → Option (Int32 × zH)} (H14 : ∀ (x0 : Nat) (x1 : Int32) (x2 : Int32) (x3 : Int32) (x4 : Int32) (h : zH), rc14 x0 x1 x2 x3 x4 h = some p → Zt X 6 0 0 14 [(0, .ref x0), (1, .int x1), (2, .int x2), (3, .int x3), (4, .int x4)] [] h) : ∀ (x0 : Nat) (x1 : Int32) (x2 : Int32) (x3 : Int32) (x4 : Int32) (h : zH), f_Table_rankOf_58 N rc14 x0 x1 x2 x3 x4 h = some p → Zt X 6 0 0 58 [(0, .ref x0), (1, .int x1), (2, .int x2), (3, .int x3), (4, .int x4)] [] h := by
  intro x0 x1 x2 x3 x4 h hf
  unfold f_Table_rankOf_58 at hf
  refine z_iinc C (v := (x4 + (1 : Int32))) (lv' := [(4, .int (x4 + (1 : Int32))), (0, .ref x0), (1, .int x1), (2, .int x2), (3, .int x3)]) 4 d_Table_rankOf_58 rfl (by rfl) (by decide) rfl ?_
  refine z_goto (tgt := 14) C d_Table_rankOf_61 (by decide) ?_
  refine z_sub [1, 2, 3, 4, 0] rfl ?_
  exact H14 _ _ _ _ _ _ hf

set_option maxHeartbeats 4000000 in
set_option maxRecDepth 100000 in
theorem k_Table_rankOf_55 (N : Nat) {X : zX} (C : zB X prog_8_method_8_code 6 R_Table rm_Table_rankOf) {h0 : zH} {p : Int32 × zH} (E : zR X (some .int) rm_Table_rankOf h0 (some (.int p.1)) p.2) {rc14 : Nat → Int32 → Int32 → Int32 → Int32 → zH → Option (Int32 × zH)} (H14 : ∀ (x0 : Nat) (x1 : Int32) (x2 : Int32) (x3 : Int32) (x4 : Int32) (h : zH), rc14 x0 x1 x2 x3 x4 h = some p → Zt X 6 0 0 14 [(0, .ref x0), (1, .int x1), (2, .int x2), (3, .int x3), (4, .int x4)] [] h) : ∀ (x0 : Nat) (x1 : Int32) (x2 : Int32) (x3 : Int32) (x4 : Int32) (h : zH), f_Table_rankOf_55 N rc14 x0 x1 x2 x3 x4 h = some p → Zt X 6 0 0 55 [(0, .ref x0), (1, .int x1), (2, .int x2), (3, .int x3), (4, .int x4)] [] h := by
  intro x0 x1 x2 x3 x4 h hf
  unfold f_Table_rankOf_55 at hf
  refine z_iinc C (v := (x3 + (1 : Int32))) (lv' := [(3, .int (x3 + (1 : Int32))), (0, .ref x0), (1, .int x1), (2, .int x2), (4, .int x4)]) 3 d_Table_rankOf_55 rfl (by rfl) (by decide) rfl ?_
  refine z_sub [1, 2, 3, 0, 4] rfl ?_
  exact k_Table_rankOf_58 N C E H14 _ _ _ _ _ _ hf

set_option maxHeartbeats 4000000 in
set_option maxRecDepth 100000 in
theorem k_Table_rankOf_14 (N : Nat) {X : zX} (C : zB X prog_8_method_8_code 6 R_Table rm_Table_rankOf) {h0 : zH} {p : Int32 × zH} (E : zR X (some .int) rm_Table_rankOf h0 (some (.int p.1)) p.2) : ∀ n : Nat, ∀ (x0 : Nat) (x1 : Int32) (x2 : Int32) (x3 : Int32) (x4 : Int32) (h : zH), f_Table_rankOf_14 N n x0 x1 x2 x3 x4 h = some p → Zt X 6 0 0 14 [(0, .ref x0), (1, .int x1), (2, .int x2), (3, .int x3), (4, .int x4)] [] h := by
  intro n
  induction n with
  | zero => intro x0 x1 x2 x3 x4 h hf; cases hf
  | succ n ih =>
  intro x0 x1 x2 x3 x4 h hf
  have H14 := ih
  replace hf : b_Table_rankOf_14 N (f_Table_rankOf_14 N n) x0 x1 x2 x3 x4 h = some p := hf
  unfold b_Table_rankOf_14 at hf
  refine z_iload C 4 d_Table_rankOf_14 rfl ?_
  refine z_aload_n C 0 d_Table_rankOf_16 rfl rfl ?_
  refine z_getR C 5 0 rfl in_Table (by decide) w_195 rfl d_Table_rankOf_17 hf (fun v1 hf => ?_)
  refine z_getI C 2 0 rfl in_Site (by decide) w_94 rfl d_Table_rankOf_20 hf (fun v2 hf => ?_)
  refine z_ic_gt (tgt := 64) C d_Table_rankOf_23 (by decide) hf (fun hf => ?_) (fun hf => ?_)
  · refine z_iload_n C 3 d_Table_rankOf_64 rfl rfl ?_
    exact z_iret C E (Nat.le_of_ble_eq_true rfl) (Nat.le_of_ble_eq_true rfl) d_Table_rankOf_65 hf
  · refine z_aload_n C 0 d_Table_rankOf_26 rfl rfl ?_
    refine z_iload C 4 d_Table_rankOf_27 rfl ?_
    obtain ⟨p3, hc, hf⟩ := Option.bind_eq_some_iff.mp hf
    obtain ⟨hz, hc⟩ := zck_some hc
    refine z_callV C (ci := 5) (c_Table_filledAt N C.2.2.1 hc) rfl hz w_670 w_63 w_667 w_668 w_669 pd_Table_filledAt rfl ⟨(Nat.le_of_ble_eq_true rfl), (Nat.le_of_ble_eq_true rfl)⟩ ⟨(Nat.le_of_ble_eq_true rfl), (Nat.le_of_ble_eq_true rfl)⟩ rfl (Nat.le_of_ble_eq_true rfl) d_Table_rankOf_29 (k' := 0) (n' := 0) (stk' := [.int p3.1]) rfl rfl rfl ?_
    refine z_mabs C w_675 w_407 w_58 w_408 (Nat.le_of_ble_eq_true rfl) (Nat.le_of_ble_eq_true rfl) (Nat.le_of_ble_eq_true rfl) (Nat.le_of_ble_eq_true rfl) d_Table_rankOf_32 ?_
    refine z_istore C (lv' := [(5, .int (zabs p3.1)), (0, .ref x0), (1, .int x1), (2, .int x2), (3, .int x3), (4, .int x4)]) d_Table_rankOf_35 (by decide) rfl ?_
    refine z_iload C 0 d_Table_rankOf_37 rfl ?_
    refine z_iload_n C 3 d_Table_rankOf_39 rfl rfl ?_
    refine z_ic_gt (tgt := 55) C d_Table_rankOf_40 (by decide) hf (fun hf => ?_) (fun hf => ?_)
    · refine z_sub [1, 2, 3, 4, 5] rfl ?_
      exact k_Table_rankOf_55 N C E H14 _ _ _ _ _ _ hf
    · refine z_iload C 0 d_Table_rankOf_43 rfl ?_
      refine z_iload_n C 3 d_Table_rankOf_45 rfl rfl ?_
      refine z_ic_ne (tgt := 58) C d_Table_rankOf_46 (by decide) hf (fun hf => ?_) (fun hf => ?_)
      · refine z_sub [1, 2, 3, 4, 5] rfl ?_
        exact k_Table_rankOf_58 N C E H14 _ _ _ _ _ _ hf
      · refine z_iload C 5 d_Table_rankOf_49 rfl ?_
        refine z_iload_n C 2 d_Table_rankOf_51 rfl rfl ?_
        refine z_ic_ge (tgt := 58) C d_Table_rankOf_52 (by decide) hf (fun hf => ?_) (fun hf => ?_)
        · refine z_sub [1, 2, 3, 4, 5] rfl ?_
          exact k_Table_rankOf_58 N C E H14 _ _ _ _ _ _ hf
        · refine z_sub [1, 2, 3, 4, 5] rfl ?_
          exact k_Table_rankOf_55 N C E H14 _ _ _ _ _ _ hf

set_option maxHeartbeats 4000000 in
set_option maxRecDepth 100000 in
theorem k_Table_rankOf (N : Nat) {X : zX} (C : zB X prog_8_method_8_code 6 R_Table rm_Table_rankOf) {h0 : zH} {p : Int32 × zH} (E : zR X (some .int) rm_Table_rankOf h0 (some (.int p.1)) p.2) : ∀ (x0 : Nat) (x1 : Int32) (h : zH), f_Table_rankOf N x0 x1 h = some p → Zt X 6 0 0 0 [(0, .ref x0), (1, .int x1)] [] h := by
  intro x0 x1 h hf
  unfold f_Table_rankOf at hf
  refine z_aload_n C 0 d_Table_rankOf_0 rfl rfl ?_
  refine z_iload_n C 1 d_Table_rankOf_1 rfl rfl ?_
  obtain ⟨p4, hc, hf⟩ := Option.bind_eq_some_iff.mp hf
  obtain ⟨hz, hc⟩ := zck_some hc
  refine z_callV C (ci := 5) (c_Table_filledAt N C.2.2.1 hc) rfl hz w_670 w_63 w_667 w_668 w_669 pd_Table_filledAt rfl ⟨(Nat.le_of_ble_eq_true rfl), (Nat.le_of_ble_eq_true rfl)⟩ ⟨(Nat.le_of_ble_eq_true rfl), (Nat.le_of_ble_eq_true rfl)⟩ rfl (Nat.le_of_ble_eq_true rfl) d_Table_rankOf_2 (k' := 0) (n' := 0) (stk' := [.int p4.1]) rfl rfl rfl ?_
  refine z_mabs C w_675 w_407 w_58 w_408 (Nat.le_of_ble_eq_true rfl) (Nat.le_of_ble_eq_true rfl) (Nat.le_of_ble_eq_true rfl) (Nat.le_of_ble_eq_true rfl) d_Table_rankOf_5 ?_
  refine z_istore_n C (lv' := [(2, .int (zabs p4.1)), (0, .ref x0), (1, .int x1)]) d_Table_rankOf_8 rfl (by decide) rfl ?_
  refine z_iconst C (v := (0 : Int32)) d_Table_rankOf_9 (by decide) ?_
  refine z_istore_n C (lv' := [(3, .int (0 : Int32)), (2, .int (zabs p4.1)), (0, .ref x0), (1, .int x1)]) d_Table_rankOf_10 rfl (by decide) rfl ?_
  refine z_iconst C (v := (0 : Int32)) d_Table_rankOf_11 (by decide) ?_
  refine z_istore C (lv' := [(4, .int (0 : Int32)), (3, .int (0 : Int32)), (2, .int (zabs p4.1)), (0, .ref x0), (1, .int x1)]) d_Table_rankOf_12 (by decide) rfl ?_
  refine z_sub [3, 4, 2, 1, 0] rfl ?_
  exact k_Table_rankOf_14 N C E N _ _ _ _ _ _ hf

theorem c_Table_rankOf (N : Nat) {l : Launch} {D : va_G} {T : List (ClassId × FieldType)} (hT : T.map (fun q => q.2) = ztl) {x0 : Nat} {x1 : Int32} {h : zH} {p : Int32 × zH} (hf : f_Table_rankOf N x0 x1 h = some p) : zM l y_Table_rankOf prog_8_method_8_code 6 (some .int) rm_Table_rankOf D T [.ref x0, .int x1] h (some (.int p.1)) p.2 :=
  z_enter (by decide) hT (Nat.le_of_ble_eq_true rfl) (fun X el eD eT hin C E => k_Table_rankOf N C E x0 x1 h hf)
/-! ===== LevelTables.toldOfTable(I)I ===== -/
abbrev y_LT_toldOfTable : MethodName := ⟨R_LT, "toldOfTable", "(I)I"⟩
theorem pd_LT_toldOfTable : y_LT_toldOfTable.cls ≠ "java/lang/invoke/MethodHandle" ∧ y_LT_toldOfTable.cls ≠ "java/lang/invoke/VarHandle" ∧ (parseMethodDescriptor y_LT_toldOfTable.desc).map (fun d => d.parameters.length) = some 1 := ⟨by decide +kernel, by decide +kernel, by decide +kernel⟩
abbrev rm_LT_toldOfTable : Room := { frames := 3, cells := 0, slots := 0, locals := 64 }
def f_LT_toldOfTable (N : Nat) (x0 : Nat) (x1 : Int32) (h : zH) : Option (Int32 × zH) :=
  (if x1 = (3 : Int32) then
    Option.bind (zgR h x0 1 3) fun (v1 : Nat) =>
      Option.bind (zgI h v1 5 5) fun (v2 : Int32) =>
      some (v2, h)
  else
    (if x1 = (4 : Int32) then
    Option.bind (zgR h x0 1 3) fun (v3 : Nat) =>
      Option.bind (zck (zis h v3 5) (f_Table_sumOfSizes N v3  h)) fun (p4 : Int32 × zH) =>
      some (p4.1, p4.2)
  else
    (if x1 = (5 : Int32) then
    Option.bind (zgR h x0 1 3) fun (v5 : Nat) =>
      Option.bind (zck (zis h v5 5) (f_Table_levelsCut N v5  h)) fun (p6 : Int32 × zH) =>
      some (p6.1, p6.2)
  else
    (if x1 = (6 : Int32) then
    Option.bind (zgR h x0 1 3) fun (v7 : Nat) =>
      Option.bind (zck (zis h v7 5) (f_Table_levelsFilled N v7  h)) fun (p8 : Int32 × zH) =>
      some (p8.1, p8.2)
  else
    (if x1 = (7 : Int32) then
    Option.bind (zgR h x0 1 4) fun (v9 : Nat) =>
      Option.bind (zgI h v9 6 1) fun (v10 : Int32) =>
      some (v10, h)
  else
    some ((-1 : Int32), h))))))
theorem d_LT_toldOfTable_0 : decode prog_1_method_25_code 0 = .ok (.iload_n (1), 1) := by decide +kernel
theorem d_LT_toldOfTable_1 : decode prog_1_method_25_code 1 = .ok (.tableswitch (75) (3) (7) #[35, 43, 51, 59, 67], 35) := by decide +kernel
theorem d_LT_toldOfTable_36 : decode prog_1_method_25_code 36 = .ok (.aload_n (0), 1) := by decide +kernel
theorem d_LT_toldOfTable_37 : decode prog_1_method_25_code 37 = .ok (.getfield (48), 3) := by decide +kernel
theorem d_LT_toldOfTable_40 : decode prog_1_method_25_code 40 = .ok (.getfield (141), 3) := by decide +kernel
theorem d_LT_toldOfTable_43 : decode prog_1_method_25_code 43 = .ok (.ireturn, 1) := by decide +kernel
theorem d_LT_toldOfTable_44 : decode prog_1_method_25_code 44 = .ok (.aload_n (0), 1) := by decide +kernel
theorem d_LT_toldOfTable_45 : decode prog_1_method_25_code 45 = .ok (.getfield (48), 3) := by decide +kernel
theorem d_LT_toldOfTable_48 : decode prog_1_method_25_code 48 = .ok (.invokevirtual (253), 3) := by decide +kernel
theorem d_LT_toldOfTable_51 : decode prog_1_method_25_code 51 = .ok (.ireturn, 1) := by decide +kernel
theorem d_LT_toldOfTable_52 : decode prog_1_method_25_code 52 = .ok (.aload_n (0), 1) := by decide +kernel
theorem d_LT_toldOfTable_53 : decode prog_1_method_25_code 53 = .ok (.getfield (48), 3) := by decide +kernel
theorem d_LT_toldOfTable_56 : decode prog_1_method_25_code 56 = .ok (.invokevirtual (256), 3) := by decide +kernel
theorem d_LT_toldOfTable_59 : decode prog_1_method_25_code 59 = .ok (.ireturn, 1) := by decide +kernel
theorem d_LT_toldOfTable_60 : decode prog_1_method_25_code 60 = .ok (.aload_n (0), 1) := by decide +kernel
theorem d_LT_toldOfTable_61 : decode prog_1_method_25_code 61 = .ok (.getfield (48), 3) := by decide +kernel
theorem d_LT_toldOfTable_64 : decode prog_1_method_25_code 64 = .ok (.invokevirtual (259), 3) := by decide +kernel
theorem d_LT_toldOfTable_67 : decode prog_1_method_25_code 67 = .ok (.ireturn, 1) := by decide +kernel
theorem d_LT_toldOfTable_68 : decode prog_1_method_25_code 68 = .ok (.aload_n (0), 1) := by decide +kernel
theorem d_LT_toldOfTable_69 : decode prog_1_method_25_code 69 = .ok (.getfield (57), 3) := by decide +kernel
theorem d_LT_toldOfTable_72 : decode prog_1_method_25_code 72 = .ok (.getfield (192), 3) := by decide +kernel
theorem d_LT_toldOfTable_75 : decode prog_1_method_25_code 75 = .ok (.ireturn, 1) := by decide +kernel
theorem d_LT_toldOfTable_76 : decode prog_1_method_25_code 76 = .ok (.iconst (-1), 1) := by decide +kernel
theorem d_LT_toldOfTable_77 : decode prog_1_method_25_code 77 = .ok (.ireturn, 1) := by decide +kernel
set_option maxHeartbeats 4000000 in
set_option maxRecDepth 100000 in
theorem k_LT_toldOfTable (N : Nat) {X : zX} (C : zB X prog_1_method_25_code 2 R_LT rm_LT_toldOfTable) {h0 : zH} {p : Int32 × zH} (E : zR X (some .int) rm_LT_toldOfTable h0 (some (.int p.1)) p.2) : ∀ (x0 : Nat) (x1 : Int32) (h : zH), f_LT_toldOfTable N x0 x1 h = some p → Zt X 2 0 0 0 [(0, .ref x0), (1, .int x1)] [] h := by
  intro x0 x1 h hf
  unfold f_LT_toldOfTable at hf
  refine z_iload_n C 1 d_LT_toldOfTable_0 rfl rfl ?_
  by_cases e3 : x1 = (3 : Int32)
  · rw [if_pos e3] at hf
    refine z_tabIn (tgt := 36) C (3 : Int32) 3 d_LT_toldOfTable_1 e3 (by decide) (by decide) (by decide) rfl (by decide) ?_
    refine z_aload_n C 0 d_LT_toldOfTable_36 rfl rfl ?_
    refine z_getR C 1 3 rfl in_LT (by decide) w_269 rfl d_LT_toldOfTable_37 hf (fun v1 hf => ?_)
    refine z_getI C 5 5 rfl in_Table (by decide) w_208 rfl d_LT_toldOfTable_40 hf (fun v2 hf => ?_)
    exact z_iret C E (Nat.le_of_ble_eq_true rfl) (Nat.le_of_ble_eq_true rfl) d_LT_toldOfTable_43 hf
  rw [if_neg e3] at hf
  by_cases e4 : x1 = (4 : Int32)
  · rw [if_pos e4] at hf
    refine z_tabIn (tgt := 44) C (4 : Int32) 4 d_LT_toldOfTable_1 e4 (by decide) (by decide) (by decide) rfl (by decide) ?_
    refine z_aload_n C 0 d_LT_toldOfTable_44 rfl rfl ?_
    refine z_getR C 1 3 rfl in_LT (by decide) w_269 rfl d_LT_toldOfTable_45 hf (fun v3 hf => ?_)
    obtain ⟨p4, hc, hf⟩ := Option.bind_eq_some_iff.mp hf
    obtain ⟨hz, hc⟩ := zck_some hc
    refine z_callV C (ci := 5) (c_Table_sumOfSizes N C.2.2.1 hc) rfl hz w_691 w_63 w_688 w_689 w_690 pd_Table_sumOfSizes rfl ⟨(Nat.le_of_ble_eq_true rfl), (Nat.le_of_ble_eq_true rfl)⟩ ⟨(Nat.le_of_ble_eq_true rfl), (Nat.le_of_ble_eq_true rfl)⟩ rfl (Nat.le_of_ble_eq_true rfl) d_LT_toldOfTable_48 (k' := 0) (n' := 0) (stk' := [.int p4.1]) rfl rfl rfl ?_
    exact z_iret C E (Nat.le_of_ble_eq_true rfl) (Nat.le_of_ble_eq_true rfl) d_LT_toldOfTable_51 hf
  rw [if_neg e4] at hf
  by_cases e5 : x1 = (5 : Int32)
  · rw [if_pos e5] at hf
    refine z_tabIn (tgt := 52) C (5 : Int32) 5 d_LT_toldOfTable_1 e5 (by decide) (by decide) (by decide) rfl (by decide) ?_
    refine z_aload_n C 0 d_LT_toldOfTable_52 rfl rfl ?_
    refine z_getR C 1 3 rfl in_LT (by decide) w_269 rfl d_LT_toldOfTable_53 hf (fun v5 hf => ?_)
    obtain ⟨p6, hc, hf⟩ := Option.bind_eq_some_iff.mp hf
    obtain ⟨hz, hc⟩ := zck_some hc
    refine z_callV C (ci := 5) (c_Table_levelsCut N C.2.2.1 hc) rfl hz w_696 w_63 w_693 w_694 w_695 pd_Table_levelsCut rfl ⟨(Nat.le_of_ble_eq_true rfl), (Nat.le_of_ble_eq_true rfl)⟩ ⟨(Nat.le_of_ble_eq_true rfl), (Nat.le_of_ble_eq_true rfl)⟩ rfl (Nat.le_of_ble_eq_true rfl) d_LT_toldOfTable_56 (k' := 0) (n' := 0) (stk' := [.int p6.1]) rfl rfl rfl ?_
    exact z_iret C E (Nat.le_of_ble_eq_true rfl) (Nat.le_of_ble_eq_true rfl) d_LT_toldOfTable_59 hf
  rw [if_neg e5] at hf
  by_cases e6 : x1 = (6 : Int32)
  · rw [if_pos e6] at hf
    refine z_tabIn (tgt := 60) C (6 : Int32) 6 d_LT_toldOfTable_1 e6 (by decide) (by decide) (by decide) rfl (by decide) ?_
    refine z_aload_n C 0 d_LT_toldOfTable_60 rfl rfl ?_
    refine z_getR C 1 3 rfl in_LT (by decide) w_269 rfl d_LT_toldOfTable_61 hf (fun v7 hf => ?_)
    obtain ⟨p8, hc, hf⟩ := Option.bind_eq_some_iff.mp hf
    obtain ⟨hz, hc⟩ := zck_some hc
    refine z_callV C (ci := 5) (c_Table_levelsFilled N C.2.2.1 hc) rfl hz w_701 w_63 w_698 w_699 w_700 pd_Table_levelsFilled rfl ⟨(Nat.le_of_ble_eq_true rfl), (Nat.le_of_ble_eq_true rfl)⟩ ⟨(Nat.le_of_ble_eq_true rfl), (Nat.le_of_ble_eq_true rfl)⟩ rfl (Nat.le_of_ble_eq_true rfl) d_LT_toldOfTable_64 (k' := 0) (n' := 0) (stk' := [.int p8.1]) rfl rfl rfl ?_
    exact z_iret C E (Nat.le_of_ble_eq_true rfl) (Nat.le_of_ble_eq_true rfl) d_LT_toldOfTable_67 hf
  rw [if_neg e6] at hf
  by_cases e7 : x1 = (7 : Int32)
  · rw [if_pos e7] at hf
    refine z_tabIn (tgt := 68) C (7 : Int32) 7 d_LT_toldOfTable_1 e7 (by decide) (by decide) (by decide) rfl (by decide) ?_
    refine z_aload_n C 0 d_LT_toldOfTable_68 rfl rfl ?_
    refine z_getR C 1 4 rfl in_LT (by decide) w_270 rfl d_LT_toldOfTable_69 hf (fun v9 hf => ?_)
    refine z_getI C 6 1 rfl in_Curves (by decide) w_237 rfl d_LT_toldOfTable_72 hf (fun v10 hf => ?_)
    exact z_iret C E (Nat.le_of_ble_eq_true rfl) (Nat.le_of_ble_eq_true rfl) d_LT_toldOfTable_75 hf
  rw [if_neg e7] at hf
  have n3 := z_nev (w := 3) e3 (by decide)
  have n4 := z_nev (w := 4) e4 (by decide)
  have n5 := z_nev (w := 5) e5 (by decide)
  have n6 := z_nev (w := 6) e6 (by decide)
  have n7 := z_nev (w := 7) e7 (by decide)
  refine z_tabOut (tgt := 76) C d_LT_toldOfTable_1 (by omega) (by decide) ?_
  refine z_iconst C (v := (-1 : Int32)) d_LT_toldOfTable_76 (by decide) ?_
  exact z_iret C E (Nat.le_of_ble_eq_true rfl) (Nat.le_of_ble_eq_true rfl) d_LT_toldOfTable_77 hf

theorem c_LT_toldOfTable (N : Nat) {l : Launch} {D : va_G} {T : List (ClassId × FieldType)} (hT : T.map (fun q => q.2) = ztl) {x0 : Nat} {x1 : Int32} {h : zH} {p : Int32 × zH} (hf : f_LT_toldOfTable N x0 x1 h = some p) : zM l y_LT_toldOfTable prog_1_method_25_code 2 (some .int) rm_LT_toldOfTable D T [.ref x0, .int x1] h (some (.int p.1)) p.2 :=
  z_enter (by decide) hT (Nat.le_of_ble_eq_true rfl) (fun X el eD eT hin C E => k_LT_toldOfTable N C E x0 x1 h hf)
