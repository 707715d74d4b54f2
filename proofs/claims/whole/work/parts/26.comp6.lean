/-! ===== LevelTables$Table.holdsAll()Z ===== -/
abbrev y_Table_holdsAll : MethodName := ⟨R_Table, "holdsAll", "()Z"⟩
theorem pd_Table_holdsAll : y_Table_holdsAll.cls ≠ "java/lang/invoke/MethodHandle" ∧ y_Table_holdsAll.cls ≠ "java/lang/invoke/VarHandle" ∧ (parseMethodDescriptor y_Table_holdsAll.desc).map (fun d => d.parameters.length) = some 0 := ⟨by decide +kernel, by decide +kernel, by decide +kernel⟩
abbrev rm_Table_holdsAll : Room := { frames := 4, cells := 0, slots := 0, locals := 96 }
def f_Table_holdsAll (N : Nat) (x0 : Nat) (h : zH) : Option (Int32 × zH) :=
  Option.bind (zck (zis h x0 5) (f_Table_placesHold N x0  h)) fun (p1 : Int32 × zH) =>
  (if p1.1 = 0 then
    zrb (0 : Int32) p1.2
  else
    Option.bind (zck (zis p1.2 x0 5) (f_Table_slopesHold N x0  p1.2)) fun (p2 : Int32 × zH) =>
    (if p2.1 = 0 then
      zrb (0 : Int32) p2.2
    else
      Option.bind (zck (zis p2.2 x0 5) (f_Table_spansHold N x0  p2.2)) fun (p3 : Int32 × zH) =>
      (if p3.1 = 0 then
        zrb (0 : Int32) p3.2
      else
        zrb (1 : Int32) p3.2)))
theorem d_Table_holdsAll_0 : decode prog_8_method_9_code 0 = .ok (.aload_n (0), 1) := by decide +kernel
theorem d_Table_holdsAll_1 : decode prog_8_method_9_code 1 = .ok (.invokevirtual (66), 3) := by decide +kernel
theorem d_Table_holdsAll_4 : decode prog_8_method_9_code 4 = .ok (.ifCond .eq (21), 3) := by decide +kernel
theorem d_Table_holdsAll_7 : decode prog_8_method_9_code 7 = .ok (.aload_n (0), 1) := by decide +kernel
theorem d_Table_holdsAll_8 : decode prog_8_method_9_code 8 = .ok (.invokevirtual (70), 3) := by decide +kernel
theorem d_Table_holdsAll_11 : decode prog_8_method_9_code 11 = .ok (.ifCond .eq (14), 3) := by decide +kernel
theorem d_Table_holdsAll_14 : decode prog_8_method_9_code 14 = .ok (.aload_n (0), 1) := by decide +kernel
theorem d_Table_holdsAll_15 : decode prog_8_method_9_code 15 = .ok (.invokevirtual (73), 3) := by decide +kernel
theorem d_Table_holdsAll_18 : decode prog_8_method_9_code 18 = .ok (.ifCond .eq (7), 3) := by decide +kernel
theorem d_Table_holdsAll_21 : decode prog_8_method_9_code 21 = .ok (.iconst (1), 1) := by decide +kernel
theorem d_Table_holdsAll_22 : decode prog_8_method_9_code 22 = .ok (.goto (4), 3) := by decide +kernel
theorem d_Table_holdsAll_25 : decode prog_8_method_9_code 25 = .ok (.iconst (0), 1) := by decide +kernel
theorem d_Table_holdsAll_26 : decode prog_8_method_9_code 26 = .ok (.ireturn, 1) := by decide +kernel
set_option maxHeartbeats 4000000 in
set_option maxRecDepth 100000 in
theorem k_Table_holdsAll (N : Nat) {X : zX} (C : zB X prog_8_method_9_code 1 R_Table rm_Table_holdsAll) {h0 : zH} {p : Int32 × zH} (E : zR X (some .boolean) rm_Table_holdsAll h0 (some (.int p.1)) p.2) : ∀ (x0 : Nat) (h : zH), f_Table_holdsAll N x0 h = some p → Zt X 1 0 0 0 [(0, .ref x0)] [] h := by
  intro x0 h hf
  unfold f_Table_holdsAll at hf
  refine z_aload_n C 0 d_Table_holdsAll_0 rfl rfl ?_
  obtain ⟨p1, hc, hf⟩ := Option.bind_eq_some_iff.mp hf
  obtain ⟨hz, hc⟩ := zck_some hc
  refine z_callV C (ci := 5) (c_Table_placesHold N C.2.2.1 hc) rfl hz w_713 w_63 w_710 w_712 w_28 pd_Table_placesHold rfl ⟨(Nat.le_of_ble_eq_true rfl), (Nat.le_of_ble_eq_true rfl)⟩ ⟨(Nat.le_of_ble_eq_true rfl), (Nat.le_of_ble_eq_true rfl)⟩ rfl (Nat.le_of_ble_eq_true rfl) d_Table_holdsAll_1 (k' := 0) (n' := 0) (stk' := [.int p1.1]) rfl rfl rfl ?_
  refine z_if_eq (tgt := 25) C d_Table_holdsAll_4 (by decide) hf (fun hf => ?_) (fun hf => ?_)
  · refine z_iconst C (v := (0 : Int32)) d_Table_holdsAll_25 (by decide) ?_
    exact z_zret C E (Nat.le_of_ble_eq_true rfl) (Nat.le_of_ble_eq_true rfl) d_Table_holdsAll_26 hf
  · refine z_aload_n C 0 d_Table_holdsAll_7 rfl rfl ?_
    obtain ⟨p2, hc, hf⟩ := Option.bind_eq_some_iff.mp hf
    obtain ⟨hz, hc⟩ := zck_some hc
    refine z_callV C (ci := 5) (c_Table_slopesHold N C.2.2.1 hc) rfl hz w_719 w_63 w_716 w_718 w_29 pd_Table_slopesHold rfl ⟨(Nat.le_of_ble_eq_true rfl), (Nat.le_of_ble_eq_true rfl)⟩ ⟨(Nat.le_of_ble_eq_true rfl), (Nat.le_of_ble_eq_true rfl)⟩ rfl (Nat.le_of_ble_eq_true rfl) d_Table_holdsAll_8 (k' := 0) (n' := 0) (stk' := [.int p2.1]) rfl rfl rfl ?_
    refine z_if_eq (tgt := 25) C d_Table_holdsAll_11 (by decide) hf (fun hf => ?_) (fun hf => ?_)
    · refine z_iconst C (v := (0 : Int32)) d_Table_holdsAll_25 (by decide) ?_
      exact z_zret C E (Nat.le_of_ble_eq_true rfl) (Nat.le_of_ble_eq_true rfl) d_Table_holdsAll_26 hf
    · refine z_aload_n C 0 d_Table_holdsAll_14 rfl rfl ?_
      obtain ⟨p3, hc, hf⟩ := Option.bind_eq_some_iff.mp hf
      obtain ⟨hz, hc⟩ := zck_some hc
      refine z_callV C (ci := 5) (c_Table_spansHold N C.2.2.1 hc) rfl hz w_725 w_63 w_722 w_724 w_30 pd_Table_spansHold rfl ⟨(Nat.le_of_ble_eq_true rfl), (Nat.le_of_ble_eq_true rfl)⟩ ⟨(Nat.le_of_ble_eq_true rfl), (Nat.le_of_ble_eq_true rfl)⟩ rfl (Nat.le_of_ble_eq_true rfl) d_Table_holdsAll_15 (k' := 0) (n' := 0) (stk' := [.int p3.1]) rfl rfl rfl ?_
      refine z_if_eq (tgt := 25) C d_Table_holdsAll_18 (by decide) hf (fun hf => ?_) (fun hf => ?_)
      · refine z_iconst C (v := (0 : Int32)) d_Table_holdsAll_25 (by decide) ?_
        exact z_zret C E (Nat.le_of_ble_eq_true rfl) (Nat.le_of_ble_eq_true rfl) d_Table_holdsAll_26 hf
      · refine z_iconst C (v := (1 : Int32)) d_Table_holdsAll_21 (by decide) ?_
        refine z_goto (tgt := 26) C d_Table_holdsAll_22 (by decide) ?_
        exact z_zret C E (Nat.le_of_ble_eq_true rfl) (Nat.le_of_ble_eq_true rfl) d_Table_holdsAll_26 hf

theorem c_Table_holdsAll (N : Nat) {l : Launch} {D : va_G} {T : List (ClassId × FieldType)} (hT : T.map (fun q => q.2) = ztl) {x0 : Nat} {h : zH} {p : Int32 × zH} (hf : f_Table_holdsAll N x0 h = some p) : zM l y_Table_holdsAll prog_8_method_9_code 1 (some .boolean) rm_Table_holdsAll D T [.ref x0] h (some (.int p.1)) p.2 :=
  z_enter (by decide) hT (Nat.le_of_ble_eq_true rfl) (fun X el eD eT hin C E => k_Table_holdsAll N C E x0 h hf)
/-! ===== LevelTables$Reach.firstBarred()I ===== -/
abbrev y_Reach_firstBarred : MethodName := ⟨R_Reach, "firstBarred", "()I"⟩
theorem pd_Reach_firstBarred : y_Reach_firstBarred.cls ≠ "java/lang/invoke/MethodHandle" ∧ y_Reach_firstBarred.cls ≠ "java/lang/invoke/VarHandle" ∧ (parseMethodDescriptor y_Reach_firstBarred.desc).map (fun d => d.parameters.length) = some 0 := ⟨by decide +kernel, by decide +kernel, by decide +kernel⟩
abbrev rm_Reach_firstBarred : Room := { frames := 4, cells := 0, slots := 0, locals := 95 }
def b_Reach_firstBarred_11 (N : Nat) (rc11 : Nat → Int32 → zH → Option (Int32 × zH)) (x0 : Nat) (x1 : Int32) (h : zH) : Option (Int32 × zH) :=
  Option.bind (zgR h x0 4 0) fun (v1 : Nat) =>
  Option.bind (zgI h v1 2 0) fun (v2 : Int32) =>
  (if v2 ≤ x1 then
    some ((-1 : Int32), h)
  else
    Option.bind (zck (zis h x0 4) (f_Reach_advance N x0 x1 h)) fun (p3 : Int32 × zH) =>
    (if p3.1 = 0 then
      some ((x1 + (1 : Int32)), p3.2)
    else
      rc11 x0 (x1 + (1 : Int32)) p3.2))
def f_Reach_firstBarred_11 (N : Nat) : Nat → Nat → Int32 → zH → Option (Int32 × zH)
  | 0 => fun _ _ _ => none
  | n + 1 => fun x0 x1 h => b_Reach_firstBarred_11 N (f_Reach_firstBarred_11 N n) x0 x1 h
def f_Reach_firstBarred (N : Nat) (x0 : Nat) (h : zH) : Option (Int32 × zH) :=
  Option.bind (zck (zis h x0 4) (f_Reach_start N x0  h)) fun (p4 : Int32 × zH) =>
  (if p4.1 = 0 then
    some ((0 : Int32), p4.2)
  else
    f_Reach_firstBarred_11 N N x0 (0 : Int32) p4.2)
theorem d_Reach_firstBarred_0 : decode prog_4_method_2_code 0 = .ok (.aload_n (0), 1) := by decide +kernel
theorem d_Reach_firstBarred_1 : decode prog_4_method_2_code 1 = .ok (.invokevirtual (28), 3) := by decide +kernel
theorem d_Reach_firstBarred_4 : decode prog_4_method_2_code 4 = .ok (.ifCond .ne (5), 3) := by decide +kernel
theorem d_Reach_firstBarred_7 : decode prog_4_method_2_code 7 = .ok (.iconst (0), 1) := by decide +kernel
theorem d_Reach_firstBarred_8 : decode prog_4_method_2_code 8 = .ok (.ireturn, 1) := by decide +kernel
theorem d_Reach_firstBarred_9 : decode prog_4_method_2_code 9 = .ok (.iconst (0), 1) := by decide +kernel
theorem d_Reach_firstBarred_10 : decode prog_4_method_2_code 10 = .ok (.istore_n (1), 1) := by decide +kernel
theorem d_Reach_firstBarred_11 : decode prog_4_method_2_code 11 = .ok (.iload_n (1), 1) := by decide +kernel
theorem d_Reach_firstBarred_12 : decode prog_4_method_2_code 12 = .ok (.aload_n (0), 1) := by decide +kernel
theorem d_Reach_firstBarred_13 : decode prog_4_method_2_code 13 = .ok (.getfield (9), 3) := by decide +kernel
theorem d_Reach_firstBarred_16 : decode prog_4_method_2_code 16 = .ok (.getfield (32), 3) := by decide +kernel
theorem d_Reach_firstBarred_19 : decode prog_4_method_2_code 19 = .ok (.if_icmp .ge (21), 3) := by decide +kernel
theorem d_Reach_firstBarred_22 : decode prog_4_method_2_code 22 = .ok (.aload_n (0), 1) := by decide +kernel
theorem d_Reach_firstBarred_23 : decode prog_4_method_2_code 23 = .ok (.iload_n (1), 1) := by decide +kernel
theorem d_Reach_firstBarred_24 : decode prog_4_method_2_code 24 = .ok (.invokevirtual (35), 3) := by decide +kernel
theorem d_Reach_firstBarred_27 : decode prog_4_method_2_code 27 = .ok (.ifCond .ne (7), 3) := by decide +kernel
theorem d_Reach_firstBarred_30 : decode prog_4_method_2_code 30 = .ok (.iload_n (1), 1) := by decide +kernel
theorem d_Reach_firstBarred_31 : decode prog_4_method_2_code 31 = .ok (.iconst (1), 1) := by decide +kernel
theorem d_Reach_firstBarred_32 : decode prog_4_method_2_code 32 = .ok (.iadd, 1) := by decide +kernel
theorem d_Reach_firstBarred_33 : decode prog_4_method_2_code 33 = .ok (.ireturn, 1) := by decide +kernel
theorem d_Reach_firstBarred_34 : decode prog_4_method_2_code 34 = .ok (.iinc (1) (1), 3) := by decide +kernel
theorem d_Reach_firstBarred_37 : decode prog_4_method_2_code 37 = .ok (.goto (-26), 3) := by decide +kernel
theorem d_Reach_firstBarred_40 : decode prog_4_method_2_code 40 = .ok (.iconst (-1), 1) := by decide +kernel
theorem d_Reach_firstBarred_41 : decode prog_4_method_2_code 41 = .ok (.ireturn, 1) := by decide +kernel
set_option maxHeartbeats 4000000 in
set_option maxRecDepth 100000 in
theorem k_Reach_firstBarred_11 (N : Nat) {X : zX} (C : zB X prog_4_method_2_code 2 R_Reach rm_Reach_firstBarred) {h0 : zH} {p : Int32 × zH} (E : zR X (some .int) rm_Reach_firstBarred h0 (some (.int p.1)) p.2) : ∀ n : Nat, ∀ (x0 : Nat) (x1 : Int32) (h : zH), f_Reach_firstBarred_11 N n x0 x1 h = some p → Zt X 2 0 0 11 [(0, .ref x0), (1, .int x1)] [] h := by
  intro n
  induction n with
  | zero => intro x0 x1 h hf; cases hf
  | succ n ih =>
  intro x0 x1 h hf
  have H11 := ih
  replace hf : b_Reach_firstBarred_11 N (f_Reach_firstBarred_11 N n) x0 x1 h = some p := hf
  unfold b_Reach_firstBarred_11 at hf
  refine z_iload_n C 1 d_Reach_firstBarred_11 rfl rfl ?_
  refine z_aload_n C 0 d_Reach_firstBarred_12 rfl rfl ?_
  refine z_getR C 4 0 rfl in_Reach (by decide) w_179 rfl d_Reach_firstBarred_13 hf (fun v1 hf => ?_)
  refine z_getI C 2 0 rfl in_Site (by decide) w_96 rfl d_Reach_firstBarred_16 hf (fun v2 hf => ?_)
  refine z_ic_ge (tgt := 40) C d_Reach_firstBarred_19 (by decide) hf (fun hf => ?_) (fun hf => ?_)
  · refine z_iconst C (v := (-1 : Int32)) d_Reach_firstBarred_40 (by decide) ?_
    exact z_iret C E (Nat.le_of_ble_eq_true rfl) (Nat.le_of_ble_eq_true rfl) d_Reach_firstBarred_41 hf
  · refine z_aload_n C 0 d_Reach_firstBarred_22 rfl rfl ?_
    refine z_iload_n C 1 d_Reach_firstBarred_23 rfl rfl ?_
    obtain ⟨p3, hc, hf⟩ := Option.bind_eq_some_iff.mp hf
    obtain ⟨hz, hc⟩ := zck_some hc
    refine z_callV C (ci := 4) (c_Reach_advance N C.2.2.1 hc) rfl hz w_380 w_62 w_377 w_379 w_2 pd_Reach_advance rfl ⟨(Nat.le_of_ble_eq_true rfl), (Nat.le_of_ble_eq_true rfl)⟩ ⟨(Nat.le_of_ble_eq_true rfl), (Nat.le_of_ble_eq_true rfl)⟩ rfl (Nat.le_of_ble_eq_true rfl) d_Reach_firstBarred_24 (k' := 0) (n' := 0) (stk' := [.int p3.1]) rfl rfl rfl ?_
    refine z_if_ne (tgt := 34) C d_Reach_firstBarred_27 (by decide) hf (fun hf => ?_) (fun hf => ?_)
    · refine z_iinc C (v := (x1 + (1 : Int32))) (lv' := [(1, .int (x1 + (1 : Int32))), (0, .ref x0)]) 1 d_Reach_firstBarred_34 rfl (by rfl) (by decide) rfl ?_
      refine z_goto (tgt := 11) C d_Reach_firstBarred_37 (by decide) ?_
      refine z_sub [1, 0] rfl ?_
      exact H11 _ _ _ hf
    · refine z_iload_n C 1 d_Reach_firstBarred_30 rfl rfl ?_
      refine z_iconst C (v := (1 : Int32)) d_Reach_firstBarred_31 (by decide) ?_
      refine z_iadd C d_Reach_firstBarred_32 ?_
      exact z_iret C E (Nat.le_of_ble_eq_true rfl) (Nat.le_of_ble_eq_true rfl) d_Reach_firstBarred_33 hf

set_option maxHeartbeats 4000000 in
set_option maxRecDepth 100000 in
theorem k_Reach_firstBarred (N : Nat) {X : zX} (C : zB X prog_4_method_2_code 2 R_Reach rm_Reach_firstBarred) {h0 : zH} {p : Int32 × zH} (E : zR X (some .int) rm_Reach_firstBarred h0 (some (.int p.1)) p.2) : ∀ (x0 : Nat) (h : zH), f_Reach_firstBarred N x0 h = some p → Zt X 2 0 0 0 [(0, .ref x0)] [] h := by
  intro x0 h hf
  unfold f_Reach_firstBarred at hf
  refine z_aload_n C 0 d_Reach_firstBarred_0 rfl rfl ?_
  obtain ⟨p4, hc, hf⟩ := Option.bind_eq_some_iff.mp hf
  obtain ⟨hz, hc⟩ := zck_some hc
  refine z_callV C (ci := 4) (c_Reach_start N C.2.2.1 hc) rfl hz w_371 w_62 w_368 w_370 w_1 pd_Reach_start rfl ⟨(Nat.le_of_ble_eq_true rfl), (Nat.le_of_ble_eq_true rfl)⟩ ⟨(Nat.le_of_ble_eq_true rfl), (Nat.le_of_ble_eq_true rfl)⟩ rfl (Nat.le_of_ble_eq_true rfl) d_Reach_firstBarred_1 (k' := 0) (n' := 0) (stk' := [.int p4.1]) rfl rfl rfl ?_
  refine z_if_ne (tgt := 9) C d_Reach_firstBarred_4 (by decide) hf (fun hf => ?_) (fun hf => ?_)
  · refine z_iconst C (v := (0 : Int32)) d_Reach_firstBarred_9 (by decide) ?_
    refine z_istore_n C (lv' := [(1, .int (0 : Int32)), (0, .ref x0)]) d_Reach_firstBarred_10 rfl (by decide) rfl ?_
    refine z_sub [1, 0] rfl ?_
    exact k_Reach_firstBarred_11 N C E N _ _ _ hf
  · refine z_iconst C (v := (0 : Int32)) d_Reach_firstBarred_7 (by decide) ?_
    exact z_iret C E (Nat.le_of_ble_eq_true rfl) (Nat.le_of_ble_eq_true rfl) d_Reach_firstBarred_8 hf

theorem c_Reach_firstBarred (N : Nat) {l : Launch} {D : va_G} {T : List (ClassId × FieldType)} (hT : T.map (fun q => q.2) = ztl) {x0 : Nat} {h : zH} {p : Int32 × zH} (hf : f_Reach_firstBarred N x0 h = some p) : zM l y_Reach_firstBarred prog_4_method_2_code 2 (some .int) rm_Reach_firstBarred D T [.ref x0] h (some (.int p.1)) p.2 :=
  z_enter (by decide) hT (Nat.le_of_ble_eq_true rfl) (fun X el eD eT hin C E => k_Reach_firstBarred N C E x0 h hf)
/-! ===== LevelTables$Search.fillLeaving(II)V ===== -/
abbrev y_Search_fillLeaving : MethodName := ⟨R_Search, "fillLeaving", "(II)V"⟩
theorem pd_Search_fillLeaving : y_Search_fillLeaving.cls ≠ "java/lang/invoke/MethodHandle" ∧ y_Search_fillLeaving.cls ≠ "java/lang/invoke/VarHandle" ∧ (parseMethodDescriptor y_Search_fillLeaving.desc).map (fun d => d.parameters.length) = some 2 := ⟨by decide +kernel, by decide +kernel, by decide +kernel⟩
abbrev rm_Search_fillLeaving : Room := { frames := 3, cells := 0, slots := 0, locals := 85 }
def f_Search_fillLeaving_76 (N : Nat) (rc39 : Nat → Int32 → Int32 → Int32 → Int32 → Int32 → zH → Option (Unit × zH)) (x0 : Nat) (x1 : Int32) (x2 : Int32) (x3 : Int32) (x4 : Int32) (x5 : Int32) (h : zH) : Option (Unit × zH) :=
  rc39 x0 x1 x2 x3 x4 (x5 + (1 : Int32)) h
def b_Search_fillLeaving_39 (N : Nat) (rc39 : Nat → Int32 → Int32 → Int32 → Int32 → Int32 → zH → Option (Unit × zH)) (x0 : Nat) (x1 : Int32) (x2 : Int32) (x3 : Int32) (x4 : Int32) (x5 : Int32) (h : zH) : Option (Unit × zH) :=
  (if x4 < x5 then
    some ((), h)
  else
    Option.bind (zgR h x0 8 0) fun (v1 : Nat) =>
    Option.bind (zck (zis h v1 2) (f_Site_slopeFits N v1 (x5 - x2) h)) fun (p2 : Int32 × zH) =>
    (if p2.1 = 0 then
      f_Search_fillLeaving_76 N rc39 x0 x1 x2 x3 x4 x5 p2.2
    else
      Option.bind (zck (zis p2.2 x0 8) (f_Search_addStep N x0 x1 x2 x5 p2.2)) fun (p3 : Unit × zH) =>
      Option.bind (zck (zis p3.2 x0 8) (f_Search_addSpan N x0 x3 x2 x5 p3.2)) fun (p4 : Unit × zH) =>
      f_Search_fillLeaving_76 N rc39 x0 x1 x2 x3 x4 x5 p4.2))
def f_Search_fillLeaving_39 (N : Nat) : Nat → Nat → Int32 → Int32 → Int32 → Int32 → Int32 → zH → Option (Unit × zH)
  | 0 => fun _ _ _ _ _ _ _ => none
  | n + 1 => fun x0 x1 x2 x3 x4 x5 h => b_Search_fillLeaving_39 N (f_Search_fillLeaving_39 N n) x0 x1 x2 x3 x4 x5 h
def f_Search_fillLeaving (N : Nat) (x0 : Nat) (x1 : Int32) (x2 : Int32) (h : zH) : Option (Unit × zH) :=
  Option.bind (zgR h x0 8 8) fun (v5 : Nat) =>
  Option.bind (f_Arrays_fill_AJJV N v5 (1152921504606846976 : Int64) h) fun (p6 : Unit × zH) =>
  Option.bind (zgR p6.2 x0 8 1) fun (v7 : Nat) =>
  Option.bind (zck (zis p6.2 v7 3) (f_Spans_startingAt N v7 x1 p6.2)) fun (p8 : Int32 × zH) =>
  Option.bind (zgR p8.2 x0 8 0) fun (v9 : Nat) =>
  Option.bind (zck (zis p8.2 v9 2) (f_Site_highestNear N v9 x2 p8.2)) fun (p10 : Int32 × zH) =>
  Option.bind (zgR p10.2 x0 8 0) fun (v11 : Nat) =>
  Option.bind (zck (zis p10.2 v11 2) (f_Site_lowestNear N v11 x2 p10.2)) fun (p12 : Int32 × zH) =>
  f_Search_fillLeaving_39 N N x0 x1 x2 p8.1 p10.1 p12.1 p12.2
theorem d_Search_fillLeaving_0 : decode prog_5_method_13_code 0 = .ok (.aload_n (0), 1) := by decide +kernel
theorem d_Search_fillLeaving_1 : decode prog_5_method_13_code 1 = .ok (.getfield (55), 3) := by decide +kernel
theorem d_Search_fillLeaving_4 : decode prog_5_method_13_code 4 = .ok (.ldc2_w (78), 3) := by decide +kernel
theorem d_Search_fillLeaving_7 : decode prog_5_method_13_code 7 = .ok (.invokestatic (92), 3) := by decide +kernel
theorem d_Search_fillLeaving_10 : decode prog_5_method_13_code 10 = .ok (.aload_n (0), 1) := by decide +kernel
theorem d_Search_fillLeaving_11 : decode prog_5_method_13_code 11 = .ok (.getfield (19), 3) := by decide +kernel
theorem d_Search_fillLeaving_14 : decode prog_5_method_13_code 14 = .ok (.iload_n (1), 1) := by decide +kernel
theorem d_Search_fillLeaving_15 : decode prog_5_method_13_code 15 = .ok (.invokevirtual (149), 3) := by decide +kernel
theorem d_Search_fillLeaving_18 : decode prog_5_method_13_code 18 = .ok (.istore_n (3), 1) := by decide +kernel
theorem d_Search_fillLeaving_19 : decode prog_5_method_13_code 19 = .ok (.aload_n (0), 1) := by decide +kernel
theorem d_Search_fillLeaving_20 : decode prog_5_method_13_code 20 = .ok (.getfield (15), 3) := by decide +kernel
theorem d_Search_fillLeaving_23 : decode prog_5_method_13_code 23 = .ok (.iload_n (2), 1) := by decide +kernel
theorem d_Search_fillLeaving_24 : decode prog_5_method_13_code 24 = .ok (.invokevirtual (117), 3) := by decide +kernel
theorem d_Search_fillLeaving_27 : decode prog_5_method_13_code 27 = .ok (.istore (4), 2) := by decide +kernel
theorem d_Search_fillLeaving_29 : decode prog_5_method_13_code 29 = .ok (.aload_n (0), 1) := by decide +kernel
theorem d_Search_fillLeaving_30 : decode prog_5_method_13_code 30 = .ok (.getfield (15), 3) := by decide +kernel
theorem d_Search_fillLeaving_33 : decode prog_5_method_13_code 33 = .ok (.iload_n (2), 1) := by decide +kernel
theorem d_Search_fillLeaving_34 : decode prog_5_method_13_code 34 = .ok (.invokevirtual (120), 3) := by decide +kernel
theorem d_Search_fillLeaving_37 : decode prog_5_method_13_code 37 = .ok (.istore (5), 2) := by decide +kernel
theorem d_Search_fillLeaving_39 : decode prog_5_method_13_code 39 = .ok (.iload (5), 2) := by decide +kernel
theorem d_Search_fillLeaving_41 : decode prog_5_method_13_code 41 = .ok (.iload (4), 2) := by decide +kernel
theorem d_Search_fillLeaving_43 : decode prog_5_method_13_code 43 = .ok (.if_icmp .gt (39), 3) := by decide +kernel
theorem d_Search_fillLeaving_46 : decode prog_5_method_13_code 46 = .ok (.aload_n (0), 1) := by decide +kernel
theorem d_Search_fillLeaving_47 : decode prog_5_method_13_code 47 = .ok (.getfield (15), 3) := by decide +kernel
theorem d_Search_fillLeaving_50 : decode prog_5_method_13_code 50 = .ok (.iload (5), 2) := by decide +kernel
theorem d_Search_fillLeaving_52 : decode prog_5_method_13_code 52 = .ok (.iload_n (2), 1) := by decide +kernel
theorem d_Search_fillLeaving_53 : decode prog_5_method_13_code 53 = .ok (.isub, 1) := by decide +kernel
theorem d_Search_fillLeaving_54 : decode prog_5_method_13_code 54 = .ok (.invokevirtual (123), 3) := by decide +kernel
theorem d_Search_fillLeaving_57 : decode prog_5_method_13_code 57 = .ok (.ifCond .eq (19), 3) := by decide +kernel
theorem d_Search_fillLeaving_60 : decode prog_5_method_13_code 60 = .ok (.aload_n (0), 1) := by decide +kernel
theorem d_Search_fillLeaving_61 : decode prog_5_method_13_code 61 = .ok (.iload_n (1), 1) := by decide +kernel
theorem d_Search_fillLeaving_62 : decode prog_5_method_13_code 62 = .ok (.iload_n (2), 1) := by decide +kernel
theorem d_Search_fillLeaving_63 : decode prog_5_method_13_code 63 = .ok (.iload (5), 2) := by decide +kernel
theorem d_Search_fillLeaving_65 : decode prog_5_method_13_code 65 = .ok (.invokevirtual (152), 3) := by decide +kernel
theorem d_Search_fillLeaving_68 : decode prog_5_method_13_code 68 = .ok (.aload_n (0), 1) := by decide +kernel
theorem d_Search_fillLeaving_69 : decode prog_5_method_13_code 69 = .ok (.iload_n (3), 1) := by decide +kernel
theorem d_Search_fillLeaving_70 : decode prog_5_method_13_code 70 = .ok (.iload_n (2), 1) := by decide +kernel
theorem d_Search_fillLeaving_71 : decode prog_5_method_13_code 71 = .ok (.iload (5), 2) := by decide +kernel
theorem d_Search_fillLeaving_73 : decode prog_5_method_13_code 73 = .ok (.invokevirtual (156), 3) := by decide +kernel
theorem d_Search_fillLeaving_76 : decode prog_5_method_13_code 76 = .ok (.iinc (5) (1), 3) := by decide +kernel
theorem d_Search_fillLeaving_79 : decode prog_5_method_13_code 79 = .ok (.goto (-40), 3) := by decide +kernel
theorem d_Search_fillLeaving_82 : decode prog_5_method_13_code 82 = .ok (.return_, 1) := by decide +kernel
set_option maxHeartbeats 4000000 in
set_option maxRecDepth 100000 in
theorem k_Search_fillLeaving_76 (N : Nat) {X : zX} (C : zB X prog_5_method_13_code 6 R_Search rm_Search_fillLeaving) {h0 : zH} {p : Unit × zH} (E : zR X none rm_Search_fillLeaving h0 none p.2) {rc39 : Nat → Int32 → Int32 → Int32 → Int32 → Int32 → zH → Option (Unit × zH)} (H39 : ∀ (x0 : Nat) (x1 : Int32) (x2 : Int32) (x3 : Int32) (x4 : Int32) (x5 : Int32) (h : zH), rc39 x0 x1 x2 x3 x4 x5 h = some p → Zt X 6 0 0 39 [(0, .ref x0), (1, .int x1), (2, .int x2), (3, .int x3), (4, .int x4), (5, .int x5)] [] h) : ∀ (x0 : Nat) (x1 : Int32) (x2 : Int32) (x3 : Int32) (x4 : Int32) (x5 : Int32) (h : zH), f_Search_fillLeaving_76 N rc39 x0 x1 x2 x3 x4 x5 h = some p → Zt X 6 0 0 76 [(0, .ref x0), (1, .int x1), (2, .int x2), (3, .int x3), (4, .int x4), (5, .int x5)] [] h := by
  intro x0 x1 x2 x3 x4 x5 h hf
  unfold f_Search_fillLeaving_76 at hf
  refine z_iinc C (v := (x5 + (1 : Int32))) (lv' := [(5, .int (x5 + (1 : Int32))), (0, .ref x0), (1, .int x1), (2, .int x2), (3, .int x3), (4, .int x4)]) 5 d_Search_fillLeaving_76 rfl (by rfl) (by decide) rfl ?_
  refine z_goto (tgt := 39) C d_Search_fillLeaving_79 (by decide) ?_
  refine z_sub [1, 2, 3, 4, 5, 0] rfl ?_
  exact H39 _ _ _ _ _ _ _ hf

set_option maxHeartbeats 4000000 in
set_option maxRecDepth 100000 in
theorem k_Search_fillLeaving_39 (N : Nat) {X : zX} (C : zB X prog_5_method_13_code 6 R_Search rm_Search_fillLeaving) {h0 : zH} {p : Unit × zH} (E : zR X none rm_Search_fillLeaving h0 none p.2) : ∀ n : Nat, ∀ (x0 : Nat) (x1 : Int32) (x2 : Int32) (x3 : Int32) (x4 : Int32) (x5 : Int32) (h : zH), f_Search_fillLeaving_39 N n x0 x1 x2 x3 x4 x5 h = some p → Zt X 6 0 0 39 [(0, .ref x0), (1, .int x1), (2, .int x2), (3, .int x3), (4, .int x4), (5, .int x5)] [] h := by
  intro n
  induction n with
  | zero => intro x0 x1 x2 x3 x4 x5 h hf; cases hf
  | succ n ih =>
  intro x0 x1 x2 x3 x4 x5 h hf
  have H39 := ih
  replace hf : b_Search_fillLeaving_39 N (f_Search_fillLeaving_39 N n) x0 x1 x2 x3 x4 x5 h = some p := hf
  unfold b_Search_fillLeaving_39 at hf
  refine z_iload C 5 d_Search_fillLeaving_39 rfl ?_
  refine z_iload C 4 d_Search_fillLeaving_41 rfl ?_
  refine z_ic_gt (tgt := 82) C d_Search_fillLeaving_43 (by decide) hf (fun hf => ?_) (fun hf => ?_)
  · exact z_vret C E (Nat.le_of_ble_eq_true rfl) (Nat.le_of_ble_eq_true rfl) d_Search_fillLeaving_82 hf
  · refine z_aload_n C 0 d_Search_fillLeaving_46 rfl rfl ?_
    refine z_getR C 8 0 rfl in_Search (by decide) w_422 rfl d_Search_fillLeaving_47 hf (fun v1 hf => ?_)
    refine z_iload C 5 d_Search_fillLeaving_50 rfl ?_
    refine z_iload_n C 2 d_Search_fillLeaving_52 rfl rfl ?_
    refine z_isub C d_Search_fillLeaving_53 ?_
    obtain ⟨p2, hc, hf⟩ := Option.bind_eq_some_iff.mp hf
    obtain ⟨hz, hc⟩ := zck_some hc
    refine z_callV C (ci := 2) (c_Site_slopeFits N C.2.2.1 hc) rfl hz w_405 w_59 w_485 w_403 w_404 pd_Site_slopeFits rfl ⟨(Nat.le_of_ble_eq_true rfl), (Nat.le_of_ble_eq_true rfl)⟩ ⟨(Nat.le_of_ble_eq_true rfl), (Nat.le_of_ble_eq_true rfl)⟩ rfl (Nat.le_of_ble_eq_true rfl) d_Search_fillLeaving_54 (k' := 0) (n' := 0) (stk' := [.int p2.1]) rfl rfl rfl ?_
    refine z_if_eq (tgt := 76) C d_Search_fillLeaving_57 (by decide) hf (fun hf => ?_) (fun hf => ?_)
    · refine z_sub [0, 1, 2, 3, 4, 5] rfl ?_
      exact k_Search_fillLeaving_76 N C E H39 _ _ _ _ _ _ _ hf
    · refine z_aload_n C 0 d_Search_fillLeaving_60 rfl rfl ?_
      refine z_iload_n C 1 d_Search_fillLeaving_61 rfl rfl ?_
      refine z_iload_n C 2 d_Search_fillLeaving_62 rfl rfl ?_
      refine z_iload C 5 d_Search_fillLeaving_63 rfl ?_
      obtain ⟨p3, hc, hf⟩ := Option.bind_eq_some_iff.mp hf
      obtain ⟨hz, hc⟩ := zck_some hc
      refine z_callV C (ci := 8) (c_Search_addStep N C.2.2.1 hc) rfl hz w_501 w_67 w_498 w_500 w_12 pd_Search_addStep rfl ⟨(Nat.le_of_ble_eq_true rfl), (Nat.le_of_ble_eq_true rfl)⟩ ⟨(Nat.le_of_ble_eq_true rfl), (Nat.le_of_ble_eq_true rfl)⟩ rfl (Nat.le_of_ble_eq_true rfl) d_Search_fillLeaving_65 (k' := 0) (n' := 0) (stk' := []) rfl rfl rfl ?_
      refine z_aload_n C 0 d_Search_fillLeaving_68 rfl rfl ?_
      refine z_iload_n C 3 d_Search_fillLeaving_69 rfl rfl ?_
      refine z_iload_n C 2 d_Search_fillLeaving_70 rfl rfl ?_
      refine z_iload C 5 d_Search_fillLeaving_71 rfl ?_
      obtain ⟨p4, hc, hf⟩ := Option.bind_eq_some_iff.mp hf
      obtain ⟨hz, hc⟩ := zck_some hc
      refine z_callV C (ci := 8) (c_Search_addSpan N C.2.2.1 hc) rfl hz w_514 w_67 w_511 w_513 w_15 pd_Search_addSpan rfl ⟨(Nat.le_of_ble_eq_true rfl), (Nat.le_of_ble_eq_true rfl)⟩ ⟨(Nat.le_of_ble_eq_true rfl), (Nat.le_of_ble_eq_true rfl)⟩ rfl (Nat.le_of_ble_eq_true rfl) d_Search_fillLeaving_73 (k' := 0) (n' := 0) (stk' := []) rfl rfl rfl ?_
      refine z_sub [0, 1, 2, 3, 4, 5] rfl ?_
      exact k_Search_fillLeaving_76 N C E H39 _ _ _ _ _ _ _ hf

set_option maxHeartbeats 4000000 in
set_option maxRecDepth 100000 in
theorem k_Search_fillLeaving (N : Nat) {X : zX} (C : zB X prog_5_method_13_code 6 R_Search rm_Search_fillLeaving) {h0 : zH} {p : Unit × zH} (E : zR X none rm_Search_fillLeaving h0 none p.2) : ∀ (x0 : Nat) (x1 : Int32) (x2 : Int32) (h : zH), f_Search_fillLeaving N x0 x1 x2 h = some p → Zt X 6 0 0 0 [(0, .ref x0), (1, .int x1), (2, .int x2)] [] h := by
  intro x0 x1 x2 h hf
  unfold f_Search_fillLeaving at hf
  refine z_aload_n C 0 d_Search_fillLeaving_0 rfl rfl ?_
  refine z_getR C 8 8 rfl in_Search (by decide) w_430 rfl d_Search_fillLeaving_1 hf (fun v5 hf => ?_)
  refine z_ldc2 C d_Search_fillLeaving_4 w_468 ?_
  obtain ⟨p6, hc, hf⟩ := Option.bind_eq_some_iff.mp hf
  refine z_callS C (c_Arrays_fill_AJJV N C.2.2.1 hc) w_383 w_60 w_469 w_382 pd_Arrays_fill_AJJV rfl ⟨(Nat.le_of_ble_eq_true rfl), (Nat.le_of_ble_eq_true rfl)⟩ ⟨(Nat.le_of_ble_eq_true rfl), (Nat.le_of_ble_eq_true rfl)⟩ rfl (Nat.le_of_ble_eq_true rfl) d_Search_fillLeaving_7 (k' := 0) (n' := 0) (stk' := []) rfl rfl rfl ?_
  refine z_aload_n C 0 d_Search_fillLeaving_10 rfl rfl ?_
  refine z_getR C 8 1 rfl in_Search (by decide) w_423 rfl d_Search_fillLeaving_11 hf (fun v7 hf => ?_)
  refine z_iload_n C 1 d_Search_fillLeaving_14 rfl rfl ?_
  obtain ⟨p8, hc, hf⟩ := Option.bind_eq_some_iff.mp hf
  obtain ⟨hz, hc⟩ := zck_some hc
  refine z_callV C (ci := 3) (c_Spans_startingAt N C.2.2.1 hc) rfl hz w_497 w_61 w_494 w_495 w_496 pd_Spans_startingAt rfl ⟨(Nat.le_of_ble_eq_true rfl), (Nat.le_of_ble_eq_true rfl)⟩ ⟨(Nat.le_of_ble_eq_true rfl), (Nat.le_of_ble_eq_true rfl)⟩ rfl (Nat.le_of_ble_eq_true rfl) d_Search_fillLeaving_15 (k' := 0) (n' := 0) (stk' := [.int p8.1]) rfl rfl rfl ?_
  refine z_istore_n C (lv' := [(3, .int p8.1), (0, .ref x0), (1, .int x1), (2, .int x2)]) d_Search_fillLeaving_18 rfl (by decide) rfl ?_
  refine z_aload_n C 1 d_Search_fillLeaving_19 rfl rfl ?_
  refine z_getR C 8 0 rfl in_Search (by decide) w_422 rfl d_Search_fillLeaving_20 hf (fun v9 hf => ?_)
  refine z_iload_n C 3 d_Search_fillLeaving_23 rfl rfl ?_
  obtain ⟨p10, hc, hf⟩ := Option.bind_eq_some_iff.mp hf
  obtain ⟨hz, hc⟩ := zck_some hc
  refine z_callV C (ci := 2) (c_Site_highestNear N C.2.2.1 hc) rfl hz w_391 w_59 w_483 w_389 w_390 pd_Site_highestNear rfl ⟨(Nat.le_of_ble_eq_true rfl), (Nat.le_of_ble_eq_true rfl)⟩ ⟨(Nat.le_of_ble_eq_true rfl), (Nat.le_of_ble_eq_true rfl)⟩ rfl (Nat.le_of_ble_eq_true rfl) d_Search_fillLeaving_24 (k' := 0) (n' := 0) (stk' := [.int p10.1]) rfl rfl rfl ?_
  refine z_istore C (lv' := [(4, .int p10.1), (3, .int p8.1), (0, .ref x0), (1, .int x1), (2, .int x2)]) d_Search_fillLeaving_27 (by decide) rfl ?_
  refine z_aload_n C 2 d_Search_fillLeaving_29 rfl rfl ?_
  refine z_getR C 8 0 rfl in_Search (by decide) w_422 rfl d_Search_fillLeaving_30 hf (fun v11 hf => ?_)
  refine z_iload_n C 4 d_Search_fillLeaving_33 rfl rfl ?_
  obtain ⟨p12, hc, hf⟩ := Option.bind_eq_some_iff.mp hf
  obtain ⟨hz, hc⟩ := zck_some hc
  refine z_callV C (ci := 2) (c_Site_lowestNear N C.2.2.1 hc) rfl hz w_396 w_59 w_484 w_394 w_395 pd_Site_lowestNear rfl ⟨(Nat.le_of_ble_eq_true rfl), (Nat.le_of_ble_eq_true rfl)⟩ ⟨(Nat.le_of_ble_eq_true rfl), (Nat.le_of_ble_eq_true rfl)⟩ rfl (Nat.le_of_ble_eq_true rfl) d_Search_fillLeaving_34 (k' := 0) (n' := 0) (stk' := [.int p12.1]) rfl rfl rfl ?_
  refine z_istore C (lv' := [(5, .int p12.1), (4, .int p10.1), (3, .int p8.1), (0, .ref x0), (1, .int x1), (2, .int x2)]) d_Search_fillLeaving_37 (by decide) rfl ?_
  refine z_sub [3, 4, 5, 2, 1, 0] rfl ?_
  exact k_Search_fillLeaving_39 N C E N _ _ _ _ _ _ _ hf

theorem c_Search_fillLeaving (N : Nat) {l : Launch} {D : va_G} {T : List (ClassId × FieldType)} (hT : T.map (fun q => q.2) = ztl) {x0 : Nat} {x1 : Int32} {x2 : Int32} {h : zH} {p : Unit × zH} (hf : f_Search_fillLeaving N x0 x1 x2 h = some p) : zM l y_Search_fillLeaving prog_5_method_13_code 6 none rm_Search_fillLeaving D T [.ref x0, .int x1, .int x2] h none p.2 :=
  z_enter (by decide) hT (Nat.le_of_ble_eq_true rfl) (fun X el eD eT hin C E => k_Search_fillLeaving N C E x0 x1 x2 h hf)
/-! ===== LevelTables$Search.fillLeast()V ===== -/
abbrev y_Search_fillLeast : MethodName := ⟨R_Search, "fillLeast", "()V"⟩
theorem pd_Search_fillLeast : y_Search_fillLeast.cls ≠ "java/lang/invoke/MethodHandle" ∧ y_Search_fillLeast.cls ≠ "java/lang/invoke/VarHandle" ∧ (parseMethodDescriptor y_Search_fillLeast.desc).map (fun d => d.parameters.length) = some 0 := ⟨by decide +kernel, by decide +kernel, by decide +kernel⟩
abbrev rm_Search_fillLeast : Room := { frames := 4, cells := 0, slots := 0, locals := 110 }
def f_Search_fillLeast_89 (N : Nat) (rc12 : Nat → Int32 → zH → Option (Unit × zH)) (x0 : Nat) (x1 : Int32) (h : zH) : Option (Unit × zH) :=
  rc12 x0 (x1 + (1 : Int32)) h
def b_Search_fillLeast_12 (N : Nat) (rc12 : Nat → Int32 → zH → Option (Unit × zH)) (x0 : Nat) (x1 : Int32) (h : zH) : Option (Unit × zH) :=
  Option.bind (zgI h x0 8 2) fun (v1 : Int32) =>
  (if v1 ≤ x1 then
    some ((), h)
  else
    Option.bind (zgR h x0 8 0) fun (v2 : Nat) =>
    Option.bind (zck (zis h v2 2) (f_Site_allows N v2 (0 : Int32) x1 h)) fun (p3 : Int32 × zH) =>
    (if p3.1 = 0 then
      f_Search_fillLeast_89 N rc12 x0 x1 p3.2
    else
      Option.bind (zgR p3.2 x0 8 9) fun (v4 : Nat) =>
      Option.bind (zaJ p3.2 1 v4 (0 : Int32)) fun (v5 : Int64) =>
      Option.bind (zck (zis p3.2 x0 8) (f_Search_fillLeaving N x0 (0 : Int32) x1 p3.2)) fun (p6 : Unit × zH) =>
      Option.bind (zgR p6.2 x0 8 9) fun (v7 : Nat) =>
      Option.bind (zgR p6.2 x0 8 0) fun (v8 : Nat) =>
      Option.bind (zck (zis p6.2 v8 2) (f_Site_lowestNear N v8 x1 p6.2)) fun (p9 : Int32 × zH) =>
      Option.bind (zgR p9.2 x0 8 0) fun (v10 : Nat) =>
      Option.bind (zck (zis p9.2 v10 2) (f_Site_highestNear N v10 x1 p9.2)) fun (p11 : Int32 × zH) =>
      Option.bind (zck (zis p11.2 x0 8) (f_Search_gather N x0 v7 (0 : Int32) p9.1 p11.1 p11.2)) fun (p12 : Unit × zH) =>
      Option.bind (zgR p12.2 x0 8 9) fun (v13 : Nat) =>
      Option.bind (zaJ p12.2 1 v13 (0 : Int32)) fun (v14 : Int64) =>
      (if 0 ≤ (lg_cmp v14 v5) then
        f_Search_fillLeast_89 N rc12 x0 x1 p12.2
      else
        Option.bind (zp p12.2 x0 8 10 (.int x1)) fun (h15 : zH) =>
        f_Search_fillLeast_89 N rc12 x0 x1 h15)))
def f_Search_fillLeast_12 (N : Nat) : Nat → Nat → Int32 → zH → Option (Unit × zH)
  | 0 => fun _ _ _ => none
  | n + 1 => fun x0 x1 h => b_Search_fillLeast_12 N (f_Search_fillLeast_12 N n) x0 x1 h
def f_Search_fillLeast (N : Nat) (x0 : Nat) (h : zH) : Option (Unit × zH) :=
  Option.bind (zgR h x0 8 9) fun (v16 : Nat) =>
  Option.bind (f_Arrays_fill_AJJV N v16 (1152921504606846976 : Int64) h) fun (p17 : Unit × zH) =>
  f_Search_fillLeast_12 N N x0 (0 : Int32) p17.2
theorem d_Search_fillLeast_0 : decode prog_5_method_12_code 0 = .ok (.aload_n (0), 1) := by decide +kernel
theorem d_Search_fillLeast_1 : decode prog_5_method_12_code 1 = .ok (.getfield (59), 3) := by decide +kernel
theorem d_Search_fillLeast_4 : decode prog_5_method_12_code 4 = .ok (.ldc2_w (78), 3) := by decide +kernel
theorem d_Search_fillLeast_7 : decode prog_5_method_12_code 7 = .ok (.invokestatic (92), 3) := by decide +kernel
theorem d_Search_fillLeast_10 : decode prog_5_method_12_code 10 = .ok (.iconst (0), 1) := by decide +kernel
theorem d_Search_fillLeast_11 : decode prog_5_method_12_code 11 = .ok (.istore_n (1), 1) := by decide +kernel
theorem d_Search_fillLeast_12 : decode prog_5_method_12_code 12 = .ok (.iload_n (1), 1) := by decide +kernel
theorem d_Search_fillLeast_13 : decode prog_5_method_12_code 13 = .ok (.aload_n (0), 1) := by decide +kernel
theorem d_Search_fillLeast_14 : decode prog_5_method_12_code 14 = .ok (.getfield (31), 3) := by decide +kernel
theorem d_Search_fillLeast_17 : decode prog_5_method_12_code 17 = .ok (.if_icmp .ge (78), 3) := by decide +kernel
theorem d_Search_fillLeast_20 : decode prog_5_method_12_code 20 = .ok (.aload_n (0), 1) := by decide +kernel
theorem d_Search_fillLeast_21 : decode prog_5_method_12_code 21 = .ok (.getfield (15), 3) := by decide +kernel
theorem d_Search_fillLeast_24 : decode prog_5_method_12_code 24 = .ok (.iconst (0), 1) := by decide +kernel
theorem d_Search_fillLeast_25 : decode prog_5_method_12_code 25 = .ok (.iload_n (1), 1) := by decide +kernel
theorem d_Search_fillLeast_26 : decode prog_5_method_12_code 26 = .ok (.invokevirtual (98), 3) := by decide +kernel
theorem d_Search_fillLeast_29 : decode prog_5_method_12_code 29 = .ok (.ifCond .ne (6), 3) := by decide +kernel
theorem d_Search_fillLeast_32 : decode prog_5_method_12_code 32 = .ok (.goto (57), 3) := by decide +kernel
theorem d_Search_fillLeast_35 : decode prog_5_method_12_code 35 = .ok (.aload_n (0), 1) := by decide +kernel
theorem d_Search_fillLeast_36 : decode prog_5_method_12_code 36 = .ok (.getfield (59), 3) := by decide +kernel
theorem d_Search_fillLeast_39 : decode prog_5_method_12_code 39 = .ok (.iconst (0), 1) := by decide +kernel
theorem d_Search_fillLeast_40 : decode prog_5_method_12_code 40 = .ok (.laload, 1) := by decide +kernel
theorem d_Search_fillLeast_41 : decode prog_5_method_12_code 41 = .ok (.lstore_n (2), 1) := by decide +kernel
theorem d_Search_fillLeast_42 : decode prog_5_method_12_code 42 = .ok (.aload_n (0), 1) := by decide +kernel
theorem d_Search_fillLeast_43 : decode prog_5_method_12_code 43 = .ok (.iconst (0), 1) := by decide +kernel
theorem d_Search_fillLeast_44 : decode prog_5_method_12_code 44 = .ok (.iload_n (1), 1) := by decide +kernel
theorem d_Search_fillLeast_45 : decode prog_5_method_12_code 45 = .ok (.invokevirtual (106), 3) := by decide +kernel
theorem d_Search_fillLeast_48 : decode prog_5_method_12_code 48 = .ok (.aload_n (0), 1) := by decide +kernel
theorem d_Search_fillLeast_49 : decode prog_5_method_12_code 49 = .ok (.aload_n (0), 1) := by decide +kernel
theorem d_Search_fillLeast_50 : decode prog_5_method_12_code 50 = .ok (.getfield (59), 3) := by decide +kernel
theorem d_Search_fillLeast_53 : decode prog_5_method_12_code 53 = .ok (.iconst (0), 1) := by decide +kernel
theorem d_Search_fillLeast_54 : decode prog_5_method_12_code 54 = .ok (.aload_n (0), 1) := by decide +kernel
theorem d_Search_fillLeast_55 : decode prog_5_method_12_code 55 = .ok (.getfield (15), 3) := by decide +kernel
theorem d_Search_fillLeast_58 : decode prog_5_method_12_code 58 = .ok (.iload_n (1), 1) := by decide +kernel
theorem d_Search_fillLeast_59 : decode prog_5_method_12_code 59 = .ok (.invokevirtual (120), 3) := by decide +kernel
theorem d_Search_fillLeast_62 : decode prog_5_method_12_code 62 = .ok (.aload_n (0), 1) := by decide +kernel
theorem d_Search_fillLeast_63 : decode prog_5_method_12_code 63 = .ok (.getfield (15), 3) := by decide +kernel
theorem d_Search_fillLeast_66 : decode prog_5_method_12_code 66 = .ok (.iload_n (1), 1) := by decide +kernel
theorem d_Search_fillLeast_67 : decode prog_5_method_12_code 67 = .ok (.invokevirtual (117), 3) := by decide +kernel
theorem d_Search_fillLeast_70 : decode prog_5_method_12_code 70 = .ok (.invokevirtual (141), 3) := by decide +kernel
theorem d_Search_fillLeast_73 : decode prog_5_method_12_code 73 = .ok (.aload_n (0), 1) := by decide +kernel
theorem d_Search_fillLeast_74 : decode prog_5_method_12_code 74 = .ok (.getfield (59), 3) := by decide +kernel
theorem d_Search_fillLeast_77 : decode prog_5_method_12_code 77 = .ok (.iconst (0), 1) := by decide +kernel
theorem d_Search_fillLeast_78 : decode prog_5_method_12_code 78 = .ok (.laload, 1) := by decide +kernel
theorem d_Search_fillLeast_79 : decode prog_5_method_12_code 79 = .ok (.lload_n (2), 1) := by decide +kernel
theorem d_Search_fillLeast_80 : decode prog_5_method_12_code 80 = .ok (.lcmp, 1) := by decide +kernel
theorem d_Search_fillLeast_81 : decode prog_5_method_12_code 81 = .ok (.ifCond .ge (8), 3) := by decide +kernel
theorem d_Search_fillLeast_84 : decode prog_5_method_12_code 84 = .ok (.aload_n (0), 1) := by decide +kernel
theorem d_Search_fillLeast_85 : decode prog_5_method_12_code 85 = .ok (.iload_n (1), 1) := by decide +kernel
theorem d_Search_fillLeast_86 : decode prog_5_method_12_code 86 = .ok (.putfield (9), 3) := by decide +kernel
theorem d_Search_fillLeast_89 : decode prog_5_method_12_code 89 = .ok (.iinc (1) (1), 3) := by decide +kernel
theorem d_Search_fillLeast_92 : decode prog_5_method_12_code 92 = .ok (.goto (-80), 3) := by decide +kernel
theorem d_Search_fillLeast_95 : decode prog_5_method_12_code 95 = .ok (.return_, 1) := by decide +kernel
set_option maxHeartbeats 4000000 in
set_option maxRecDepth 100000 in
theorem k_Search_fillLeast_89 (N : Nat) {X : zX} (C : zB X prog_5_method_12_code 4 R_Search rm_Search_fillLeast) {h0 : zH} {p : Unit × zH} (E : zR X none rm_Search_fillLeast h0 none p.2) {rc12 : Nat → Int32 → zH → Option (Unit × zH)} (H12 : ∀ (x0 : Nat) (x1 : Int32) (h : zH), rc12 x0 x1 h = some p → Zt X 4 0 0 12 [(0, .ref x0), (1, .int x1)] [] h) : ∀ (x0 : Nat) (x1 : Int32) (h : zH), f_Search_fillLeast_89 N rc12 x0 x1 h = some p → Zt X 4 0 0 89 [(0, .ref x0), (1, .int x1)] [] h := by
  intro x0 x1 h hf
  unfold f_Search_fillLeast_89 at hf
  refine z_iinc C (v := (x1 + (1 : Int32))) (lv' := [(1, .int (x1 + (1 : Int32))), (0, .ref x0)]) 1 d_Search_fillLeast_89 rfl (by rfl) (by decide) rfl ?_
  refine z_goto (tgt := 12) C d_Search_fillLeast_92 (by decide) ?_
  refine z_sub [1, 0] rfl ?_
  exact H12 _ _ _ hf

set_option maxHeartbeats 4000000 in
set_option maxRecDepth 100000 in
theorem k_Search_fillLeast_12 (N : Nat) {X : zX} (C : zB X prog_5_method_12_code 4 R_Search rm_Search_fillLeast) {h0 : zH} {p : Unit × zH} (E : zR X none rm_Search_fillLeast h0 none p.2) : ∀ n : Nat, ∀ (x0 : Nat) (x1 : Int32) (h : zH), f_Search_fillLeast_12 N n x0 x1 h = some p → Zt X 4 0 0 12 [(0, .ref x0), (1, .int x1)] [] h := by
  intro n
  induction n with
  | zero => intro x0 x1 h hf; cases hf
  | succ n ih =>
  intro x0 x1 h hf
  have H12 := ih
  replace hf : b_Search_fillLeast_12 N (f_Search_fillLeast_12 N n) x0 x1 h = some p := hf
  unfold b_Search_fillLeast_12 at hf
  refine z_iload_n C 1 d_Search_fillLeast_12 rfl rfl ?_
  refine z_aload_n C 0 d_Search_fillLeast_13 rfl rfl ?_
  refine z_getI C 8 2 rfl in_Search (by decide) w_424 rfl d_Search_fillLeast_14 hf (fun v1 hf => ?_)
  refine z_ic_ge (tgt := 95) C d_Search_fillLeast_17 (by decide) hf (fun hf => ?_) (fun hf => ?_)
  · exact z_vret C E (Nat.le_of_ble_eq_true rfl) (Nat.le_of_ble_eq_true rfl) d_Search_fillLeast_95 hf
  · refine z_aload_n C 0 d_Search_fillLeast_20 rfl rfl ?_
    refine z_getR C 8 0 rfl in_Search (by decide) w_422 rfl d_Search_fillLeast_21 hf (fun v2 hf => ?_)
    refine z_iconst C (v := (0 : Int32)) d_Search_fillLeast_24 (by decide) ?_
    refine z_iload_n C 1 d_Search_fillLeast_25 rfl rfl ?_
    obtain ⟨p3, hc, hf⟩ := Option.bind_eq_some_iff.mp hf
    obtain ⟨hz, hc⟩ := zck_some hc
    refine z_callV C (ci := 2) (c_Site_allows N C.2.2.1 hc) rfl hz w_375 w_59 w_470 w_373 w_374 pd_Site_allows rfl ⟨(Nat.le_of_ble_eq_true rfl), (Nat.le_of_ble_eq_true rfl)⟩ ⟨(Nat.le_of_ble_eq_true rfl), (Nat.le_of_ble_eq_true rfl)⟩ rfl (Nat.le_of_ble_eq_true rfl) d_Search_fillLeast_26 (k' := 0) (n' := 0) (stk' := [.int p3.1]) rfl rfl rfl ?_
    refine z_if_ne (tgt := 35) C d_Search_fillLeast_29 (by decide) hf (fun hf => ?_) (fun hf => ?_)
    · refine z_aload_n C 0 d_Search_fillLeast_35 rfl rfl ?_
      refine z_getR C 8 9 rfl in_Search (by decide) w_431 rfl d_Search_fillLeast_36 hf (fun v4 hf => ?_)
      refine z_iconst C (v := (0 : Int32)) d_Search_fillLeast_39 (by decide) ?_
      refine z_lald C d_Search_fillLeast_40 hf (fun v5 hf => ?_)
      refine z_lstore_n C (lv' := [(2, .long v5), (0, .ref x0), (1, .int x1)]) d_Search_fillLeast_41 rfl (by decide) rfl ?_
      refine z_aload_n C 1 d_Search_fillLeast_42 rfl rfl ?_
      refine z_iconst C (v := (0 : Int32)) d_Search_fillLeast_43 (by decide) ?_
      refine z_iload_n C 2 d_Search_fillLeast_44 rfl rfl ?_
      obtain ⟨p6, hc, hf⟩ := Option.bind_eq_some_iff.mp hf
      obtain ⟨hz, hc⟩ := zck_some hc
      refine z_callV C (ci := 8) (c_Search_fillLeaving N C.2.2.1 hc) rfl hz w_493 w_67 w_490 w_492 w_11 pd_Search_fillLeaving rfl ⟨(Nat.le_of_ble_eq_true rfl), (Nat.le_of_ble_eq_true rfl)⟩ ⟨(Nat.le_of_ble_eq_true rfl), (Nat.le_of_ble_eq_true rfl)⟩ rfl (Nat.le_of_ble_eq_true rfl) d_Search_fillLeast_45 (k' := 0) (n' := 0) (stk' := []) rfl rfl rfl ?_
      refine z_aload_n C 1 d_Search_fillLeast_48 rfl rfl ?_
      refine z_aload_n C 1 d_Search_fillLeast_49 rfl rfl ?_
      refine z_getR C 8 9 rfl in_Search (by decide) w_431 rfl d_Search_fillLeast_50 hf (fun v7 hf => ?_)
      refine z_iconst C (v := (0 : Int32)) d_Search_fillLeast_53 (by decide) ?_
      refine z_aload_n C 1 d_Search_fillLeast_54 rfl rfl ?_
      refine z_getR C 8 0 rfl in_Search (by decide) w_422 rfl d_Search_fillLeast_55 hf (fun v8 hf => ?_)
      refine z_iload_n C 2 d_Search_fillLeast_58 rfl rfl ?_
      obtain ⟨p9, hc, hf⟩ := Option.bind_eq_some_iff.mp hf
      obtain ⟨hz, hc⟩ := zck_some hc
      refine z_callV C (ci := 2) (c_Site_lowestNear N C.2.2.1 hc) rfl hz w_396 w_59 w_484 w_394 w_395 pd_Site_lowestNear rfl ⟨(Nat.le_of_ble_eq_true rfl), (Nat.le_of_ble_eq_true rfl)⟩ ⟨(Nat.le_of_ble_eq_true rfl), (Nat.le_of_ble_eq_true rfl)⟩ rfl (Nat.le_of_ble_eq_true rfl) d_Search_fillLeast_59 (k' := 0) (n' := 0) (stk' := [.int p9.1, .int (0 : Int32), .ref v7, .ref x0]) rfl rfl rfl ?_
      refine z_aload_n C 1 d_Search_fillLeast_62 rfl rfl ?_
      refine z_getR C 8 0 rfl in_Search (by decide) w_422 rfl d_Search_fillLeast_63 hf (fun v10 hf => ?_)
      refine z_iload_n C 2 d_Search_fillLeast_66 rfl rfl ?_
      obtain ⟨p11, hc, hf⟩ := Option.bind_eq_some_iff.mp hf
      obtain ⟨hz, hc⟩ := zck_some hc
      refine z_callV C (ci := 2) (c_Site_highestNear N C.2.2.1 hc) rfl hz w_391 w_59 w_483 w_389 w_390 pd_Site_highestNear rfl ⟨(Nat.le_of_ble_eq_true rfl), (Nat.le_of_ble_eq_true rfl)⟩ ⟨(Nat.le_of_ble_eq_true rfl), (Nat.le_of_ble_eq_true rfl)⟩ rfl (Nat.le_of_ble_eq_true rfl) d_Search_fillLeast_67 (k' := 0) (n' := 0) (stk' := [.int p11.1, .int p9.1, .int (0 : Int32), .ref v7, .ref x0]) rfl rfl rfl ?_
      obtain ⟨p12, hc, hf⟩ := Option.bind_eq_some_iff.mp hf
      obtain ⟨hz, hc⟩ := zck_some hc
      refine z_callV C (ci := 8) (c_Search_gather N C.2.2.1 hc) rfl hz w_537 w_67 w_534 w_536 w_18 pd_Search_gather rfl ⟨(Nat.le_of_ble_eq_true rfl), (Nat.le_of_ble_eq_true rfl)⟩ ⟨(Nat.le_of_ble_eq_true rfl), (Nat.le_of_ble_eq_true rfl)⟩ rfl (Nat.le_of_ble_eq_true rfl) d_Search_fillLeast_70 (k' := 0) (n' := 0) (stk' := []) rfl rfl rfl ?_
      refine z_aload_n C 1 d_Search_fillLeast_73 rfl rfl ?_
      refine z_getR C 8 9 rfl in_Search (by decide) w_431 rfl d_Search_fillLeast_74 hf (fun v13 hf => ?_)
      refine z_iconst C (v := (0 : Int32)) d_Search_fillLeast_77 (by decide) ?_
      refine z_lald C d_Search_fillLeast_78 hf (fun v14 hf => ?_)
      refine z_lload_n C 0 d_Search_fillLeast_79 rfl rfl ?_
      refine z_lcmp C d_Search_fillLeast_80 ?_
      refine z_if_ge (tgt := 89) C d_Search_fillLeast_81 (by decide) hf (fun hf => ?_) (fun hf => ?_)
      · refine z_sub [1, 2] rfl ?_
        exact k_Search_fillLeast_89 N C E H12 _ _ _ hf
      · refine z_aload_n C 1 d_Search_fillLeast_84 rfl rfl ?_
        refine z_iload_n C 2 d_Search_fillLeast_85 rfl rfl ?_
        refine z_put C 8 10 ty_Search rfl in_Search tyok_Search nm_Search (by decide) w_432 rfl (Or.inl rfl) rfl rfl rfl d_Search_fillLeast_86 hf (fun h15 hf => ?_)
        refine z_sub [1, 2] rfl ?_
        exact k_Search_fillLeast_89 N C E H12 _ _ _ hf
    · refine z_goto (tgt := 89) C d_Search_fillLeast_32 (by decide) ?_
      refine z_sub [0, 1] rfl ?_
      exact k_Search_fillLeast_89 N C E H12 _ _ _ hf

set_option maxHeartbeats 4000000 in
set_option maxRecDepth 100000 in
theorem k_Search_fillLeast (N : Nat) {X : zX} (C : zB X prog_5_method_12_code 4 R_Search rm_Search_fillLeast) {h0 : zH} {p : Unit × zH} (E : zR X none rm_Search_fillLeast h0 none p.2) : ∀ (x0 : Nat) (h : zH), f_Search_fillLeast N x0 h = some p → Zt X 4 0 0 0 [(0, .ref x0)] [] h := by
  intro x0 h hf
  unfold f_Search_fillLeast at hf
  refine z_aload_n C 0 d_Search_fillLeast_0 rfl rfl ?_
  refine z_getR C 8 9 rfl in_Search (by decide) w_431 rfl d_Search_fillLeast_1 hf (fun v16 hf => ?_)
  refine z_ldc2 C d_Search_fillLeast_4 w_468 ?_
  obtain ⟨p17, hc, hf⟩ := Option.bind_eq_some_iff.mp hf
  refine z_callS C (c_Arrays_fill_AJJV N C.2.2.1 hc) w_383 w_60 w_469 w_382 pd_Arrays_fill_AJJV rfl ⟨(Nat.le_of_ble_eq_true rfl), (Nat.le_of_ble_eq_true rfl)⟩ ⟨(Nat.le_of_ble_eq_true rfl), (Nat.le_of_ble_eq_true rfl)⟩ rfl (Nat.le_of_ble_eq_true rfl) d_Search_fillLeast_7 (k' := 0) (n' := 0) (stk' := []) rfl rfl rfl ?_
  refine z_iconst C (v := (0 : Int32)) d_Search_fillLeast_10 (by decide) ?_
  refine z_istore_n C (lv' := [(1, .int (0 : Int32)), (0, .ref x0)]) d_Search_fillLeast_11 rfl (by decide) rfl ?_
  refine z_sub [1, 0] rfl ?_
  exact k_Search_fillLeast_12 N C E N _ _ _ hf

theorem c_Search_fillLeast (N : Nat) {l : Launch} {D : va_G} {T : List (ClassId × FieldType)} (hT : T.map (fun q => q.2) = ztl) {x0 : Nat} {h : zH} {p : Unit × zH} (hf : f_Search_fillLeast N x0 h = some p) : zM l y_Search_fillLeast prog_5_method_12_code 4 none rm_Search_fillLeast D T [.ref x0] h none p.2 :=
  z_enter (by decide) hT (Nat.le_of_ble_eq_true rfl) (fun X el eD eT hin C E => k_Search_fillLeast N C E x0 h hf)
/-! ===== LevelTables$Search.trace(LLevelTables$Table;)V ===== -/
abbrev y_Search_trace : MethodName := ⟨R_Search, "trace", "(LLevelTables$Table;)V"⟩
theorem pd_Search_trace : y_Search_trace.cls ≠ "java/lang/invoke/MethodHandle" ∧ y_Search_trace.cls ≠ "java/lang/invoke/VarHandle" ∧ (parseMethodDescriptor y_Search_trace.desc).map (fun d => d.parameters.length) = some 1 := ⟨by decide +kernel, by decide +kernel, by decide +kernel⟩
abbrev rm_Search_trace : Room := { frames := 4, cells := 0, slots := 0, locals := 113 }
def b_Search_trace_38 (N : Nat) (rc38 : Nat → Nat → Int32 → Int32 → zH → Option (Unit × zH)) (x0 : Nat) (x1 : Nat) (x2 : Int32) (x3 : Int32) (h : zH) : Option (Unit × zH) :=
  Option.bind (zgR h x0 8 0) fun (v1 : Nat) =>
  Option.bind (zgI h v1 2 0) fun (v2 : Int32) =>
  (if v2 ≤ x3 then
    some ((), h)
  else
    Option.bind (zgR h x0 8 0) fun (v3 : Nat) =>
    Option.bind (zgI h v3 2 0) fun (v4 : Int32) =>
    (if v4 ≤ x2 then
      some ((), h)
    else
      Option.bind (zck (zis h x0 8) (f_Search_traceFrom N x0 x1 x2 h)) fun (p5 : Int32 × zH) =>
      rc38 x0 x1 p5.1 (x3 + (1 : Int32)) p5.2))
def f_Search_trace_38 (N : Nat) : Nat → Nat → Nat → Int32 → Int32 → zH → Option (Unit × zH)
  | 0 => fun _ _ _ _ _ => none
  | n + 1 => fun x0 x1 x2 x3 h => b_Search_trace_38 N (f_Search_trace_38 N n) x0 x1 x2 x3 h
def f_Search_trace (N : Nat) (x0 : Nat) (x1 : Nat) (h : zH) : Option (Unit × zH) :=
  Option.bind (zgR h x1 5 2) fun (v6 : Nat) =>
  Option.bind (zgI h x0 8 10) fun (v7 : Int32) =>
  Option.bind (zsI h 0 v6 (0 : Int32) v7) fun (h8 : zH) =>
  Option.bind (zp h8 x1 5 5 (.int (0 : Int32))) fun (h9 : zH) =>
  Option.bind (zgR h9 x0 8 9) fun (v10 : Nat) =>
  Option.bind (zaJ h9 1 v10 (0 : Int32)) fun (v11 : Int64) =>
  Option.bind (zp h9 x1 5 6 (.long (v11 / (1024 : Int64)))) fun (h12 : zH) =>
  Option.bind (zpZ h12 x1 5 4 (1 : Int32)) fun (h13 : zH) =>
  f_Search_trace_38 N N x0 x1 (0 : Int32) (0 : Int32) h13
theorem d_Search_trace_0 : decode prog_5_method_19_code 0 = .ok (.aload_n (1), 1) := by decide +kernel
theorem d_Search_trace_1 : decode prog_5_method_19_code 1 = .ok (.getfield (189), 3) := by decide +kernel
theorem d_Search_trace_4 : decode prog_5_method_19_code 4 = .ok (.iconst (0), 1) := by decide +kernel
theorem d_Search_trace_5 : decode prog_5_method_19_code 5 = .ok (.aload_n (0), 1) := by decide +kernel
theorem d_Search_trace_6 : decode prog_5_method_19_code 6 = .ok (.getfield (9), 3) := by decide +kernel
theorem d_Search_trace_9 : decode prog_5_method_19_code 9 = .ok (.iastore, 1) := by decide +kernel
theorem d_Search_trace_10 : decode prog_5_method_19_code 10 = .ok (.aload_n (1), 1) := by decide +kernel
theorem d_Search_trace_11 : decode prog_5_method_19_code 11 = .ok (.iconst (0), 1) := by decide +kernel
theorem d_Search_trace_12 : decode prog_5_method_19_code 12 = .ok (.putfield (194), 3) := by decide +kernel
theorem d_Search_trace_15 : decode prog_5_method_19_code 15 = .ok (.aload_n (1), 1) := by decide +kernel
theorem d_Search_trace_16 : decode prog_5_method_19_code 16 = .ok (.aload_n (0), 1) := by decide +kernel
theorem d_Search_trace_17 : decode prog_5_method_19_code 17 = .ok (.getfield (59), 3) := by decide +kernel
theorem d_Search_trace_20 : decode prog_5_method_19_code 20 = .ok (.iconst (0), 1) := by decide +kernel
theorem d_Search_trace_21 : decode prog_5_method_19_code 21 = .ok (.laload, 1) := by decide +kernel
theorem d_Search_trace_22 : decode prog_5_method_19_code 22 = .ok (.ldc2_w (38), 3) := by decide +kernel
theorem d_Search_trace_25 : decode prog_5_method_19_code 25 = .ok (.ldiv, 1) := by decide +kernel
theorem d_Search_trace_26 : decode prog_5_method_19_code 26 = .ok (.putfield (197), 3) := by decide +kernel
theorem d_Search_trace_29 : decode prog_5_method_19_code 29 = .ok (.aload_n (1), 1) := by decide +kernel
theorem d_Search_trace_30 : decode prog_5_method_19_code 30 = .ok (.iconst (1), 1) := by decide +kernel
theorem d_Search_trace_31 : decode prog_5_method_19_code 31 = .ok (.putfield (199), 3) := by decide +kernel
theorem d_Search_trace_34 : decode prog_5_method_19_code 34 = .ok (.iconst (0), 1) := by decide +kernel
theorem d_Search_trace_35 : decode prog_5_method_19_code 35 = .ok (.istore_n (2), 1) := by decide +kernel
theorem d_Search_trace_36 : decode prog_5_method_19_code 36 = .ok (.iconst (0), 1) := by decide +kernel
theorem d_Search_trace_37 : decode prog_5_method_19_code 37 = .ok (.istore_n (3), 1) := by decide +kernel
theorem d_Search_trace_38 : decode prog_5_method_19_code 38 = .ok (.iload_n (3), 1) := by decide +kernel
theorem d_Search_trace_39 : decode prog_5_method_19_code 39 = .ok (.aload_n (0), 1) := by decide +kernel
theorem d_Search_trace_40 : decode prog_5_method_19_code 40 = .ok (.getfield (15), 3) := by decide +kernel
theorem d_Search_trace_43 : decode prog_5_method_19_code 43 = .ok (.getfield (47), 3) := by decide +kernel
theorem d_Search_trace_46 : decode prog_5_method_19_code 46 = .ok (.if_icmp .ge (27), 3) := by decide +kernel
theorem d_Search_trace_49 : decode prog_5_method_19_code 49 = .ok (.iload_n (2), 1) := by decide +kernel
theorem d_Search_trace_50 : decode prog_5_method_19_code 50 = .ok (.aload_n (0), 1) := by decide +kernel
theorem d_Search_trace_51 : decode prog_5_method_19_code 51 = .ok (.getfield (15), 3) := by decide +kernel
theorem d_Search_trace_54 : decode prog_5_method_19_code 54 = .ok (.getfield (47), 3) := by decide +kernel
theorem d_Search_trace_57 : decode prog_5_method_19_code 57 = .ok (.if_icmp .ge (16), 3) := by decide +kernel
theorem d_Search_trace_60 : decode prog_5_method_19_code 60 = .ok (.aload_n (0), 1) := by decide +kernel
theorem d_Search_trace_61 : decode prog_5_method_19_code 61 = .ok (.aload_n (1), 1) := by decide +kernel
theorem d_Search_trace_62 : decode prog_5_method_19_code 62 = .ok (.iload_n (2), 1) := by decide +kernel
theorem d_Search_trace_63 : decode prog_5_method_19_code 63 = .ok (.invokevirtual (202), 3) := by decide +kernel
theorem d_Search_trace_66 : decode prog_5_method_19_code 66 = .ok (.istore_n (2), 1) := by decide +kernel
theorem d_Search_trace_67 : decode prog_5_method_19_code 67 = .ok (.iinc (3) (1), 3) := by decide +kernel
theorem d_Search_trace_70 : decode prog_5_method_19_code 70 = .ok (.goto (-32), 3) := by decide +kernel
theorem d_Search_trace_73 : decode prog_5_method_19_code 73 = .ok (.return_, 1) := by decide +kernel
set_option maxHeartbeats 4000000 in
set_option maxRecDepth 100000 in
theorem k_Search_trace_38 (N : Nat) {X : zX} (C : zB X prog_5_method_19_code 4 R_Search rm_Search_trace) {h0 : zH} {p : Unit × zH} (E : zR X none rm_Search_trace h0 none p.2) : ∀ n : Nat, ∀ (x0 : Nat) (x1 : Nat) (x2 : Int32) (x3 : Int32) (h : zH), f_Search_trace_38 N n x0 x1 x2 x3 h = some p → Zt X 4 0 0 38 [(0, .ref x0), (1, .ref x1), (2, .int x2), (3, .int x3)] [] h := by
  intro n
  induction n with
  | zero => intro x0 x1 x2 x3 h hf; cases hf
  | succ n ih =>
  intro x0 x1 x2 x3 h hf
  have H38 := ih
  replace hf : b_Search_trace_38 N (f_Search_trace_38 N n) x0 x1 x2 x3 h = some p := hf
  unfold b_Search_trace_38 at hf
  refine z_iload_n C 3 d_Search_trace_38 rfl rfl ?_
  refine z_aload_n C 0 d_Search_trace_39 rfl rfl ?_
  refine z_getR C 8 0 rfl in_Search (by decide) w_422 rfl d_Search_trace_40 hf (fun v1 hf => ?_)
  refine z_getI C 2 0 rfl in_Site (by decide) w_95 rfl d_Search_trace_43 hf (fun v2 hf => ?_)
  refine z_ic_ge (tgt := 73) C d_Search_trace_46 (by decide) hf (fun hf => ?_) (fun hf => ?_)
  · exact z_vret C E (Nat.le_of_ble_eq_true rfl) (Nat.le_of_ble_eq_true rfl) d_Search_trace_73 hf
  · refine z_iload_n C 2 d_Search_trace_49 rfl rfl ?_
    refine z_aload_n C 0 d_Search_trace_50 rfl rfl ?_
    refine z_getR C 8 0 rfl in_Search (by decide) w_422 rfl d_Search_trace_51 hf (fun v3 hf => ?_)
    refine z_getI C 2 0 rfl in_Site (by decide) w_95 rfl d_Search_trace_54 hf (fun v4 hf => ?_)
    refine z_ic_ge (tgt := 73) C d_Search_trace_57 (by decide) hf (fun hf => ?_) (fun hf => ?_)
    · exact z_vret C E (Nat.le_of_ble_eq_true rfl) (Nat.le_of_ble_eq_true rfl) d_Search_trace_73 hf
    · refine z_aload_n C 0 d_Search_trace_60 rfl rfl ?_
      refine z_aload_n C 1 d_Search_trace_61 rfl rfl ?_
      refine z_iload_n C 2 d_Search_trace_62 rfl rfl ?_
      obtain ⟨p5, hc, hf⟩ := Option.bind_eq_some_iff.mp hf
      obtain ⟨hz, hc⟩ := zck_some hc
      refine z_callV C (ci := 8) (c_Search_traceFrom N C.2.2.1 hc) rfl hz w_557 w_67 w_554 w_556 w_21 pd_Search_traceFrom rfl ⟨(Nat.le_of_ble_eq_true rfl), (Nat.le_of_ble_eq_true rfl)⟩ ⟨(Nat.le_of_ble_eq_true rfl), (Nat.le_of_ble_eq_true rfl)⟩ rfl (Nat.le_of_ble_eq_true rfl) d_Search_trace_63 (k' := 0) (n' := 0) (stk' := [.int p5.1]) rfl rfl rfl ?_
      refine z_istore_n C (lv' := [(2, .int p5.1), (0, .ref x0), (1, .ref x1), (3, .int x3)]) d_Search_trace_66 rfl (by decide) rfl ?_
      refine z_iinc C (v := (x3 + (1 : Int32))) (lv' := [(3, .int (x3 + (1 : Int32))), (2, .int p5.1), (0, .ref x0), (1, .ref x1)]) 3 d_Search_trace_67 rfl (by rfl) (by decide) rfl ?_
      refine z_goto (tgt := 38) C d_Search_trace_70 (by decide) ?_
      refine z_sub [2, 3, 1, 0] rfl ?_
      exact H38 _ _ _ _ _ hf

set_option maxHeartbeats 4000000 in
set_option maxRecDepth 100000 in
theorem k_Search_trace (N : Nat) {X : zX} (C : zB X prog_5_method_19_code 4 R_Search rm_Search_trace) {h0 : zH} {p : Unit × zH} (E : zR X none rm_Search_trace h0 none p.2) : ∀ (x0 : Nat) (x1 : Nat) (h : zH), f_Search_trace N x0 x1 h = some p → Zt X 4 0 0 0 [(0, .ref x0), (1, .ref x1)] [] h := by
  intro x0 x1 h hf
  unfold f_Search_trace at hf
  refine z_aload_n C 1 d_Search_trace_0 rfl rfl ?_
  refine z_getR C 5 2 rfl in_Table (by decide) w_200 rfl d_Search_trace_1 hf (fun v6 hf => ?_)
  refine z_iconst C (v := (0 : Int32)) d_Search_trace_4 (by decide) ?_
  refine z_aload_n C 0 d_Search_trace_5 rfl rfl ?_
  refine z_getI C 8 10 rfl in_Search (by decide) w_432 rfl d_Search_trace_6 hf (fun v7 hf => ?_)
  refine z_iast C d_Search_trace_9 hf (fun h8 hf => ?_)
  refine z_aload_n C 1 d_Search_trace_10 rfl rfl ?_
  refine z_iconst C (v := (0 : Int32)) d_Search_trace_11 (by decide) ?_
  refine z_put C 5 5 ty_Table rfl in_Table tyok_Table nm_Table (by decide) w_209 rfl (Or.inl rfl) rfl rfl rfl d_Search_trace_12 hf (fun h9 hf => ?_)
  refine z_aload_n C 1 d_Search_trace_15 rfl rfl ?_
  refine z_aload_n C 0 d_Search_trace_16 rfl rfl ?_
  refine z_getR C 8 9 rfl in_Search (by decide) w_431 rfl d_Search_trace_17 hf (fun v10 hf => ?_)
  refine z_iconst C (v := (0 : Int32)) d_Search_trace_20 (by decide) ?_
  refine z_lald C d_Search_trace_21 hf (fun v11 hf => ?_)
  refine z_ldc2 C d_Search_trace_22 w_419 ?_
  refine z_ldiv C d_Search_trace_25 (by decide) ?_
  refine z_put C 5 6 ty_Table rfl in_Table tyok_Table nm_Table (by decide) w_212 rfl (Or.inl rfl) rfl rfl rfl d_Search_trace_26 hf (fun h12 hf => ?_)
  refine z_aload_n C 1 d_Search_trace_29 rfl rfl ?_
  refine z_iconst C (v := (1 : Int32)) d_Search_trace_30 (by decide) ?_
  refine z_putZ C 5 4 ty_Table rfl in_Table tyok_Table nm_Table (by decide) w_206 rfl (Or.inl rfl) rfl d_Search_trace_31 hf (fun h13 hf => ?_)
  refine z_iconst C (v := (0 : Int32)) d_Search_trace_34 (by decide) ?_
  refine z_istore_n C (lv' := [(2, .int (0 : Int32)), (0, .ref x0), (1, .ref x1)]) d_Search_trace_35 rfl (by decide) rfl ?_
  refine z_iconst C (v := (0 : Int32)) d_Search_trace_36 (by decide) ?_
  refine z_istore_n C (lv' := [(3, .int (0 : Int32)), (2, .int (0 : Int32)), (0, .ref x0), (1, .ref x1)]) d_Search_trace_37 rfl (by decide) rfl ?_
  refine z_sub [2, 3, 1, 0] rfl ?_
  exact k_Search_trace_38 N C E N _ _ _ _ _ hf

theorem c_Search_trace (N : Nat) {l : Launch} {D : va_G} {T : List (ClassId × FieldType)} (hT : T.map (fun q => q.2) = ztl) {x0 : Nat} {x1 : Nat} {h : zH} {p : Unit × zH} (hf : f_Search_trace N x0 x1 h = some p) : zM l y_Search_trace prog_5_method_19_code 4 none rm_Search_trace D T [.ref x0, .ref x1] h none p.2 :=
  z_enter (by decide) hT (Nat.le_of_ble_eq_true rfl) (fun X el eD eT hin C E => k_Search_trace N C E x0 x1 h hf)
/-! ===== LevelTables.order(I)I ===== -/
abbrev y_LT_order : MethodName := ⟨R_LT, "order", "(I)I"⟩
theorem pd_LT_order : y_LT_order.cls ≠ "java/lang/invoke/MethodHandle" ∧ y_LT_order.cls ≠ "java/lang/invoke/VarHandle" ∧ (parseMethodDescriptor y_LT_order.desc).map (fun d => d.parameters.length) = some 1 := ⟨by decide +kernel, by decide +kernel, by decide +kernel⟩
abbrev rm_LT_order : Room := { frames := 3, cells := 0, slots := 0, locals := 67 }
def b_LT_order_25 (N : Nat) (rc25 : Nat → Int32 → Int32 → zH → Option (Int32 × zH)) (x0 : Nat) (x1 : Int32) (x2 : Int32) (h : zH) : Option (Int32 × zH) :=
  Option.bind (zgR h x0 1 0) fun (v1 : Nat) =>
  Option.bind (zgI h v1 2 0) fun (v2 : Int32) =>
  (if v2 < x2 then
    some ((-1 : Int32), h)
  else
    Option.bind (zgR h x0 1 3) fun (v3 : Nat) =>
    Option.bind (zck (zis h v3 5) (f_Table_rankOf N v3 x2 h)) fun (p4 : Int32 × zH) =>
    (if p4.1 = x1 then
      some (x2, p4.2)
    else
      rc25 x0 x1 (x2 + (1 : Int32)) p4.2))
def f_LT_order_25 (N : Nat) : Nat → Nat → Int32 → Int32 → zH → Option (Int32 × zH)
  | 0 => fun _ _ _ _ => none
  | n + 1 => fun x0 x1 x2 h => b_LT_order_25 N (f_LT_order_25 N n) x0 x1 x2 h
def f_LT_order (N : Nat) (x0 : Nat) (x1 : Int32) (h : zH) : Option (Int32 × zH) :=
  Option.bind (zgR h x0 1 3) fun (v5 : Nat) =>
  Option.bind (zgI h v5 5 4) fun (v6 : Int32) =>
  (if v6 = 0 then
    some ((-1 : Int32), h)
  else
    Option.bind (zgR h x0 1 0) fun (v7 : Nat) =>
    Option.bind (zck (zis h v7 2) (f_Site_isPlace N v7 x1 h)) fun (p8 : Int32 × zH) =>
    (if p8.1 = 0 then
      some ((-1 : Int32), p8.2)
    else
      f_LT_order_25 N N x0 x1 (0 : Int32) p8.2))
theorem d_LT_order_0 : decode prog_1_method_18_code 0 = .ok (.aload_n (0), 1) := by decide +kernel
theorem d_LT_order_1 : decode prog_1_method_18_code 1 = .ok (.getfield (48), 3) := by decide +kernel
theorem d_LT_order_4 : decode prog_1_method_18_code 4 = .ok (.getfield (150), 3) := by decide +kernel
theorem d_LT_order_7 : decode prog_1_method_18_code 7 = .ok (.ifCond .eq (14), 3) := by decide +kernel
theorem d_LT_order_10 : decode prog_1_method_18_code 10 = .ok (.aload_n (0), 1) := by decide +kernel
theorem d_LT_order_11 : decode prog_1_method_18_code 11 = .ok (.getfield (23), 3) := by decide +kernel
theorem d_LT_order_14 : decode prog_1_method_18_code 14 = .ok (.iload_n (1), 1) := by decide +kernel
theorem d_LT_order_15 : decode prog_1_method_18_code 15 = .ok (.invokevirtual (68), 3) := by decide +kernel
theorem d_LT_order_18 : decode prog_1_method_18_code 18 = .ok (.ifCond .ne (5), 3) := by decide +kernel
theorem d_LT_order_21 : decode prog_1_method_18_code 21 = .ok (.iconst (-1), 1) := by decide +kernel
theorem d_LT_order_22 : decode prog_1_method_18_code 22 = .ok (.ireturn, 1) := by decide +kernel
theorem d_LT_order_23 : decode prog_1_method_18_code 23 = .ok (.iconst (0), 1) := by decide +kernel
theorem d_LT_order_24 : decode prog_1_method_18_code 24 = .ok (.istore_n (2), 1) := by decide +kernel
theorem d_LT_order_25 : decode prog_1_method_18_code 25 = .ok (.iload_n (2), 1) := by decide +kernel
theorem d_LT_order_26 : decode prog_1_method_18_code 26 = .ok (.aload_n (0), 1) := by decide +kernel
theorem d_LT_order_27 : decode prog_1_method_18_code 27 = .ok (.getfield (23), 3) := by decide +kernel
theorem d_LT_order_30 : decode prog_1_method_18_code 30 = .ok (.getfield (183), 3) := by decide +kernel
theorem d_LT_order_33 : decode prog_1_method_18_code 33 = .ok (.if_icmp .gt (23), 3) := by decide +kernel
theorem d_LT_order_36 : decode prog_1_method_18_code 36 = .ok (.aload_n (0), 1) := by decide +kernel
theorem d_LT_order_37 : decode prog_1_method_18_code 37 = .ok (.getfield (48), 3) := by decide +kernel
theorem d_LT_order_40 : decode prog_1_method_18_code 40 = .ok (.iload_n (2), 1) := by decide +kernel
theorem d_LT_order_41 : decode prog_1_method_18_code 41 = .ok (.invokevirtual (221), 3) := by decide +kernel
theorem d_LT_order_44 : decode prog_1_method_18_code 44 = .ok (.iload_n (1), 1) := by decide +kernel
theorem d_LT_order_45 : decode prog_1_method_18_code 45 = .ok (.if_icmp .ne (5), 3) := by decide +kernel
theorem d_LT_order_48 : decode prog_1_method_18_code 48 = .ok (.iload_n (2), 1) := by decide +kernel
theorem d_LT_order_49 : decode prog_1_method_18_code 49 = .ok (.ireturn, 1) := by decide +kernel
theorem d_LT_order_50 : decode prog_1_method_18_code 50 = .ok (.iinc (2) (1), 3) := by decide +kernel
theorem d_LT_order_53 : decode prog_1_method_18_code 53 = .ok (.goto (-28), 3) := by decide +kernel
theorem d_LT_order_56 : decode prog_1_method_18_code 56 = .ok (.iconst (-1), 1) := by decide +kernel
theorem d_LT_order_57 : decode prog_1_method_18_code 57 = .ok (.ireturn, 1) := by decide +kernel
set_option maxHeartbeats 4000000 in
set_option maxRecDepth 100000 in
theorem k_LT_order_25 (N : Nat) {X : zX} (C : zB X prog_1_method_18_code 3 R_LT rm_LT_order) {h0 : zH} {p : Int32 × zH} (E : zR X (some .int) rm_LT_order h0 (some (.int p.1)) p.2) : ∀ n : Nat, ∀ (x0 : Nat) (x1 : Int32) (x2 : Int32) (h : zH), f_LT_order_25 N n x0 x1 x2 h = some p → Zt X 3 0 0 25 [(0, .ref x0), (1, .int x1), (2, .int x2)] [] h := by
  intro n
  induction n with
  | zero => intro x0 x1 x2 h hf; cases hf
  | succ n ih =>
  intro x0 x1 x2 h hf
  have H25 := ih
  replace hf : b_LT_order_25 N (f_LT_order_25 N n) x0 x1 x2 h = some p := hf
  unfold b_LT_order_25 at hf
  refine z_iload_n C 2 d_LT_order_25 rfl rfl ?_
  refine z_aload_n C 0 d_LT_order_26 rfl rfl ?_
  refine z_getR C 1 0 rfl in_LT (by decide) w_266 rfl d_LT_order_27 hf (fun v1 hf => ?_)
  refine z_getI C 2 0 rfl in_Site (by decide) w_97 rfl d_LT_order_30 hf (fun v2 hf => ?_)
  refine z_ic_gt (tgt := 56) C d_LT_order_33 (by decide) hf (fun hf => ?_) (fun hf => ?_)
  · refine z_iconst C (v := (-1 : Int32)) d_LT_order_56 (by decide) ?_
    exact z_iret C E (Nat.le_of_ble_eq_true rfl) (Nat.le_of_ble_eq_true rfl) d_LT_order_57 hf
  · refine z_aload_n C 0 d_LT_order_36 rfl rfl ?_
    refine z_getR C 1 3 rfl in_LT (by decide) w_269 rfl d_LT_order_37 hf (fun v3 hf => ?_)
    refine z_iload_n C 2 d_LT_order_40 rfl rfl ?_
    obtain ⟨p4, hc, hf⟩ := Option.bind_eq_some_iff.mp hf
    obtain ⟨hz, hc⟩ := zck_some hc
    refine z_callV C (ci := 5) (c_Table_rankOf N C.2.2.1 hc) rfl hz w_666 w_63 w_663 w_664 w_665 pd_Table_rankOf rfl ⟨(Nat.le_of_ble_eq_true rfl), (Nat.le_of_ble_eq_true rfl)⟩ ⟨(Nat.le_of_ble_eq_true rfl), (Nat.le_of_ble_eq_true rfl)⟩ rfl (Nat.le_of_ble_eq_true rfl) d_LT_order_41 (k' := 0) (n' := 0) (stk' := [.int p4.1]) rfl rfl rfl ?_
    refine z_iload_n C 1 d_LT_order_44 rfl rfl ?_
    refine z_ic_ne (tgt := 50) C d_LT_order_45 (by decide) hf (fun hf => ?_) (fun hf => ?_)
    · refine z_iinc C (v := (x2 + (1 : Int32))) (lv' := [(2, .int (x2 + (1 : Int32))), (0, .ref x0), (1, .int x1)]) 2 d_LT_order_50 rfl (by rfl) (by decide) rfl ?_
      refine z_goto (tgt := 25) C d_LT_order_53 (by decide) ?_
      refine z_sub [1, 2, 0] rfl ?_
      exact H25 _ _ _ _ hf
    · refine z_iload_n C 2 d_LT_order_48 rfl rfl ?_
      exact z_iret C E (Nat.le_of_ble_eq_true rfl) (Nat.le_of_ble_eq_true rfl) d_LT_order_49 hf

set_option maxHeartbeats 4000000 in
set_option maxRecDepth 100000 in
theorem k_LT_order (N : Nat) {X : zX} (C : zB X prog_1_method_18_code 3 R_LT rm_LT_order) {h0 : zH} {p : Int32 × zH} (E : zR X (some .int) rm_LT_order h0 (some (.int p.1)) p.2) : ∀ (x0 : Nat) (x1 : Int32) (h : zH), f_LT_order N x0 x1 h = some p → Zt X 3 0 0 0 [(0, .ref x0), (1, .int x1)] [] h := by
  intro x0 x1 h hf
  unfold f_LT_order at hf
  refine z_aload_n C 0 d_LT_order_0 rfl rfl ?_
  refine z_getR C 1 3 rfl in_LT (by decide) w_269 rfl d_LT_order_1 hf (fun v5 hf => ?_)
  refine z_getI C 5 4 rfl in_Table (by decide) w_205 rfl d_LT_order_4 hf (fun v6 hf => ?_)
  refine z_if_eq (tgt := 21) C d_LT_order_7 (by decide) hf (fun hf => ?_) (fun hf => ?_)
  · refine z_iconst C (v := (-1 : Int32)) d_LT_order_21 (by decide) ?_
    exact z_iret C E (Nat.le_of_ble_eq_true rfl) (Nat.le_of_ble_eq_true rfl) d_LT_order_22 hf
  · refine z_aload_n C 0 d_LT_order_10 rfl rfl ?_
    refine z_getR C 1 0 rfl in_LT (by decide) w_266 rfl d_LT_order_11 hf (fun v7 hf => ?_)
    refine z_iload_n C 1 d_LT_order_14 rfl rfl ?_
    obtain ⟨p8, hc, hf⟩ := Option.bind_eq_some_iff.mp hf
    obtain ⟨hz, hc⟩ := zck_some hc
    refine z_callV C (ci := 2) (c_Site_isPlace N C.2.2.1 hc) rfl hz w_304 w_59 w_301 w_302 w_303 pd_Site_isPlace rfl ⟨(Nat.le_of_ble_eq_true rfl), (Nat.le_of_ble_eq_true rfl)⟩ ⟨(Nat.le_of_ble_eq_true rfl), (Nat.le_of_ble_eq_true rfl)⟩ rfl (Nat.le_of_ble_eq_true rfl) d_LT_order_15 (k' := 0) (n' := 0) (stk' := [.int p8.1]) rfl rfl rfl ?_
    refine z_if_ne (tgt := 23) C d_LT_order_18 (by decide) hf (fun hf => ?_) (fun hf => ?_)
    · refine z_iconst C (v := (0 : Int32)) d_LT_order_23 (by decide) ?_
      refine z_istore_n C (lv' := [(2, .int (0 : Int32)), (0, .ref x0), (1, .int x1)]) d_LT_order_24 rfl (by decide) rfl ?_
      refine z_sub [1, 2, 0] rfl ?_
      exact k_LT_order_25 N C E N _ _ _ _ hf
    · refine z_iconst C (v := (-1 : Int32)) d_LT_order_21 (by decide) ?_
      exact z_iret C E (Nat.le_of_ble_eq_true rfl) (Nat.le_of_ble_eq_true rfl) d_LT_order_22 hf

theorem c_LT_order (N : Nat) {l : Launch} {D : va_G} {T : List (ClassId × FieldType)} (hT : T.map (fun q => q.2) = ztl) {x0 : Nat} {x1 : Int32} {h : zH} {p : Int32 × zH} (hf : f_LT_order N x0 x1 h = some p) : zM l y_LT_order prog_1_method_18_code 3 (some .int) rm_LT_order D T [.ref x0, .int x1] h (some (.int p.1)) p.2 :=
  z_enter (by decide) hT (Nat.le_of_ble_eq_true rfl) (fun X el eD eT hin C E => k_LT_order N C E x0 x1 h hf)
/-! ===== LevelTables.told(I)I ===== -/
abbrev y_LT_told : MethodName := ⟨R_LT, "told", "(I)I"⟩
theorem pd_LT_told : y_LT_told.cls ≠ "java/lang/invoke/MethodHandle" ∧ y_LT_told.cls ≠ "java/lang/invoke/VarHandle" ∧ (parseMethodDescriptor y_LT_told.desc).map (fun d => d.parameters.length) = some 1 := ⟨by decide +kernel, by decide +kernel, by decide +kernel⟩
abbrev rm_LT_told : Room := { frames := 4, cells := 0, slots := 0, locals := 85 }
def f_LT_told (N : Nat) (x0 : Nat) (x1 : Int32) (h : zH) : Option (Int32 × zH) :=
  (if x1 = 0 then
    Option.bind (zgR h x0 1 1) fun (v12 : Nat) =>
    Option.bind (zgI h v12 3 0) fun (v13 : Int32) =>
    some (v13, h)
  else
    (if x1 = (1 : Int32) then
      Option.bind (zgR h x0 1 0) fun (v8 : Nat) =>
      Option.bind (zgR h x0 1 0) fun (v9 : Nat) =>
      Option.bind (zgR h v9 2 5) fun (v10 : Nat) =>
      Option.bind (zck (zis h v8 2) (f_Site_countSet N v8 v10 h)) fun (p11 : Int32 × zH) =>
      some (p11.1, p11.2)
    else
      (if x1 = (2 : Int32) then
        Option.bind (zgR h x0 1 0) fun (v4 : Nat) =>
        Option.bind (zgR h x0 1 0) fun (v5 : Nat) =>
        Option.bind (zgR h v5 2 6) fun (v6 : Nat) =>
        Option.bind (zck (zis h v4 2) (f_Site_countSet N v4 v6 h)) fun (p7 : Int32 × zH) =>
        some (p7.1, p7.2)
      else
        Option.bind (zgR h x0 1 3) fun (v1 : Nat) =>
        Option.bind (zgI h v1 5 4) fun (v2 : Int32) =>
        (if v2 = 0 then
          some ((-1 : Int32), h)
        else
          Option.bind (zck (zis h x0 1) (f_LT_toldOfTable N x0 x1 h)) fun (p3 : Int32 × zH) =>
          some (p3.1, p3.2)))))
theorem d_LT_told_0 : decode prog_1_method_19_code 0 = .ok (.iload_n (1), 1) := by decide +kernel
theorem d_LT_told_1 : decode prog_1_method_19_code 1 = .ok (.ifCond .ne (11), 3) := by decide +kernel
theorem d_LT_told_4 : decode prog_1_method_19_code 4 = .ok (.aload_n (0), 1) := by decide +kernel
theorem d_LT_told_5 : decode prog_1_method_19_code 5 = .ok (.getfield (30), 3) := by decide +kernel
theorem d_LT_told_8 : decode prog_1_method_19_code 8 = .ok (.getfield (95), 3) := by decide +kernel
theorem d_LT_told_11 : decode prog_1_method_19_code 11 = .ok (.ireturn, 1) := by decide +kernel
theorem d_LT_told_12 : decode prog_1_method_19_code 12 = .ok (.iload_n (1), 1) := by decide +kernel
theorem d_LT_told_13 : decode prog_1_method_19_code 13 = .ok (.iconst (1), 1) := by decide +kernel
theorem d_LT_told_14 : decode prog_1_method_19_code 14 = .ok (.if_icmp .ne (18), 3) := by decide +kernel
theorem d_LT_told_17 : decode prog_1_method_19_code 17 = .ok (.aload_n (0), 1) := by decide +kernel
theorem d_LT_told_18 : decode prog_1_method_19_code 18 = .ok (.getfield (23), 3) := by decide +kernel
theorem d_LT_told_21 : decode prog_1_method_19_code 21 = .ok (.aload_n (0), 1) := by decide +kernel
theorem d_LT_told_22 : decode prog_1_method_19_code 22 = .ok (.getfield (23), 3) := by decide +kernel
theorem d_LT_told_25 : decode prog_1_method_19_code 25 = .ok (.getfield (112), 3) := by decide +kernel
theorem d_LT_told_28 : decode prog_1_method_19_code 28 = .ok (.invokevirtual (224), 3) := by decide +kernel
theorem d_LT_told_31 : decode prog_1_method_19_code 31 = .ok (.ireturn, 1) := by decide +kernel
theorem d_LT_told_32 : decode prog_1_method_19_code 32 = .ok (.iload_n (1), 1) := by decide +kernel
theorem d_LT_told_33 : decode prog_1_method_19_code 33 = .ok (.iconst (2), 1) := by decide +kernel
theorem d_LT_told_34 : decode prog_1_method_19_code 34 = .ok (.if_icmp .ne (18), 3) := by decide +kernel
theorem d_LT_told_37 : decode prog_1_method_19_code 37 = .ok (.aload_n (0), 1) := by decide +kernel
theorem d_LT_told_38 : decode prog_1_method_19_code 38 = .ok (.getfield (23), 3) := by decide +kernel
theorem d_LT_told_41 : decode prog_1_method_19_code 41 = .ok (.aload_n (0), 1) := by decide +kernel
theorem d_LT_told_42 : decode prog_1_method_19_code 42 = .ok (.getfield (23), 3) := by decide +kernel
theorem d_LT_told_45 : decode prog_1_method_19_code 45 = .ok (.getfield (177), 3) := by decide +kernel
theorem d_LT_told_48 : decode prog_1_method_19_code 48 = .ok (.invokevirtual (224), 3) := by decide +kernel
theorem d_LT_told_51 : decode prog_1_method_19_code 51 = .ok (.ireturn, 1) := by decide +kernel
theorem d_LT_told_52 : decode prog_1_method_19_code 52 = .ok (.aload_n (0), 1) := by decide +kernel
theorem d_LT_told_53 : decode prog_1_method_19_code 53 = .ok (.getfield (48), 3) := by decide +kernel
theorem d_LT_told_56 : decode prog_1_method_19_code 56 = .ok (.getfield (150), 3) := by decide +kernel
theorem d_LT_told_59 : decode prog_1_method_19_code 59 = .ok (.ifCond .eq (11), 3) := by decide +kernel
theorem d_LT_told_62 : decode prog_1_method_19_code 62 = .ok (.aload_n (0), 1) := by decide +kernel
theorem d_LT_told_63 : decode prog_1_method_19_code 63 = .ok (.iload_n (1), 1) := by decide +kernel
theorem d_LT_told_64 : decode prog_1_method_19_code 64 = .ok (.invokevirtual (228), 3) := by decide +kernel
theorem d_LT_told_67 : decode prog_1_method_19_code 67 = .ok (.goto (4), 3) := by decide +kernel
theorem d_LT_told_70 : decode prog_1_method_19_code 70 = .ok (.iconst (-1), 1) := by decide +kernel
theorem d_LT_told_71 : decode prog_1_method_19_code 71 = .ok (.ireturn, 1) := by decide +kernel
set_option maxHeartbeats 4000000 in
set_option maxRecDepth 100000 in
theorem k_LT_told (N : Nat) {X : zX} (C : zB X prog_1_method_19_code 2 R_LT rm_LT_told) {h0 : zH} {p : Int32 × zH} (E : zR X (some .int) rm_LT_told h0 (some (.int p.1)) p.2) : ∀ (x0 : Nat) (x1 : Int32) (h : zH), f_LT_told N x0 x1 h = some p → Zt X 2 0 0 0 [(0, .ref x0), (1, .int x1)] [] h := by
  intro x0 x1 h hf
  unfold f_LT_told at hf
  refine z_iload_n C 1 d_LT_told_0 rfl rfl ?_
  refine z_if_ne (tgt := 12) C d_LT_told_1 (by decide) hf (fun hf => ?_) (fun hf => ?_)
  · refine z_iload_n C 1 d_LT_told_12 rfl rfl ?_
    refine z_iconst C (v := (1 : Int32)) d_LT_told_13 (by decide) ?_
    refine z_ic_ne (tgt := 32) C d_LT_told_14 (by decide) hf (fun hf => ?_) (fun hf => ?_)
    · refine z_iload_n C 1 d_LT_told_32 rfl rfl ?_
      refine z_iconst C (v := (2 : Int32)) d_LT_told_33 (by decide) ?_
      refine z_ic_ne (tgt := 52) C d_LT_told_34 (by decide) hf (fun hf => ?_) (fun hf => ?_)
      · refine z_aload_n C 0 d_LT_told_52 rfl rfl ?_
        refine z_getR C 1 3 rfl in_LT (by decide) w_269 rfl d_LT_told_53 hf (fun v1 hf => ?_)
        refine z_getI C 5 4 rfl in_Table (by decide) w_205 rfl d_LT_told_56 hf (fun v2 hf => ?_)
        refine z_if_eq (tgt := 70) C d_LT_told_59 (by decide) hf (fun hf => ?_) (fun hf => ?_)
        · refine z_iconst C (v := (-1 : Int32)) d_LT_told_70 (by decide) ?_
          exact z_iret C E (Nat.le_of_ble_eq_true rfl) (Nat.le_of_ble_eq_true rfl) d_LT_told_71 hf
        · refine z_aload_n C 0 d_LT_told_62 rfl rfl ?_
          refine z_iload_n C 1 d_LT_told_63 rfl rfl ?_
          obtain ⟨p3, hc, hf⟩ := Option.bind_eq_some_iff.mp hf
          obtain ⟨hz, hc⟩ := zck_some hc
          refine z_callV C (ci := 1) (c_LT_toldOfTable N C.2.2.1 hc) rfl hz w_687 w_57 w_684 w_686 w_27 pd_LT_toldOfTable rfl ⟨(Nat.le_of_ble_eq_true rfl), (Nat.le_of_ble_eq_true rfl)⟩ ⟨(Nat.le_of_ble_eq_true rfl), (Nat.le_of_ble_eq_true rfl)⟩ rfl (Nat.le_of_ble_eq_true rfl) d_LT_told_64 (k' := 0) (n' := 0) (stk' := [.int p3.1]) rfl rfl rfl ?_
          refine z_goto (tgt := 71) C d_LT_told_67 (by decide) ?_
          exact z_iret C E (Nat.le_of_ble_eq_true rfl) (Nat.le_of_ble_eq_true rfl) d_LT_told_71 hf
      · refine z_aload_n C 0 d_LT_told_37 rfl rfl ?_
        refine z_getR C 1 0 rfl in_LT (by decide) w_266 rfl d_LT_told_38 hf (fun v4 hf => ?_)
        refine z_aload_n C 0 d_LT_told_41 rfl rfl ?_
        refine z_getR C 1 0 rfl in_LT (by decide) w_266 rfl d_LT_told_42 hf (fun v5 hf => ?_)
        refine z_getR C 2 6 rfl in_Site (by decide) w_112 rfl d_LT_told_45 hf (fun v6 hf => ?_)
        obtain ⟨p7, hc, hf⟩ := Option.bind_eq_some_iff.mp hf
        obtain ⟨hz, hc⟩ := zck_some hc
        refine z_callV C (ci := 2) (c_Site_countSet N C.2.2.1 hc) rfl hz w_683 w_59 w_680 w_681 w_682 pd_Site_countSet rfl ⟨(Nat.le_of_ble_eq_true rfl), (Nat.le_of_ble_eq_true rfl)⟩ ⟨(Nat.le_of_ble_eq_true rfl), (Nat.le_of_ble_eq_true rfl)⟩ rfl (Nat.le_of_ble_eq_true rfl) d_LT_told_48 (k' := 0) (n' := 0) (stk' := [.int p7.1]) rfl rfl rfl ?_
        exact z_iret C E (Nat.le_of_ble_eq_true rfl) (Nat.le_of_ble_eq_true rfl) d_LT_told_51 hf
    · refine z_aload_n C 0 d_LT_told_17 rfl rfl ?_
      refine z_getR C 1 0 rfl in_LT (by decide) w_266 rfl d_LT_told_18 hf (fun v8 hf => ?_)
      refine z_aload_n C 0 d_LT_told_21 rfl rfl ?_
      refine z_getR C 1 0 rfl in_LT (by decide) w_266 rfl d_LT_told_22 hf (fun v9 hf => ?_)
      refine z_getR C 2 5 rfl in_Site (by decide) w_110 rfl d_LT_told_25 hf (fun v10 hf => ?_)
      obtain ⟨p11, hc, hf⟩ := Option.bind_eq_some_iff.mp hf
      obtain ⟨hz, hc⟩ := zck_some hc
      refine z_callV C (ci := 2) (c_Site_countSet N C.2.2.1 hc) rfl hz w_683 w_59 w_680 w_681 w_682 pd_Site_countSet rfl ⟨(Nat.le_of_ble_eq_true rfl), (Nat.le_of_ble_eq_true rfl)⟩ ⟨(Nat.le_of_ble_eq_true rfl), (Nat.le_of_ble_eq_true rfl)⟩ rfl (Nat.le_of_ble_eq_true rfl) d_LT_told_28 (k' := 0) (n' := 0) (stk' := [.int p11.1]) rfl rfl rfl ?_
      exact z_iret C E (Nat.le_of_ble_eq_true rfl) (Nat.le_of_ble_eq_true rfl) d_LT_told_31 hf
  · refine z_aload_n C 0 d_LT_told_4 rfl rfl ?_
    refine z_getR C 1 1 rfl in_LT (by decide) w_267 rfl d_LT_told_5 hf (fun v12 hf => ?_)
    refine z_getI C 3 0 rfl in_Spans (by decide) w_150 rfl d_LT_told_8 hf (fun v13 hf => ?_)
    exact z_iret C E (Nat.le_of_ble_eq_true rfl) (Nat.le_of_ble_eq_true rfl) d_LT_told_11 hf

theorem c_LT_told (N : Nat) {l : Launch} {D : va_G} {T : List (ClassId × FieldType)} (hT : T.map (fun q => q.2) = ztl) {x0 : Nat} {x1 : Int32} {h : zH} {p : Int32 × zH} (hf : f_LT_told N x0 x1 h = some p) : zM l y_LT_told prog_1_method_19_code 2 (some .int) rm_LT_told D T [.ref x0, .int x1] h (some (.int p.1)) p.2 :=
  z_enter (by decide) hT (Nat.le_of_ble_eq_true rfl) (fun X el eD eT hin C E => k_LT_told N C E x0 x1 h hf)
/-! ===== LevelTables.keeps()Z ===== -/
abbrev y_LT_keeps : MethodName := ⟨R_LT, "keeps", "()Z"⟩
theorem pd_LT_keeps : y_LT_keeps.cls ≠ "java/lang/invoke/MethodHandle" ∧ y_LT_keeps.cls ≠ "java/lang/invoke/VarHandle" ∧ (parseMethodDescriptor y_LT_keeps.desc).map (fun d => d.parameters.length) = some 0 := ⟨by decide +kernel, by decide +kernel, by decide +kernel⟩
abbrev rm_LT_keeps : Room := { frames := 5, cells := 0, slots := 0, locals := 116 }
def f_LT_keeps (N : Nat) (x0 : Nat) (h : zH) : Option (Int32 × zH) :=
  Option.bind (zgR h x0 1 3) fun (v1 : Nat) =>
  Option.bind (zgI h v1 5 4) fun (v2 : Int32) =>
  (if v2 = 0 then
    zrb (0 : Int32) h
  else
    Option.bind (zgR h x0 1 3) fun (v3 : Nat) =>
    Option.bind (zck (zis h v3 5) (f_Table_holdsAll N v3  h)) fun (p4 : Int32 × zH) =>
    (if p4.1 = 0 then
      zrb (0 : Int32) p4.2
    else
      zrb (1 : Int32) p4.2))
theorem d_LT_keeps_0 : decode prog_1_method_20_code 0 = .ok (.aload_n (0), 1) := by decide +kernel
theorem d_LT_keeps_1 : decode prog_1_method_20_code 1 = .ok (.getfield (48), 3) := by decide +kernel
theorem d_LT_keeps_4 : decode prog_1_method_20_code 4 = .ok (.getfield (150), 3) := by decide +kernel
theorem d_LT_keeps_7 : decode prog_1_method_20_code 7 = .ok (.ifCond .eq (17), 3) := by decide +kernel
theorem d_LT_keeps_10 : decode prog_1_method_20_code 10 = .ok (.aload_n (0), 1) := by decide +kernel
theorem d_LT_keeps_11 : decode prog_1_method_20_code 11 = .ok (.getfield (48), 3) := by decide +kernel
theorem d_LT_keeps_14 : decode prog_1_method_20_code 14 = .ok (.invokevirtual (231), 3) := by decide +kernel
theorem d_LT_keeps_17 : decode prog_1_method_20_code 17 = .ok (.ifCond .eq (7), 3) := by decide +kernel
theorem d_LT_keeps_20 : decode prog_1_method_20_code 20 = .ok (.iconst (1), 1) := by decide +kernel
theorem d_LT_keeps_21 : decode prog_1_method_20_code 21 = .ok (.goto (4), 3) := by decide +kernel
theorem d_LT_keeps_24 : decode prog_1_method_20_code 24 = .ok (.iconst (0), 1) := by decide +kernel
theorem d_LT_keeps_25 : decode prog_1_method_20_code 25 = .ok (.ireturn, 1) := by decide +kernel
set_option maxHeartbeats 4000000 in
set_option maxRecDepth 100000 in
theorem k_LT_keeps (N : Nat) {X : zX} (C : zB X prog_1_method_20_code 1 R_LT rm_LT_keeps) {h0 : zH} {p : Int32 × zH} (E : zR X (some .boolean) rm_LT_keeps h0 (some (.int p.1)) p.2) : ∀ (x0 : Nat) (h : zH), f_LT_keeps N x0 h = some p → Zt X 1 0 0 0 [(0, .ref x0)] [] h := by
  intro x0 h hf
  unfold f_LT_keeps at hf
  refine z_aload_n C 0 d_LT_keeps_0 rfl rfl ?_
  refine z_getR C 1 3 rfl in_LT (by decide) w_269 rfl d_LT_keeps_1 hf (fun v1 hf => ?_)
  refine z_getI C 5 4 rfl in_Table (by decide) w_205 rfl d_LT_keeps_4 hf (fun v2 hf => ?_)
  refine z_if_eq (tgt := 24) C d_LT_keeps_7 (by decide) hf (fun hf => ?_) (fun hf => ?_)
  · refine z_iconst C (v := (0 : Int32)) d_LT_keeps_24 (by decide) ?_
    exact z_zret C E (Nat.le_of_ble_eq_true rfl) (Nat.le_of_ble_eq_true rfl) d_LT_keeps_25 hf
  · refine z_aload_n C 0 d_LT_keeps_10 rfl rfl ?_
    refine z_getR C 1 3 rfl in_LT (by decide) w_269 rfl d_LT_keeps_11 hf (fun v3 hf => ?_)
    obtain ⟨p4, hc, hf⟩ := Option.bind_eq_some_iff.mp hf
    obtain ⟨hz, hc⟩ := zck_some hc
    refine z_callV C (ci := 5) (c_Table_holdsAll N C.2.2.1 hc) rfl hz w_709 w_63 w_706 w_707 w_708 pd_Table_holdsAll rfl ⟨(Nat.le_of_ble_eq_true rfl), (Nat.le_of_ble_eq_true rfl)⟩ ⟨(Nat.le_of_ble_eq_true rfl), (Nat.le_of_ble_eq_true rfl)⟩ rfl (Nat.le_of_ble_eq_true rfl) d_LT_keeps_14 (k' := 0) (n' := 0) (stk' := [.int p4.1]) rfl rfl rfl ?_
    refine z_if_eq (tgt := 24) C d_LT_keeps_17 (by decide) hf (fun hf => ?_) (fun hf => ?_)
    · refine z_iconst C (v := (0 : Int32)) d_LT_keeps_24 (by decide) ?_
      exact z_zret C E (Nat.le_of_ble_eq_true rfl) (Nat.le_of_ble_eq_true rfl) d_LT_keeps_25 hf
    · refine z_iconst C (v := (1 : Int32)) d_LT_keeps_20 (by decide) ?_
      refine z_goto (tgt := 25) C d_LT_keeps_21 (by decide) ?_
      exact z_zret C E (Nat.le_of_ble_eq_true rfl) (Nat.le_of_ble_eq_true rfl) d_LT_keeps_25 hf

theorem c_LT_keeps (N : Nat) {l : Launch} {D : va_G} {T : List (ClassId × FieldType)} (hT : T.map (fun q => q.2) = ztl) {x0 : Nat} {h : zH} {p : Int32 × zH} (hf : f_LT_keeps N x0 h = some p) : zM l y_LT_keeps prog_1_method_20_code 1 (some .boolean) rm_LT_keeps D T [.ref x0] h (some (.int p.1)) p.2 :=
  z_enter (by decide) hT (Nat.le_of_ble_eq_true rfl) (fun X el eD eT hin C E => k_LT_keeps N C E x0 h hf)
/-! ===== LevelTables$Search.fillLayer(I)V ===== -/
abbrev y_Search_fillLayer : MethodName := ⟨R_Search, "fillLayer", "(I)V"⟩
theorem pd_Search_fillLayer : y_Search_fillLayer.cls ≠ "java/lang/invoke/MethodHandle" ∧ y_Search_fillLayer.cls ≠ "java/lang/invoke/VarHandle" ∧ (parseMethodDescriptor y_Search_fillLayer.desc).map (fun d => d.parameters.length) = some 1 := ⟨by decide +kernel, by decide +kernel, by decide +kernel⟩
abbrev rm_Search_fillLayer : Room := { frames := 4, cells := 0, slots := 0, locals := 113 }
def f_Search_fillLayer_75 (N : Nat) (rc20 : Nat → Int32 → Nat → Int32 → zH → Option (Unit × zH)) (x0 : Nat) (x1 : Int32) (x2 : Nat) (x3 : Int32) (h : zH) : Option (Unit × zH) :=
  rc20 x0 x1 x2 (x3 + (1 : Int32)) h
def b_Search_fillLayer_20 (N : Nat) (rc20 : Nat → Int32 → Nat → Int32 → zH → Option (Unit × zH)) (x0 : Nat) (x1 : Int32) (x2 : Nat) (x3 : Int32) (h : zH) : Option (Unit × zH) :=
  Option.bind (zgI h x0 8 2) fun (v1 : Int32) =>
  (if v1 ≤ x3 then
    some ((), h)
  else
    Option.bind (zgR h x0 8 0) fun (v2 : Nat) =>
    Option.bind (zck (zis h v2 2) (f_Site_allows N v2 x1 x3 h)) fun (p3 : Int32 × zH) =>
    (if p3.1 = 0 then
      f_Search_fillLayer_75 N rc20 x0 x1 x2 x3 p3.2
    else
      Option.bind (zgR p3.2 x0 8 0) fun (v4 : Nat) =>
      Option.bind (zgI p3.2 v4 2 0) fun (v5 : Int32) =>
      (if x1 = v5 then
        Option.bind (zck (zis p3.2 x0 8) (f_Search_fillLast N x0 x2 x3 p3.2)) fun (p8 : Unit × zH) =>
        f_Search_fillLayer_75 N rc20 x0 x1 x2 x3 p8.2
      else
        Option.bind (zck (zis p3.2 x0 8) (f_Search_fillLeaving N x0 x1 x3 p3.2)) fun (p6 : Unit × zH) =>
        Option.bind (zck (zis p6.2 x0 8) (f_Search_fillStates N x0 x2 x3 p6.2)) fun (p7 : Unit × zH) =>
        f_Search_fillLayer_75 N rc20 x0 x1 x2 x3 p7.2)))
def f_Search_fillLayer_20 (N : Nat) : Nat → Nat → Int32 → Nat → Int32 → zH → Option (Unit × zH)
  | 0 => fun _ _ _ _ _ => none
  | n + 1 => fun x0 x1 x2 x3 h => b_Search_fillLayer_20 N (f_Search_fillLayer_20 N n) x0 x1 x2 x3 h
def f_Search_fillLayer (N : Nat) (x0 : Nat) (x1 : Int32) (h : zH) : Option (Unit × zH) :=
  Option.bind (zgR h x0 8 7) fun (v9 : Nat) =>
  Option.bind (zck (zis h x0 8) (f_Search_slotOf N x0 x1 h)) fun (p10 : Int32 × zH) =>
  Option.bind (zaR p10.2 3 v9 p10.1) fun (v11 : Nat) =>
  Option.bind (f_Arrays_fill_AJJV N v11 (1152921504606846976 : Int64) p10.2) fun (p12 : Unit × zH) =>
  f_Search_fillLayer_20 N N x0 x1 v11 (0 : Int32) p12.2
theorem d_Search_fillLayer_0 : decode prog_5_method_8_code 0 = .ok (.aload_n (0), 1) := by decide +kernel
theorem d_Search_fillLayer_1 : decode prog_5_method_8_code 1 = .ok (.getfield (52), 3) := by decide +kernel
theorem d_Search_fillLayer_4 : decode prog_5_method_8_code 4 = .ok (.aload_n (0), 1) := by decide +kernel
theorem d_Search_fillLayer_5 : decode prog_5_method_8_code 5 = .ok (.iload_n (1), 1) := by decide +kernel
theorem d_Search_fillLayer_6 : decode prog_5_method_8_code 6 = .ok (.invokevirtual (82), 3) := by decide +kernel
theorem d_Search_fillLayer_9 : decode prog_5_method_8_code 9 = .ok (.aaload, 1) := by decide +kernel
theorem d_Search_fillLayer_10 : decode prog_5_method_8_code 10 = .ok (.astore_n (2), 1) := by decide +kernel
theorem d_Search_fillLayer_11 : decode prog_5_method_8_code 11 = .ok (.aload_n (2), 1) := by decide +kernel
theorem d_Search_fillLayer_12 : decode prog_5_method_8_code 12 = .ok (.ldc2_w (78), 3) := by decide +kernel
theorem d_Search_fillLayer_15 : decode prog_5_method_8_code 15 = .ok (.invokestatic (92), 3) := by decide +kernel
theorem d_Search_fillLayer_18 : decode prog_5_method_8_code 18 = .ok (.iconst (0), 1) := by decide +kernel
theorem d_Search_fillLayer_19 : decode prog_5_method_8_code 19 = .ok (.istore_n (3), 1) := by decide +kernel
theorem d_Search_fillLayer_20 : decode prog_5_method_8_code 20 = .ok (.iload_n (3), 1) := by decide +kernel
theorem d_Search_fillLayer_21 : decode prog_5_method_8_code 21 = .ok (.aload_n (0), 1) := by decide +kernel
theorem d_Search_fillLayer_22 : decode prog_5_method_8_code 22 = .ok (.getfield (31), 3) := by decide +kernel
theorem d_Search_fillLayer_25 : decode prog_5_method_8_code 25 = .ok (.if_icmp .ge (56), 3) := by decide +kernel
theorem d_Search_fillLayer_28 : decode prog_5_method_8_code 28 = .ok (.aload_n (0), 1) := by decide +kernel
theorem d_Search_fillLayer_29 : decode prog_5_method_8_code 29 = .ok (.getfield (15), 3) := by decide +kernel
theorem d_Search_fillLayer_32 : decode prog_5_method_8_code 32 = .ok (.iload_n (1), 1) := by decide +kernel
theorem d_Search_fillLayer_33 : decode prog_5_method_8_code 33 = .ok (.iload_n (3), 1) := by decide +kernel
theorem d_Search_fillLayer_34 : decode prog_5_method_8_code 34 = .ok (.invokevirtual (98), 3) := by decide +kernel
theorem d_Search_fillLayer_37 : decode prog_5_method_8_code 37 = .ok (.ifCond .ne (6), 3) := by decide +kernel
theorem d_Search_fillLayer_40 : decode prog_5_method_8_code 40 = .ok (.goto (35), 3) := by decide +kernel
theorem d_Search_fillLayer_43 : decode prog_5_method_8_code 43 = .ok (.iload_n (1), 1) := by decide +kernel
theorem d_Search_fillLayer_44 : decode prog_5_method_8_code 44 = .ok (.aload_n (0), 1) := by decide +kernel
theorem d_Search_fillLayer_45 : decode prog_5_method_8_code 45 = .ok (.getfield (15), 3) := by decide +kernel
theorem d_Search_fillLayer_48 : decode prog_5_method_8_code 48 = .ok (.getfield (47), 3) := by decide +kernel
theorem d_Search_fillLayer_51 : decode prog_5_method_8_code 51 = .ok (.if_icmp .ne (12), 3) := by decide +kernel
theorem d_Search_fillLayer_54 : decode prog_5_method_8_code 54 = .ok (.aload_n (0), 1) := by decide +kernel
theorem d_Search_fillLayer_55 : decode prog_5_method_8_code 55 = .ok (.aload_n (2), 1) := by decide +kernel
theorem d_Search_fillLayer_56 : decode prog_5_method_8_code 56 = .ok (.iload_n (3), 1) := by decide +kernel
theorem d_Search_fillLayer_57 : decode prog_5_method_8_code 57 = .ok (.invokevirtual (102), 3) := by decide +kernel
theorem d_Search_fillLayer_60 : decode prog_5_method_8_code 60 = .ok (.goto (15), 3) := by decide +kernel
theorem d_Search_fillLayer_63 : decode prog_5_method_8_code 63 = .ok (.aload_n (0), 1) := by decide +kernel
theorem d_Search_fillLayer_64 : decode prog_5_method_8_code 64 = .ok (.iload_n (1), 1) := by decide +kernel
theorem d_Search_fillLayer_65 : decode prog_5_method_8_code 65 = .ok (.iload_n (3), 1) := by decide +kernel
theorem d_Search_fillLayer_66 : decode prog_5_method_8_code 66 = .ok (.invokevirtual (106), 3) := by decide +kernel
theorem d_Search_fillLayer_69 : decode prog_5_method_8_code 69 = .ok (.aload_n (0), 1) := by decide +kernel
theorem d_Search_fillLayer_70 : decode prog_5_method_8_code 70 = .ok (.aload_n (2), 1) := by decide +kernel
theorem d_Search_fillLayer_71 : decode prog_5_method_8_code 71 = .ok (.iload_n (3), 1) := by decide +kernel
theorem d_Search_fillLayer_72 : decode prog_5_method_8_code 72 = .ok (.invokevirtual (110), 3) := by decide +kernel
theorem d_Search_fillLayer_75 : decode prog_5_method_8_code 75 = .ok (.iinc (3) (1), 3) := by decide +kernel
theorem d_Search_fillLayer_78 : decode prog_5_method_8_code 78 = .ok (.goto (-58), 3) := by decide +kernel
theorem d_Search_fillLayer_81 : decode prog_5_method_8_code 81 = .ok (.return_, 1) := by decide +kernel
set_option maxHeartbeats 4000000 in
set_option maxRecDepth 100000 in
theorem k_Search_fillLayer_75 (N : Nat) {X : zX} (C : zB X prog_5_method_8_code 4 R_Search rm_Search_fillLayer) {h0 : zH} {p : Unit × zH} (E : zR X none rm_Search_fillLayer h0 none p.2) {rc20 : Nat → Int32 → Nat → Int32 → zH → Option (Unit × zH)} (H20 : ∀ (x0 : Nat) (x1 : Int32) (x2 : Nat) (x3 : Int32) (h : zH), rc20 x0 x1 x2 x3 h = some p → Zt X 4 0 0 20 [(0, .ref x0), (1, .int x1), (2, .ref x2), (3, .int x3)] [] h) : ∀ (x0 : Nat) (x1 : Int32) (x2 : Nat) (x3 : Int32) (h : zH), f_Search_fillLayer_75 N rc20 x0 x1 x2 x3 h = some p → Zt X 4 0 0 75 [(0, .ref x0), (1, .int x1), (2, .ref x2), (3, .int x3)] [] h := by
  intro x0 x1 x2 x3 h hf
  unfold f_Search_fillLayer_75 at hf
  refine z_iinc C (v := (x3 + (1 : Int32))) (lv' := [(3, .int (x3 + (1 : Int32))), (0, .ref x0), (1, .int x1), (2, .ref x2)]) 3 d_Search_fillLayer_75 rfl (by rfl) (by decide) rfl ?_
  refine z_goto (tgt := 20) C d_Search_fillLayer_78 (by decide) ?_
  refine z_sub [1, 2, 3, 0] rfl ?_
  exact H20 _ _ _ _ _ hf

set_option maxHeartbeats 4000000 in
set_option maxRecDepth 100000 in
theorem k_Search_fillLayer_20 (N : Nat) {X : zX} (C : zB X prog_5_method_8_code 4 R_Search rm_Search_fillLayer) {h0 : zH} {p : Unit × zH} (E : zR X none rm_Search_fillLayer h0 none p.2) : ∀ n : Nat, ∀ (x0 : Nat) (x1 : Int32) (x2 : Nat) (x3 : Int32) (h : zH), f_Search_fillLayer_20 N n x0 x1 x2 x3 h = some p → Zt X 4 0 0 20 [(0, .ref x0), (1, .int x1), (2, .ref x2), (3, .int x3)] [] h := by
  intro n
  induction n with
  | zero => intro x0 x1 x2 x3 h hf; cases hf
  | succ n ih =>
  intro x0 x1 x2 x3 h hf
  have H20 := ih
  replace hf : b_Search_fillLayer_20 N (f_Search_fillLayer_20 N n) x0 x1 x2 x3 h = some p := hf
  unfold b_Search_fillLayer_20 at hf
  refine z_iload_n C 3 d_Search_fillLayer_20 rfl rfl ?_
  refine z_aload_n C 0 d_Search_fillLayer_21 rfl rfl ?_
  refine z_getI C 8 2 rfl in_Search (by decide) w_424 rfl d_Search_fillLayer_22 hf (fun v1 hf => ?_)
  refine z_ic_ge (tgt := 81) C d_Search_fillLayer_25 (by decide) hf (fun hf => ?_) (fun hf => ?_)
  · exact z_vret C E (Nat.le_of_ble_eq_true rfl) (Nat.le_of_ble_eq_true rfl) d_Search_fillLayer_81 hf
  · refine z_aload_n C 0 d_Search_fillLayer_28 rfl rfl ?_
    refine z_getR C 8 0 rfl in_Search (by decide) w_422 rfl d_Search_fillLayer_29 hf (fun v2 hf => ?_)
    refine z_iload_n C 1 d_Search_fillLayer_32 rfl rfl ?_
    refine z_iload_n C 3 d_Search_fillLayer_33 rfl rfl ?_
    obtain ⟨p3, hc, hf⟩ := Option.bind_eq_some_iff.mp hf
    obtain ⟨hz, hc⟩ := zck_some hc
    refine z_callV C (ci := 2) (c_Site_allows N C.2.2.1 hc) rfl hz w_375 w_59 w_470 w_373 w_374 pd_Site_allows rfl ⟨(Nat.le_of_ble_eq_true rfl), (Nat.le_of_ble_eq_true rfl)⟩ ⟨(Nat.le_of_ble_eq_true rfl), (Nat.le_of_ble_eq_true rfl)⟩ rfl (Nat.le_of_ble_eq_true rfl) d_Search_fillLayer_34 (k' := 0) (n' := 0) (stk' := [.int p3.1]) rfl rfl rfl ?_
    refine z_if_ne (tgt := 43) C d_Search_fillLayer_37 (by decide) hf (fun hf => ?_) (fun hf => ?_)
    · refine z_iload_n C 1 d_Search_fillLayer_43 rfl rfl ?_
      refine z_aload_n C 0 d_Search_fillLayer_44 rfl rfl ?_
      refine z_getR C 8 0 rfl in_Search (by decide) w_422 rfl d_Search_fillLayer_45 hf (fun v4 hf => ?_)
      refine z_getI C 2 0 rfl in_Site (by decide) w_95 rfl d_Search_fillLayer_48 hf (fun v5 hf => ?_)
      refine z_ic_ne (tgt := 63) C d_Search_fillLayer_51 (by decide) hf (fun hf => ?_) (fun hf => ?_)
      · refine z_aload_n C 0 d_Search_fillLayer_63 rfl rfl ?_
        refine z_iload_n C 1 d_Search_fillLayer_64 rfl rfl ?_
        refine z_iload_n C 3 d_Search_fillLayer_65 rfl rfl ?_
        obtain ⟨p6, hc, hf⟩ := Option.bind_eq_some_iff.mp hf
        obtain ⟨hz, hc⟩ := zck_some hc
        refine z_callV C (ci := 8) (c_Search_fillLeaving N C.2.2.1 hc) rfl hz w_493 w_67 w_490 w_492 w_11 pd_Search_fillLeaving rfl ⟨(Nat.le_of_ble_eq_true rfl), (Nat.le_of_ble_eq_true rfl)⟩ ⟨(Nat.le_of_ble_eq_true rfl), (Nat.le_of_ble_eq_true rfl)⟩ rfl (Nat.le_of_ble_eq_true rfl) d_Search_fillLayer_66 (k' := 0) (n' := 0) (stk' := []) rfl rfl rfl ?_
        refine z_aload_n C 0 d_Search_fillLayer_69 rfl rfl ?_
        refine z_aload_n C 2 d_Search_fillLayer_70 rfl rfl ?_
        refine z_iload_n C 3 d_Search_fillLayer_71 rfl rfl ?_
        obtain ⟨p7, hc, hf⟩ := Option.bind_eq_some_iff.mp hf
        obtain ⟨hz, hc⟩ := zck_some hc
        refine z_callV C (ci := 8) (c_Search_fillStates N C.2.2.1 hc) rfl hz w_528 w_67 w_525 w_527 w_17 pd_Search_fillStates rfl ⟨(Nat.le_of_ble_eq_true rfl), (Nat.le_of_ble_eq_true rfl)⟩ ⟨(Nat.le_of_ble_eq_true rfl), (Nat.le_of_ble_eq_true rfl)⟩ rfl (Nat.le_of_ble_eq_true rfl) d_Search_fillLayer_72 (k' := 0) (n' := 0) (stk' := []) rfl rfl rfl ?_
        refine z_sub [0, 1, 2, 3] rfl ?_
        exact k_Search_fillLayer_75 N C E H20 _ _ _ _ _ hf
      · refine z_aload_n C 0 d_Search_fillLayer_54 rfl rfl ?_
        refine z_aload_n C 2 d_Search_fillLayer_55 rfl rfl ?_
        refine z_iload_n C 3 d_Search_fillLayer_56 rfl rfl ?_
        obtain ⟨p8, hc, hf⟩ := Option.bind_eq_some_iff.mp hf
        obtain ⟨hz, hc⟩ := zck_some hc
        refine z_callV C (ci := 8) (c_Search_fillLast N C.2.2.1 hc) rfl hz w_474 w_67 w_471 w_473 w_8 pd_Search_fillLast rfl ⟨(Nat.le_of_ble_eq_true rfl), (Nat.le_of_ble_eq_true rfl)⟩ ⟨(Nat.le_of_ble_eq_true rfl), (Nat.le_of_ble_eq_true rfl)⟩ rfl (Nat.le_of_ble_eq_true rfl) d_Search_fillLayer_57 (k' := 0) (n' := 0) (stk' := []) rfl rfl rfl ?_
        refine z_goto (tgt := 75) C d_Search_fillLayer_60 (by decide) ?_
        refine z_sub [0, 1, 2, 3] rfl ?_
        exact k_Search_fillLayer_75 N C E H20 _ _ _ _ _ hf
    · refine z_goto (tgt := 75) C d_Search_fillLayer_40 (by decide) ?_
      refine z_sub [0, 1, 2, 3] rfl ?_
      exact k_Search_fillLayer_75 N C E H20 _ _ _ _ _ hf

set_option maxHeartbeats 4000000 in
set_option maxRecDepth 100000 in
theorem k_Search_fillLayer (N : Nat) {X : zX} (C : zB X prog_5_method_8_code 4 R_Search rm_Search_fillLayer) {h0 : zH} {p : Unit × zH} (E : zR X none rm_Search_fillLayer h0 none p.2) : ∀ (x0 : Nat) (x1 : Int32) (h : zH), f_Search_fillLayer N x0 x1 h = some p → Zt X 4 0 0 0 [(0, .ref x0), (1, .int x1)] [] h := by
  intro x0 x1 h hf
  unfold f_Search_fillLayer at hf
  refine z_aload_n C 0 d_Search_fillLayer_0 rfl rfl ?_
  refine z_getR C 8 7 rfl in_Search (by decide) w_429 rfl d_Search_fillLayer_1 hf (fun v9 hf => ?_)
  refine z_aload_n C 0 d_Search_fillLayer_4 rfl rfl ?_
  refine z_iload_n C 1 d_Search_fillLayer_5 rfl rfl ?_
  obtain ⟨p10, hc, hf⟩ := Option.bind_eq_some_iff.mp hf
  obtain ⟨hz, hc⟩ := zck_some hc
  refine z_callV C (ci := 8) (c_Search_slotOf N C.2.2.1 hc) rfl hz w_467 w_67 w_464 w_466 w_7 pd_Search_slotOf rfl ⟨(Nat.le_of_ble_eq_true rfl), (Nat.le_of_ble_eq_true rfl)⟩ ⟨(Nat.le_of_ble_eq_true rfl), (Nat.le_of_ble_eq_true rfl)⟩ rfl (Nat.le_of_ble_eq_true rfl) d_Search_fillLayer_6 (k' := 0) (n' := 0) (stk' := [.int p10.1, .ref v9]) rfl rfl rfl ?_
  refine z_aald C d_Search_fillLayer_9 hf (fun v11 hf => ?_)
  refine z_astore_n C (lv' := [(2, .ref v11), (0, .ref x0), (1, .int x1)]) d_Search_fillLayer_10 rfl (by decide) rfl ?_
  refine z_aload_n C 0 d_Search_fillLayer_11 rfl rfl ?_
  refine z_ldc2 C d_Search_fillLayer_12 w_468 ?_
  obtain ⟨p12, hc, hf⟩ := Option.bind_eq_some_iff.mp hf
  refine z_callS C (c_Arrays_fill_AJJV N C.2.2.1 hc) w_383 w_60 w_469 w_382 pd_Arrays_fill_AJJV rfl ⟨(Nat.le_of_ble_eq_true rfl), (Nat.le_of_ble_eq_true rfl)⟩ ⟨(Nat.le_of_ble_eq_true rfl), (Nat.le_of_ble_eq_true rfl)⟩ rfl (Nat.le_of_ble_eq_true rfl) d_Search_fillLayer_15 (k' := 0) (n' := 0) (stk' := []) rfl rfl rfl ?_
  refine z_iconst C (v := (0 : Int32)) d_Search_fillLayer_18 (by decide) ?_
  refine z_istore_n C (lv' := [(3, .int (0 : Int32)), (2, .ref v11), (0, .ref x0), (1, .int x1)]) d_Search_fillLayer_19 rfl (by decide) rfl ?_
  refine z_sub [2, 3, 1, 0] rfl ?_
  exact k_Search_fillLayer_20 N C E N _ _ _ _ _ hf

theorem c_Search_fillLayer (N : Nat) {l : Launch} {D : va_G} {T : List (ClassId × FieldType)} (hT : T.map (fun q => q.2) = ztl) {x0 : Nat} {x1 : Int32} {h : zH} {p : Unit × zH} (hf : f_Search_fillLayer N x0 x1 h = some p) : zM l y_Search_fillLayer prog_5_method_8_code 4 none rm_Search_fillLayer D T [.ref x0, .int x1] h none p.2 :=
  z_enter (by decide) hT (Nat.le_of_ble_eq_true rfl) (fun X el eD eT hin C E => k_Search_fillLayer N C E x0 x1 h hf)
/-! ===== LevelTables$Search.fillLayers()V ===== -/
abbrev y_Search_fillLayers : MethodName := ⟨R_Search, "fillLayers", "()V"⟩
theorem pd_Search_fillLayers : y_Search_fillLayers.cls ≠ "java/lang/invoke/MethodHandle" ∧ y_Search_fillLayers.cls ≠ "java/lang/invoke/VarHandle" ∧ (parseMethodDescriptor y_Search_fillLayers.desc).map (fun d => d.parameters.length) = some 0 := ⟨by decide +kernel, by decide +kernel, by decide +kernel⟩
abbrev rm_Search_fillLayers : Room := { frames := 5, cells := 0, slots := 0, locals := 136 }
def f_Search_fillLayers_41 (N : Nat) (rc8 : Nat → Int32 → zH → Option (Unit × zH)) (x0 : Nat) (x1 : Int32) (h : zH) : Option (Unit × zH) :=
  rc8 x0 (x1 + (-1 : Int32)) h
def b_Search_fillLayers_8 (N : Nat) (rc8 : Nat → Int32 → zH → Option (Unit × zH)) (x0 : Nat) (x1 : Int32) (h : zH) : Option (Unit × zH) :=
  (if x1 < (1 : Int32) then
    Option.bind (zck (zis h x0 8) (f_Search_fillLeast N x0  h)) fun (p1 : Unit × zH) =>
    some ((), p1.2)
  else
    Option.bind (zck (zis h x0 8) (f_Search_fillLayer N x0 x1 h)) fun (p2 : Unit × zH) =>
    Option.bind (zgI p2.2 x0 8 4) fun (v3 : Int32) =>
    (if v3 = 0 then
      Option.bind (zgR p2.2 x0 8 1) fun (v4 : Nat) =>
      Option.bind (zck (zis p2.2 v4 3) (f_Spans_anyEndsAt N v4 x1 p2.2)) fun (p5 : Int32 × zH) =>
      (if p5.1 = 0 then
        f_Search_fillLayers_41 N rc8 x0 x1 p5.2
      else
        Option.bind (zck (zis p5.2 x0 8) (f_Search_keepLayer N x0 x1 p5.2)) fun (p6 : Unit × zH) =>
        f_Search_fillLayers_41 N rc8 x0 x1 p6.2)
    else
      f_Search_fillLayers_41 N rc8 x0 x1 p2.2))
def f_Search_fillLayers_8 (N : Nat) : Nat → Nat → Int32 → zH → Option (Unit × zH)
  | 0 => fun _ _ _ => none
  | n + 1 => fun x0 x1 h => b_Search_fillLayers_8 N (f_Search_fillLayers_8 N n) x0 x1 h
def f_Search_fillLayers (N : Nat) (x0 : Nat) (h : zH) : Option (Unit × zH) :=
  Option.bind (zgR h x0 8 0) fun (v7 : Nat) =>
  Option.bind (zgI h v7 2 0) fun (v8 : Int32) =>
  f_Search_fillLayers_8 N N x0 v8 h
theorem d_Search_fillLayers_0 : decode prog_5_method_2_code 0 = .ok (.aload_n (0), 1) := by decide +kernel
theorem d_Search_fillLayers_1 : decode prog_5_method_2_code 1 = .ok (.getfield (15), 3) := by decide +kernel
theorem d_Search_fillLayers_4 : decode prog_5_method_2_code 4 = .ok (.getfield (47), 3) := by decide +kernel
theorem d_Search_fillLayers_7 : decode prog_5_method_2_code 7 = .ok (.istore_n (1), 1) := by decide +kernel
theorem d_Search_fillLayers_8 : decode prog_5_method_2_code 8 = .ok (.iload_n (1), 1) := by decide +kernel
theorem d_Search_fillLayers_9 : decode prog_5_method_2_code 9 = .ok (.iconst (1), 1) := by decide +kernel
theorem d_Search_fillLayers_10 : decode prog_5_method_2_code 10 = .ok (.if_icmp .lt (37), 3) := by decide +kernel
theorem d_Search_fillLayers_13 : decode prog_5_method_2_code 13 = .ok (.aload_n (0), 1) := by decide +kernel
theorem d_Search_fillLayers_14 : decode prog_5_method_2_code 14 = .ok (.iload_n (1), 1) := by decide +kernel
theorem d_Search_fillLayers_15 : decode prog_5_method_2_code 15 = .ok (.invokevirtual (62), 3) := by decide +kernel
theorem d_Search_fillLayers_18 : decode prog_5_method_2_code 18 = .ok (.aload_n (0), 1) := by decide +kernel
theorem d_Search_fillLayers_19 : decode prog_5_method_2_code 19 = .ok (.getfield (34), 3) := by decide +kernel
theorem d_Search_fillLayers_22 : decode prog_5_method_2_code 22 = .ok (.ifCond .ne (19), 3) := by decide +kernel
theorem d_Search_fillLayers_25 : decode prog_5_method_2_code 25 = .ok (.aload_n (0), 1) := by decide +kernel
theorem d_Search_fillLayers_26 : decode prog_5_method_2_code 26 = .ok (.getfield (19), 3) := by decide +kernel
theorem d_Search_fillLayers_29 : decode prog_5_method_2_code 29 = .ok (.iload_n (1), 1) := by decide +kernel
theorem d_Search_fillLayers_30 : decode prog_5_method_2_code 30 = .ok (.invokevirtual (66), 3) := by decide +kernel
theorem d_Search_fillLayers_33 : decode prog_5_method_2_code 33 = .ok (.ifCond .eq (8), 3) := by decide +kernel
theorem d_Search_fillLayers_36 : decode prog_5_method_2_code 36 = .ok (.aload_n (0), 1) := by decide +kernel
theorem d_Search_fillLayers_37 : decode prog_5_method_2_code 37 = .ok (.iload_n (1), 1) := by decide +kernel
theorem d_Search_fillLayers_38 : decode prog_5_method_2_code 38 = .ok (.invokevirtual (72), 3) := by decide +kernel
theorem d_Search_fillLayers_41 : decode prog_5_method_2_code 41 = .ok (.iinc (1) (-1), 3) := by decide +kernel
theorem d_Search_fillLayers_44 : decode prog_5_method_2_code 44 = .ok (.goto (-36), 3) := by decide +kernel
theorem d_Search_fillLayers_47 : decode prog_5_method_2_code 47 = .ok (.aload_n (0), 1) := by decide +kernel
theorem d_Search_fillLayers_48 : decode prog_5_method_2_code 48 = .ok (.invokevirtual (75), 3) := by decide +kernel
theorem d_Search_fillLayers_51 : decode prog_5_method_2_code 51 = .ok (.return_, 1) := by decide +kernel
set_option maxHeartbeats 4000000 in
set_option maxRecDepth 100000 in
theorem k_Search_fillLayers_41 (N : Nat) {X : zX} (C : zB X prog_5_method_2_code 2 R_Search rm_Search_fillLayers) {h0 : zH} {p : Unit × zH} (E : zR X none rm_Search_fillLayers h0 none p.2) {rc8 : Nat → Int32 → zH → Option (Unit × zH)} (H8 : ∀ (x0 : Nat) (x1 : Int32) (h : zH), rc8 x0 x1 h = some p → Zt X 2 0 0 8 [(0, .ref x0), (1, .int x1)] [] h) : ∀ (x0 : Nat) (x1 : Int32) (h : zH), f_Search_fillLayers_41 N rc8 x0 x1 h = some p → Zt X 2 0 0 41 [(0, .ref x0), (1, .int x1)] [] h := by
  intro x0 x1 h hf
  unfold f_Search_fillLayers_41 at hf
  refine z_iinc C (v := (x1 + (-1 : Int32))) (lv' := [(1, .int (x1 + (-1 : Int32))), (0, .ref x0)]) 1 d_Search_fillLayers_41 rfl (by rfl) (by decide) rfl ?_
  refine z_goto (tgt := 8) C d_Search_fillLayers_44 (by decide) ?_
  refine z_sub [1, 0] rfl ?_
  exact H8 _ _ _ hf

set_option maxHeartbeats 4000000 in
set_option maxRecDepth 100000 in
theorem k_Search_fillLayers_8 (N : Nat) {X : zX} (C : zB X prog_5_method_2_code 2 R_Search rm_Search_fillLayers) {h0 : zH} {p : Unit × zH} (E : zR X none rm_Search_fillLayers h0 none p.2) : ∀ n : Nat, ∀ (x0 : Nat) (x1 : Int32) (h : zH), f_Search_fillLayers_8 N n x0 x1 h = some p → Zt X 2 0 0 8 [(0, .ref x0), (1, .int x1)] [] h := by
  intro n
  induction n with
  | zero => intro x0 x1 h hf; cases hf
  | succ n ih =>
  intro x0 x1 h hf
  have H8 := ih
  replace hf : b_Search_fillLayers_8 N (f_Search_fillLayers_8 N n) x0 x1 h = some p := hf
  unfold b_Search_fillLayers_8 at hf
  refine z_iload_n C 1 d_Search_fillLayers_8 rfl rfl ?_
  refine z_iconst C (v := (1 : Int32)) d_Search_fillLayers_9 (by decide) ?_
  refine z_ic_lt (tgt := 47) C d_Search_fillLayers_10 (by decide) hf (fun hf => ?_) (fun hf => ?_)
  · refine z_aload_n C 0 d_Search_fillLayers_47 rfl rfl ?_
    obtain ⟨p1, hc, hf⟩ := Option.bind_eq_some_iff.mp hf
    obtain ⟨hz, hc⟩ := zck_some hc
    refine z_callV C (ci := 8) (c_Search_fillLeast N C.2.2.1 hc) rfl hz w_549 w_67 w_546 w_548 w_20 pd_Search_fillLeast rfl ⟨(Nat.le_of_ble_eq_true rfl), (Nat.le_of_ble_eq_true rfl)⟩ ⟨(Nat.le_of_ble_eq_true rfl), (Nat.le_of_ble_eq_true rfl)⟩ rfl (Nat.le_of_ble_eq_true rfl) d_Search_fillLayers_48 (k' := 0) (n' := 0) (stk' := []) rfl rfl rfl ?_
    exact z_vret C E (Nat.le_of_ble_eq_true rfl) (Nat.le_of_ble_eq_true rfl) d_Search_fillLayers_51 hf
  · refine z_aload_n C 0 d_Search_fillLayers_13 rfl rfl ?_
    refine z_iload_n C 1 d_Search_fillLayers_14 rfl rfl ?_
    obtain ⟨p2, hc, hf⟩ := Option.bind_eq_some_iff.mp hf
    obtain ⟨hz, hc⟩ := zck_some hc
    refine z_callV C (ci := 8) (c_Search_fillLayer N C.2.2.1 hc) rfl hz w_463 w_67 w_460 w_462 w_6 pd_Search_fillLayer rfl ⟨(Nat.le_of_ble_eq_true rfl), (Nat.le_of_ble_eq_true rfl)⟩ ⟨(Nat.le_of_ble_eq_true rfl), (Nat.le_of_ble_eq_true rfl)⟩ rfl (Nat.le_of_ble_eq_true rfl) d_Search_fillLayers_15 (k' := 0) (n' := 0) (stk' := []) rfl rfl rfl ?_
    refine z_aload_n C 0 d_Search_fillLayers_18 rfl rfl ?_
    refine z_getI C 8 4 rfl in_Search (by decide) w_426 rfl d_Search_fillLayers_19 hf (fun v3 hf => ?_)
    refine z_if_ne (tgt := 41) C d_Search_fillLayers_22 (by decide) hf (fun hf => ?_) (fun hf => ?_)
    · refine z_sub [0, 1] rfl ?_
      exact k_Search_fillLayers_41 N C E H8 _ _ _ hf
    · refine z_aload_n C 0 d_Search_fillLayers_25 rfl rfl ?_
      refine z_getR C 8 1 rfl in_Search (by decide) w_423 rfl d_Search_fillLayers_26 hf (fun v4 hf => ?_)
      refine z_iload_n C 1 d_Search_fillLayers_29 rfl rfl ?_
      obtain ⟨p5, hc, hf⟩ := Option.bind_eq_some_iff.mp hf
      obtain ⟨hz, hc⟩ := zck_some hc
      refine z_callV C (ci := 3) (c_Spans_anyEndsAt N C.2.2.1 hc) rfl hz w_541 w_61 w_538 w_539 w_540 pd_Spans_anyEndsAt rfl ⟨(Nat.le_of_ble_eq_true rfl), (Nat.le_of_ble_eq_true rfl)⟩ ⟨(Nat.le_of_ble_eq_true rfl), (Nat.le_of_ble_eq_true rfl)⟩ rfl (Nat.le_of_ble_eq_true rfl) d_Search_fillLayers_30 (k' := 0) (n' := 0) (stk' := [.int p5.1]) rfl rfl rfl ?_
      refine z_if_eq (tgt := 41) C d_Search_fillLayers_33 (by decide) hf (fun hf => ?_) (fun hf => ?_)
      · refine z_sub [0, 1] rfl ?_
        exact k_Search_fillLayers_41 N C E H8 _ _ _ hf
      · refine z_aload_n C 0 d_Search_fillLayers_36 rfl rfl ?_
        refine z_iload_n C 1 d_Search_fillLayers_37 rfl rfl ?_
        obtain ⟨p6, hc, hf⟩ := Option.bind_eq_some_iff.mp hf
        obtain ⟨hz, hc⟩ := zck_some hc
        refine z_callV C (ci := 8) (c_Search_keepLayer N C.2.2.1 hc) rfl hz w_545 w_67 w_542 w_544 w_19 pd_Search_keepLayer rfl ⟨(Nat.le_of_ble_eq_true rfl), (Nat.le_of_ble_eq_true rfl)⟩ ⟨(Nat.le_of_ble_eq_true rfl), (Nat.le_of_ble_eq_true rfl)⟩ rfl (Nat.le_of_ble_eq_true rfl) d_Search_fillLayers_38 (k' := 0) (n' := 0) (stk' := []) rfl rfl rfl ?_
        refine z_sub [0, 1] rfl ?_
        exact k_Search_fillLayers_41 N C E H8 _ _ _ hf

set_option maxHeartbeats 4000000 in
set_option maxRecDepth 100000 in
theorem k_Search_fillLayers (N : Nat) {X : zX} (C : zB X prog_5_method_2_code 2 R_Search rm_Search_fillLayers) {h0 : zH} {p : Unit × zH} (E : zR X none rm_Search_fillLayers h0 none p.2) : ∀ (x0 : Nat) (h : zH), f_Search_fillLayers N x0 h = some p → Zt X 2 0 0 0 [(0, .ref x0)] [] h := by
  intro x0 h hf
  unfold f_Search_fillLayers at hf
  refine z_aload_n C 0 d_Search_fillLayers_0 rfl rfl ?_
  refine z_getR C 8 0 rfl in_Search (by decide) w_422 rfl d_Search_fillLayers_1 hf (fun v7 hf => ?_)
  refine z_getI C 2 0 rfl in_Site (by decide) w_95 rfl d_Search_fillLayers_4 hf (fun v8 hf => ?_)
  refine z_istore_n C (lv' := [(1, .int v8), (0, .ref x0)]) d_Search_fillLayers_7 rfl (by decide) rfl ?_
  refine z_sub [1, 0] rfl ?_
  exact k_Search_fillLayers_8 N C E N _ _ _ hf

theorem c_Search_fillLayers (N : Nat) {l : Launch} {D : va_G} {T : List (ClassId × FieldType)} (hT : T.map (fun q => q.2) = ztl) {x0 : Nat} {h : zH} {p : Unit × zH} (hf : f_Search_fillLayers N x0 h = some p) : zM l y_Search_fillLayers prog_5_method_2_code 2 none rm_Search_fillLayers D T [.ref x0] h none p.2 :=
  z_enter (by decide) hT (Nat.le_of_ble_eq_true rfl) (fun X el eD eT hin C E => k_Search_fillLayers N C E x0 h hf)
/-! ===== LevelTables.other(I)J ===== -/
abbrev y_LT_other : MethodName := ⟨R_LT, "other", "(I)J"⟩
theorem pd_LT_other : y_LT_other.cls ≠ "java/lang/invoke/MethodHandle" ∧ y_LT_other.cls ≠ "java/lang/invoke/VarHandle" ∧ (parseMethodDescriptor y_LT_other.desc).map (fun d => d.parameters.length) = some 1 := ⟨by decide +kernel, by decide +kernel, by decide +kernel⟩
abbrev rm_LT_other : Room := { frames := 6, cells := 29, slots := 94086, locals := 157 }
def f_LT_other_71 (N : Nat) (x0 : Nat) (x1 : Int32) (h : zH) : Option (Int64 × zH) :=
  Option.bind (zgR h x0 1 7) fun (v1 : Nat) =>
  Option.bind (zck (zis h v1 8) (f_Search_leastOrNone N v1 x1 h)) fun (p2 : Int64 × zH) =>
  some (p2.1, p2.2)
def f_LT_other_52 (N : Nat) (x0 : Nat) (x1 : Int32) (h : zH) : Option (Int64 × zH) :=
  Option.bind (zgI h x0 1 8) fun (v3 : Int32) =>
  (if v3 = 0 then
    Option.bind (zgR h x0 1 7) fun (v4 : Nat) =>
    Option.bind (zck (zis h v4 8) (f_Search_fillLayers N v4  h)) fun (p5 : Unit × zH) =>
    Option.bind (zpZ p5.2 x0 1 8 (1 : Int32)) fun (h6 : zH) =>
    f_LT_other_71 N x0 x1 h6
  else
    f_LT_other_71 N x0 x1 h)
def f_LT_other (N : Nat) (x0 : Nat) (x1 : Int32) (h : zH) : Option (Int64 × zH) :=
  Option.bind (zgR h x0 1 3) fun (v7 : Nat) =>
  Option.bind (zgI h v7 5 4) fun (v8 : Int32) =>
  (if v8 = 0 then
    some ((-1 : Int64), h)
  else
    (if x1 < 0 then
      some ((-1 : Int64), h)
    else
      (if x1 < (6 : Int32) then
        Option.bind (zgQ h x0 1 7) fun q => (if q.isSome = true then
          f_LT_other_52 N x0 x1 h
        else
          Option.bind (znO h 8 df_Search) fun (q9 : Nat × zH) =>
          Option.bind (zgR q9.2 x0 1 0) fun (v10 : Nat) =>
          Option.bind (zgR q9.2 x0 1 1) fun (v11 : Nat) =>
          Option.bind (f_Search_init N q9.1 v10 v11 (6 : Int32) q9.2) fun (p12 : Unit × zH) =>
          Option.bind (zp p12.2 x0 1 7 (.ref q9.1)) fun (h13 : zH) =>
          f_LT_other_52 N x0 x1 h13)
      else
        some ((-1 : Int64), h))))
theorem d_LT_other_0 : decode prog_1_method_11_code 0 = .ok (.aload_n (0), 1) := by decide +kernel
theorem d_LT_other_1 : decode prog_1_method_11_code 1 = .ok (.getfield (48), 3) := by decide +kernel
theorem d_LT_other_4 : decode prog_1_method_11_code 4 = .ok (.getfield (150), 3) := by decide +kernel
theorem d_LT_other_7 : decode prog_1_method_11_code 7 = .ok (.ifCond .eq (13), 3) := by decide +kernel
theorem d_LT_other_10 : decode prog_1_method_11_code 10 = .ok (.iload_n (1), 1) := by decide +kernel
theorem d_LT_other_11 : decode prog_1_method_11_code 11 = .ok (.ifCond .lt (9), 3) := by decide +kernel
theorem d_LT_other_14 : decode prog_1_method_11_code 14 = .ok (.iload_n (1), 1) := by decide +kernel
theorem d_LT_other_15 : decode prog_1_method_11_code 15 = .ok (.bipush (6), 2) := by decide +kernel
theorem d_LT_other_17 : decode prog_1_method_11_code 17 = .ok (.if_icmp .lt (7), 3) := by decide +kernel
theorem d_LT_other_20 : decode prog_1_method_11_code 20 = .ok (.ldc2_w (161), 3) := by decide +kernel
theorem d_LT_other_23 : decode prog_1_method_11_code 23 = .ok (.lreturn, 1) := by decide +kernel
theorem d_LT_other_24 : decode prog_1_method_11_code 24 = .ok (.aload_n (0), 1) := by decide +kernel
theorem d_LT_other_25 : decode prog_1_method_11_code 25 = .ok (.getfield (163), 3) := by decide +kernel
theorem d_LT_other_28 : decode prog_1_method_11_code 28 = .ok (.ifnonnull (24), 3) := by decide +kernel
theorem d_LT_other_31 : decode prog_1_method_11_code 31 = .ok (.aload_n (0), 1) := by decide +kernel
theorem d_LT_other_32 : decode prog_1_method_11_code 32 = .ok (.new (133), 3) := by decide +kernel
theorem d_LT_other_35 : decode prog_1_method_11_code 35 = .ok (.dup, 1) := by decide +kernel
theorem d_LT_other_36 : decode prog_1_method_11_code 36 = .ok (.aload_n (0), 1) := by decide +kernel
theorem d_LT_other_37 : decode prog_1_method_11_code 37 = .ok (.getfield (23), 3) := by decide +kernel
theorem d_LT_other_40 : decode prog_1_method_11_code 40 = .ok (.aload_n (0), 1) := by decide +kernel
theorem d_LT_other_41 : decode prog_1_method_11_code 41 = .ok (.getfield (30), 3) := by decide +kernel
theorem d_LT_other_44 : decode prog_1_method_11_code 44 = .ok (.bipush (6), 2) := by decide +kernel
theorem d_LT_other_46 : decode prog_1_method_11_code 46 = .ok (.invokespecial (167), 3) := by decide +kernel
theorem d_LT_other_49 : decode prog_1_method_11_code 49 = .ok (.putfield (163), 3) := by decide +kernel
theorem d_LT_other_52 : decode prog_1_method_11_code 52 = .ok (.aload_n (0), 1) := by decide +kernel
theorem d_LT_other_53 : decode prog_1_method_11_code 53 = .ok (.getfield (170), 3) := by decide +kernel
theorem d_LT_other_56 : decode prog_1_method_11_code 56 = .ok (.ifCond .ne (15), 3) := by decide +kernel
theorem d_LT_other_59 : decode prog_1_method_11_code 59 = .ok (.aload_n (0), 1) := by decide +kernel
theorem d_LT_other_60 : decode prog_1_method_11_code 60 = .ok (.getfield (163), 3) := by decide +kernel
theorem d_LT_other_63 : decode prog_1_method_11_code 63 = .ok (.invokevirtual (132), 3) := by decide +kernel
theorem d_LT_other_66 : decode prog_1_method_11_code 66 = .ok (.aload_n (0), 1) := by decide +kernel
theorem d_LT_other_67 : decode prog_1_method_11_code 67 = .ok (.iconst (1), 1) := by decide +kernel
theorem d_LT_other_68 : decode prog_1_method_11_code 68 = .ok (.putfield (170), 3) := by decide +kernel
theorem d_LT_other_71 : decode prog_1_method_11_code 71 = .ok (.aload_n (0), 1) := by decide +kernel
theorem d_LT_other_72 : decode prog_1_method_11_code 72 = .ok (.getfield (163), 3) := by decide +kernel
theorem d_LT_other_75 : decode prog_1_method_11_code 75 = .ok (.iload_n (1), 1) := by decide +kernel
theorem d_LT_other_76 : decode prog_1_method_11_code 76 = .ok (.invokevirtual (173), 3) := by decide +kernel
theorem d_LT_other_79 : decode prog_1_method_11_code 79 = .ok (.lreturn, 1) := by decide +kernel
set_option maxHeartbeats 4000000 in
set_option maxRecDepth 100000 in
theorem k_LT_other_71 (N : Nat) {X : zX} (C : zB X prog_1_method_11_code 2 R_LT rm_LT_other) {h0 : zH} {p : Int64 × zH} (E : zR X (some .long) rm_LT_other h0 (some (.long p.1)) p.2) : ∀ (x0 : Nat) (x1 : Int32) (h : zH), f_LT_other_71 N x0 x1 h = some p → Zt X 2 29 94086 71 [(0, .ref x0), (1, .int x1)] [] h := by
  intro x0 x1 h hf
  unfold f_LT_other_71 at hf
  refine z_aload_n C 0 d_LT_other_71 rfl rfl ?_
  refine z_getR C 1 7 rfl in_LT (by decide) w_273 rfl d_LT_other_72 hf (fun v1 hf => ?_)
  refine z_iload_n C 1 d_LT_other_75 rfl rfl ?_
  obtain ⟨p2, hc, hf⟩ := Option.bind_eq_some_iff.mp hf
  obtain ⟨hz, hc⟩ := zck_some hc
  refine z_callV C (ci := 8) (c_Search_leastOrNone N C.2.2.1 hc) rfl hz w_600 w_67 w_597 w_598 w_599 pd_Search_leastOrNone rfl ⟨(Nat.le_of_ble_eq_true rfl), (Nat.le_of_ble_eq_true rfl)⟩ ⟨(Nat.le_of_ble_eq_true rfl), (Nat.le_of_ble_eq_true rfl)⟩ rfl (Nat.le_of_ble_eq_true rfl) d_LT_other_76 (k' := 29) (n' := 94086) (stk' := [.long p2.1]) rfl rfl rfl ?_
  exact z_lret C E (Nat.le_of_ble_eq_true rfl) (Nat.le_of_ble_eq_true rfl) d_LT_other_79 hf

set_option maxHeartbeats 4000000 in
set_option maxRecDepth 100000 in
theorem k_LT_other_52 (N : Nat) {X : zX} (C : zB X prog_1_method_11_code 2 R_LT rm_LT_other) {h0 : zH} {p : Int64 × zH} (E : zR X (some .long) rm_LT_other h0 (some (.long p.1)) p.2) : ∀ (x0 : Nat) (x1 : Int32) (h : zH), f_LT_other_52 N x0 x1 h = some p → Zt X 2 29 94086 52 [(0, .ref x0), (1, .int x1)] [] h := by
  intro x0 x1 h hf
  unfold f_LT_other_52 at hf
  refine z_aload_n C 0 d_LT_other_52 rfl rfl ?_
  refine z_getI C 1 8 rfl in_LT (by decide) w_274 rfl d_LT_other_53 hf (fun v3 hf => ?_)
  refine z_if_ne (tgt := 71) C d_LT_other_56 (by decide) hf (fun hf => ?_) (fun hf => ?_)
  · refine z_sub [0, 1] rfl ?_
    exact k_LT_other_71 N C E _ _ _ hf
  · refine z_aload_n C 0 d_LT_other_59 rfl rfl ?_
    refine z_getR C 1 7 rfl in_LT (by decide) w_273 rfl d_LT_other_60 hf (fun v4 hf => ?_)
    obtain ⟨p5, hc, hf⟩ := Option.bind_eq_some_iff.mp hf
    obtain ⟨hz, hc⟩ := zck_some hc
    refine z_callV C (ci := 8) (c_Search_fillLayers N C.2.2.1 hc) rfl hz w_459 w_67 w_456 w_457 w_458 pd_Search_fillLayers rfl ⟨(Nat.le_of_ble_eq_true rfl), (Nat.le_of_ble_eq_true rfl)⟩ ⟨(Nat.le_of_ble_eq_true rfl), (Nat.le_of_ble_eq_true rfl)⟩ rfl (Nat.le_of_ble_eq_true rfl) d_LT_other_63 (k' := 29) (n' := 94086) (stk' := []) rfl rfl rfl ?_
    refine z_aload_n C 0 d_LT_other_66 rfl rfl ?_
    refine z_iconst C (v := (1 : Int32)) d_LT_other_67 (by decide) ?_
    refine z_putZ C 1 8 ty_LT rfl in_LT tyok_LT nm_LT (by decide) w_274 rfl (Or.inl rfl) rfl d_LT_other_68 hf (fun h6 hf => ?_)
    refine z_sub [0, 1] rfl ?_
    exact k_LT_other_71 N C E _ _ _ hf

set_option maxHeartbeats 4000000 in
set_option maxRecDepth 100000 in
theorem k_LT_other (N : Nat) {X : zX} (C : zB X prog_1_method_11_code 2 R_LT rm_LT_other) {h0 : zH} {p : Int64 × zH} (E : zR X (some .long) rm_LT_other h0 (some (.long p.1)) p.2) : ∀ (x0 : Nat) (x1 : Int32) (h : zH), f_LT_other N x0 x1 h = some p → Zt X 2 0 0 0 [(0, .ref x0), (1, .int x1)] [] h := by
  intro x0 x1 h hf
  unfold f_LT_other at hf
  refine z_aload_n C 0 d_LT_other_0 rfl rfl ?_
  refine z_getR C 1 3 rfl in_LT (by decide) w_269 rfl d_LT_other_1 hf (fun v7 hf => ?_)
  refine z_getI C 5 4 rfl in_Table (by decide) w_205 rfl d_LT_other_4 hf (fun v8 hf => ?_)
  refine z_if_eq (tgt := 20) C d_LT_other_7 (by decide) hf (fun hf => ?_) (fun hf => ?_)
  · refine z_ldc2 C d_LT_other_20 w_592 ?_
    exact z_lret C E (Nat.le_of_ble_eq_true rfl) (Nat.le_of_ble_eq_true rfl) d_LT_other_23 hf
  · refine z_iload_n C 1 d_LT_other_10 rfl rfl ?_
    refine z_if_lt (tgt := 20) C d_LT_other_11 (by decide) hf (fun hf => ?_) (fun hf => ?_)
    · refine z_ldc2 C d_LT_other_20 w_592 ?_
      exact z_lret C E (Nat.le_of_ble_eq_true rfl) (Nat.le_of_ble_eq_true rfl) d_LT_other_23 hf
    · refine z_iload_n C 1 d_LT_other_14 rfl rfl ?_
      refine z_bipush C (v := (6 : Int32)) d_LT_other_15 (by decide) ?_
      refine z_ic_lt (tgt := 24) C d_LT_other_17 (by decide) hf (fun hf => ?_) (fun hf => ?_)
      · refine z_aload_n C 0 d_LT_other_24 rfl rfl ?_
        refine z_getQ (tgt := 52) C 1 7 rfl in_LT (by decide) w_273 rfl d_LT_other_25 d_LT_other_28 (by decide) hf (fun hf => ?_) (fun hf => ?_)
        · refine z_sub [0, 1] rfl ?_
          refine z_widen (k' := 29) (n' := 94086) (Nat.le_of_ble_eq_true rfl) (Nat.le_of_ble_eq_true rfl) ?_
          exact k_LT_other_52 N C E _ _ _ hf
        · refine z_aload_n C 0 d_LT_other_31 rfl rfl ?_
          refine z_newO C 8 ty_Search rfl in_Search tyok_Search w_413 w_414 w_67 df_Search_ok (Nat.le_of_ble_eq_true rfl) (Nat.le_of_ble_eq_true rfl) d_LT_other_32 hf (fun q9 hf => ?_)
          refine z_dup C d_LT_other_35 rfl ?_
          refine z_aload_n C 0 d_LT_other_36 rfl rfl ?_
          refine z_getR C 1 0 rfl in_LT (by decide) w_266 rfl d_LT_other_37 hf (fun v10 hf => ?_)
          refine z_aload_n C 0 d_LT_other_40 rfl rfl ?_
          refine z_getR C 1 1 rfl in_LT (by decide) w_267 rfl d_LT_other_41 hf (fun v11 hf => ?_)
          refine z_bipush C (v := (6 : Int32)) d_LT_other_44 (by decide) ?_
          obtain ⟨p12, hc, hf⟩ := Option.bind_eq_some_iff.mp hf
          refine z_callI C (c_Search_init N C.2.2.1 hc) w_417 w_67 w_415 w_416 rfl pd_Search_init rfl ⟨(Nat.le_of_ble_eq_true rfl), (Nat.le_of_ble_eq_true rfl)⟩ ⟨(Nat.le_of_ble_eq_true rfl), (Nat.le_of_ble_eq_true rfl)⟩ rfl (Nat.le_of_ble_eq_true rfl) d_LT_other_46 (k' := 29) (n' := 94086) rfl rfl ?_
          refine z_put C 1 7 ty_LT rfl in_LT tyok_LT nm_LT (by decide) w_273 rfl (Or.inl rfl) rfl rfl rfl d_LT_other_49 hf (fun h13 hf => ?_)
          refine z_sub [0, 1] rfl ?_
          exact k_LT_other_52 N C E _ _ _ hf
      · refine z_ldc2 C d_LT_other_20 w_592 ?_
        exact z_lret C E (Nat.le_of_ble_eq_true rfl) (Nat.le_of_ble_eq_true rfl) d_LT_other_23 hf

theorem c_LT_other (N : Nat) {l : Launch} {D : va_G} {T : List (ClassId × FieldType)} (hT : T.map (fun q => q.2) = ztl) {x0 : Nat} {x1 : Int32} {h : zH} {p : Int64 × zH} (hf : f_LT_other N x0 x1 h = some p) : zM l y_LT_other prog_1_method_11_code 2 (some .long) rm_LT_other D T [.ref x0, .int x1] h (some (.long p.1)) p.2 :=
  z_enter (by decide) hT (Nat.le_of_ble_eq_true rfl) (fun X el eD eT hin C E => k_LT_other N C E x0 x1 h hf)
