/-! ===== LevelTablesModel.spanOf(I)I ===== -/
abbrev y_Model_spanOf : MethodName := ⟨R_Model, "spanOf", "(I)I"⟩
theorem pd_Model_spanOf : y_Model_spanOf.cls ≠ "java/lang/invoke/MethodHandle" ∧ y_Model_spanOf.cls ≠ "java/lang/invoke/VarHandle" ∧ (parseMethodDescriptor y_Model_spanOf.desc).map (fun d => d.parameters.length) = some 1 := ⟨by decide +kernel, by decide +kernel, by decide +kernel⟩
abbrev rm_Model_spanOf : Room := { frames := 0, cells := 0, slots := 0, locals := 0 }
def f_Model_spanOf_37 (N : Nat) (rc4 : Nat → Int32 → Int32 → Int32 → zH → Option (Int32 × zH)) (x0 : Nat) (x1 : Int32) (x3 : Int32) (s0 : Int32) (h : zH) : Option (Int32 × zH) :=
  rc4 x0 x1 s0 (x3 + (1 : Int32)) h
def f_Model_spanOf_36 (N : Nat) (rc4 : Nat → Int32 → Int32 → Int32 → zH → Option (Int32 × zH)) (x0 : Nat) (x1 : Int32) (x2 : Int32) (x3 : Int32) (h : zH) : Option (Int32 × zH) :=
  f_Model_spanOf_37 N rc4 x0 x1 x3 x2 h
def b_Model_spanOf_4 (N : Nat) (rc4 : Nat → Int32 → Int32 → Int32 → zH → Option (Int32 × zH)) (x0 : Nat) (x1 : Int32) (x2 : Int32) (x3 : Int32) (h : zH) : Option (Int32 × zH) :=
  Option.bind (zgI h x0 0 10) fun (v1 : Int32) =>
  (if v1 ≤ x3 then
    some (x2, h)
  else
    Option.bind (zgR h x0 0 11) fun (v2 : Nat) =>
    Option.bind (zaI h 0 v2 x3) fun (v3 : Int32) =>
    (if x1 < v3 then
      f_Model_spanOf_36 N rc4 x0 x1 x2 x3 h
    else
      Option.bind (zgR h x0 0 12) fun (v4 : Nat) =>
      Option.bind (zaI h 0 v4 x3) fun (v5 : Int32) =>
      (if v5 ≤ x1 then
        f_Model_spanOf_36 N rc4 x0 x1 x2 x3 h
      else
        f_Model_spanOf_37 N rc4 x0 x1 x3 x3 h)))
def f_Model_spanOf_4 (N : Nat) : Nat → Nat → Int32 → Int32 → Int32 → zH → Option (Int32 × zH)
  | 0 => fun _ _ _ _ _ => none
  | n + 1 => fun x0 x1 x2 x3 h => b_Model_spanOf_4 N (f_Model_spanOf_4 N n) x0 x1 x2 x3 h
def f_Model_spanOf (N : Nat) (x0 : Nat) (x1 : Int32) (h : zH) : Option (Int32 × zH) :=
  f_Model_spanOf_4 N N x0 x1 (-1 : Int32) (0 : Int32) h
theorem d_Model_spanOf_0 : decode prog_10_method_44_code 0 = .ok (.iconst (-1), 1) := by decide +kernel
theorem d_Model_spanOf_1 : decode prog_10_method_44_code 1 = .ok (.istore_n (2), 1) := by decide +kernel
theorem d_Model_spanOf_2 : decode prog_10_method_44_code 2 = .ok (.iconst (0), 1) := by decide +kernel
theorem d_Model_spanOf_3 : decode prog_10_method_44_code 3 = .ok (.istore_n (3), 1) := by decide +kernel
theorem d_Model_spanOf_4 : decode prog_10_method_44_code 4 = .ok (.iload_n (3), 1) := by decide +kernel
theorem d_Model_spanOf_5 : decode prog_10_method_44_code 5 = .ok (.aload_n (0), 1) := by decide +kernel
theorem d_Model_spanOf_6 : decode prog_10_method_44_code 6 = .ok (.getfield (119), 3) := by decide +kernel
theorem d_Model_spanOf_9 : decode prog_10_method_44_code 9 = .ok (.if_icmp .ge (35), 3) := by decide +kernel
theorem d_Model_spanOf_12 : decode prog_10_method_44_code 12 = .ok (.iload_n (1), 1) := by decide +kernel
theorem d_Model_spanOf_13 : decode prog_10_method_44_code 13 = .ok (.aload_n (0), 1) := by decide +kernel
theorem d_Model_spanOf_14 : decode prog_10_method_44_code 14 = .ok (.getfield (32), 3) := by decide +kernel
theorem d_Model_spanOf_17 : decode prog_10_method_44_code 17 = .ok (.iload_n (3), 1) := by decide +kernel
theorem d_Model_spanOf_18 : decode prog_10_method_44_code 18 = .ok (.iaload, 1) := by decide +kernel
theorem d_Model_spanOf_19 : decode prog_10_method_44_code 19 = .ok (.if_icmp .lt (17), 3) := by decide +kernel
theorem d_Model_spanOf_22 : decode prog_10_method_44_code 22 = .ok (.iload_n (1), 1) := by decide +kernel
theorem d_Model_spanOf_23 : decode prog_10_method_44_code 23 = .ok (.aload_n (0), 1) := by decide +kernel
theorem d_Model_spanOf_24 : decode prog_10_method_44_code 24 = .ok (.getfield (35), 3) := by decide +kernel
theorem d_Model_spanOf_27 : decode prog_10_method_44_code 27 = .ok (.iload_n (3), 1) := by decide +kernel
theorem d_Model_spanOf_28 : decode prog_10_method_44_code 28 = .ok (.iaload, 1) := by decide +kernel
theorem d_Model_spanOf_29 : decode prog_10_method_44_code 29 = .ok (.if_icmp .ge (7), 3) := by decide +kernel
theorem d_Model_spanOf_32 : decode prog_10_method_44_code 32 = .ok (.iload_n (3), 1) := by decide +kernel
theorem d_Model_spanOf_33 : decode prog_10_method_44_code 33 = .ok (.goto (4), 3) := by decide +kernel
theorem d_Model_spanOf_36 : decode prog_10_method_44_code 36 = .ok (.iload_n (2), 1) := by decide +kernel
theorem d_Model_spanOf_37 : decode prog_10_method_44_code 37 = .ok (.istore_n (2), 1) := by decide +kernel
theorem d_Model_spanOf_38 : decode prog_10_method_44_code 38 = .ok (.iinc (3) (1), 3) := by decide +kernel
theorem d_Model_spanOf_41 : decode prog_10_method_44_code 41 = .ok (.goto (-37), 3) := by decide +kernel
theorem d_Model_spanOf_44 : decode prog_10_method_44_code 44 = .ok (.iload_n (2), 1) := by decide +kernel
theorem d_Model_spanOf_45 : decode prog_10_method_44_code 45 = .ok (.ireturn, 1) := by decide +kernel
set_option maxHeartbeats 4000000 in
set_option maxRecDepth 100000 in
theorem k_Model_spanOf_37 (N : Nat) {X : zX} (C : zB X prog_10_method_44_code 4 R_Model rm_Model_spanOf) {h0 : zH} {p : Int32 × zH} (E : zR X (some .int) rm_Model_spanOf h0 (some (.int p.1)) p.2) {rc4 : Nat → Int32 → Int32 → Int32 → zH → Option (Int32 × zH)} (H4 : ∀ (x0 : Nat) (x1 : Int32) (x2 : Int32) (x3 : Int32) (h : zH), rc4 x0 x1 x2 x3 h = some p → Zt X 4 0 0 4 [(0, .ref x0), (1, .int x1), (2, .int x2), (3, .int x3)] [] h) : ∀ (x0 : Nat) (x1 : Int32) (x3 : Int32) (s0 : Int32) (h : zH), f_Model_spanOf_37 N rc4 x0 x1 x3 s0 h = some p → Zt X 4 0 0 37 [(0, .ref x0), (1, .int x1), (3, .int x3)] [.int s0] h := by
  intro x0 x1 x3 s0 h hf
  unfold f_Model_spanOf_37 at hf
  refine z_istore_n C (lv' := [(2, .int s0), (0, .ref x0), (1, .int x1), (3, .int x3)]) d_Model_spanOf_37 rfl (by decide) rfl ?_
  refine z_iinc C (v := (x3 + (1 : Int32))) (lv' := [(3, .int (x3 + (1 : Int32))), (2, .int s0), (0, .ref x0), (1, .int x1)]) 3 d_Model_spanOf_38 rfl (by rfl) (by decide) rfl ?_
  refine z_goto (tgt := 4) C d_Model_spanOf_41 (by decide) ?_
  refine z_sub [2, 3, 1, 0] rfl ?_
  exact H4 _ _ _ _ _ hf

set_option maxHeartbeats 4000000 in
set_option maxRecDepth 100000 in
theorem k_Model_spanOf_36 (N : Nat) {X : zX} (C : zB X prog_10_method_44_code 4 R_Model rm_Model_spanOf) {h0 : zH} {p : Int32 × zH} (E : zR X (some .int) rm_Model_spanOf h0 (some (.int p.1)) p.2) {rc4 : Nat → Int32 → Int32 → Int32 → zH → Option (Int32 × zH)} (H4 : ∀ (x0 : Nat) (x1 : Int32) (x2 : Int32) (x3 : Int32) (h : zH), rc4 x0 x1 x2 x3 h = some p → Zt X 4 0 0 4 [(0, .ref x0), (1, .int x1), (2, .int x2), (3, .int x3)] [] h) : ∀ (x0 : Nat) (x1 : Int32) (x2 : Int32) (x3 : Int32) (h : zH), f_Model_spanOf_36 N rc4 x0 x1 x2 x3 h = some p → Zt X 4 0 0 36 [(0, .ref x0), (1, .int x1), (2, .int x2), (3, .int x3)] [] h := by
  intro x0 x1 x2 x3 h hf
  unfold f_Model_spanOf_36 at hf
  refine z_iload_n C 2 d_Model_spanOf_36 rfl rfl ?_
  refine z_sub [0, 1, 3] rfl ?_
  exact k_Model_spanOf_37 N C E H4 _ _ _ _ _ hf

set_option maxHeartbeats 4000000 in
set_option maxRecDepth 100000 in
theorem k_Model_spanOf_4 (N : Nat) {X : zX} (C : zB X prog_10_method_44_code 4 R_Model rm_Model_spanOf) {h0 : zH} {p : Int32 × zH} (E : zR X (some .int) rm_Model_spanOf h0 (some (.int p.1)) p.2) : ∀ n : Nat, ∀ (x0 : Nat) (x1 : Int32) (x2 : Int32) (x3 : Int32) (h : zH), f_Model_spanOf_4 N n x0 x1 x2 x3 h = some p → Zt X 4 0 0 4 [(0, .ref x0), (1, .int x1), (2, .int x2), (3, .int x3)] [] h := by
  intro n
  induction n with
  | zero => intro x0 x1 x2 x3 h hf; cases hf
  | succ n ih =>
  intro x0 x1 x2 x3 h hf
  have H4 := ih
  replace hf : b_Model_spanOf_4 N (f_Model_spanOf_4 N n) x0 x1 x2 x3 h = some p := hf
  unfold b_Model_spanOf_4 at hf
  refine z_iload_n C 3 d_Model_spanOf_4 rfl rfl ?_
  refine z_aload_n C 0 d_Model_spanOf_5 rfl rfl ?_
  refine z_getI C 0 10 rfl in_Model (by decide) w_751 rfl d_Model_spanOf_6 hf (fun v1 hf => ?_)
  refine z_ic_ge (tgt := 44) C d_Model_spanOf_9 (by decide) hf (fun hf => ?_) (fun hf => ?_)
  · refine z_iload_n C 2 d_Model_spanOf_44 rfl rfl ?_
    exact z_iret C E (Nat.le_of_ble_eq_true rfl) (Nat.le_of_ble_eq_true rfl) d_Model_spanOf_45 hf
  · refine z_iload_n C 1 d_Model_spanOf_12 rfl rfl ?_
    refine z_aload_n C 0 d_Model_spanOf_13 rfl rfl ?_
    refine z_getR C 0 11 rfl in_Model (by decide) w_752 rfl d_Model_spanOf_14 hf (fun v2 hf => ?_)
    refine z_iload_n C 3 d_Model_spanOf_17 rfl rfl ?_
    refine z_iald C d_Model_spanOf_18 hf (fun v3 hf => ?_)
    refine z_ic_lt (tgt := 36) C d_Model_spanOf_19 (by decide) hf (fun hf => ?_) (fun hf => ?_)
    · refine z_sub [0, 1, 2, 3] rfl ?_
      exact k_Model_spanOf_36 N C E H4 _ _ _ _ _ hf
    · refine z_iload_n C 1 d_Model_spanOf_22 rfl rfl ?_
      refine z_aload_n C 0 d_Model_spanOf_23 rfl rfl ?_
      refine z_getR C 0 12 rfl in_Model (by decide) w_753 rfl d_Model_spanOf_24 hf (fun v4 hf => ?_)
      refine z_iload_n C 3 d_Model_spanOf_27 rfl rfl ?_
      refine z_iald C d_Model_spanOf_28 hf (fun v5 hf => ?_)
      refine z_ic_ge (tgt := 36) C d_Model_spanOf_29 (by decide) hf (fun hf => ?_) (fun hf => ?_)
      · refine z_sub [0, 1, 2, 3] rfl ?_
        exact k_Model_spanOf_36 N C E H4 _ _ _ _ _ hf
      · refine z_iload_n C 3 d_Model_spanOf_32 rfl rfl ?_
        refine z_goto (tgt := 37) C d_Model_spanOf_33 (by decide) ?_
        refine z_sub [0, 1, 3] rfl ?_
        exact k_Model_spanOf_37 N C E H4 _ _ _ _ _ hf

set_option maxHeartbeats 4000000 in
set_option maxRecDepth 100000 in
theorem k_Model_spanOf (N : Nat) {X : zX} (C : zB X prog_10_method_44_code 4 R_Model rm_Model_spanOf) {h0 : zH} {p : Int32 × zH} (E : zR X (some .int) rm_Model_spanOf h0 (some (.int p.1)) p.2) : ∀ (x0 : Nat) (x1 : Int32) (h : zH), f_Model_spanOf N x0 x1 h = some p → Zt X 4 0 0 0 [(0, .ref x0), (1, .int x1)] [] h := by
  intro x0 x1 h hf
  unfold f_Model_spanOf at hf
  refine z_iconst C (v := (-1 : Int32)) d_Model_spanOf_0 (by decide) ?_
  refine z_istore_n C (lv' := [(2, .int (-1 : Int32)), (0, .ref x0), (1, .int x1)]) d_Model_spanOf_1 rfl (by decide) rfl ?_
  refine z_iconst C (v := (0 : Int32)) d_Model_spanOf_2 (by decide) ?_
  refine z_istore_n C (lv' := [(3, .int (0 : Int32)), (2, .int (-1 : Int32)), (0, .ref x0), (1, .int x1)]) d_Model_spanOf_3 rfl (by decide) rfl ?_
  refine z_sub [2, 3, 1, 0] rfl ?_
  exact k_Model_spanOf_4 N C E N _ _ _ _ _ hf

theorem c_Model_spanOf (N : Nat) {l : Launch} {D : va_G} {T : List (ClassId × FieldType)} (hT : T.map (fun q => q.2) = ztl) {x0 : Nat} {x1 : Int32} {h : zH} {p : Int32 × zH} (hf : f_Model_spanOf N x0 x1 h = some p) : zM l y_Model_spanOf prog_10_method_44_code 4 (some .int) rm_Model_spanOf D T [.ref x0, .int x1] h (some (.int p.1)) p.2 :=
  z_enter (by decide) hT (Nat.le_of_ble_eq_true rfl) (fun X el eD eT hin C E => k_Model_spanOf N C E x0 x1 h hf)
/-! ===== LevelTablesModel.keeps()Z ===== -/
abbrev y_Model_keeps : MethodName := ⟨R_Model, "keeps", "()Z"⟩
theorem pd_Model_keeps : y_Model_keeps.cls ≠ "java/lang/invoke/MethodHandle" ∧ y_Model_keeps.cls ≠ "java/lang/invoke/VarHandle" ∧ (parseMethodDescriptor y_Model_keeps.desc).map (fun d => d.parameters.length) = some 0 := ⟨by decide +kernel, by decide +kernel, by decide +kernel⟩
abbrev rm_Model_keeps : Room := { frames := 0, cells := 0, slots := 0, locals := 0 }
def f_Model_keeps (N : Nat) (x0 : Nat) (h : zH) : Option (Int32 × zH) :=
  Option.bind (zgI h x0 0 24) fun (v1 : Int32) =>
  zrb v1 h
theorem d_Model_keeps_0 : decode prog_10_method_48_code 0 = .ok (.aload_n (0), 1) := by decide +kernel
theorem d_Model_keeps_1 : decode prog_10_method_48_code 1 = .ok (.getfield (95), 3) := by decide +kernel
theorem d_Model_keeps_4 : decode prog_10_method_48_code 4 = .ok (.ireturn, 1) := by decide +kernel
set_option maxHeartbeats 4000000 in
set_option maxRecDepth 100000 in
theorem k_Model_keeps (N : Nat) {X : zX} (C : zB X prog_10_method_48_code 1 R_Model rm_Model_keeps) {h0 : zH} {p : Int32 × zH} (E : zR X (some .boolean) rm_Model_keeps h0 (some (.int p.1)) p.2) : ∀ (x0 : Nat) (h : zH), f_Model_keeps N x0 h = some p → Zt X 1 0 0 0 [(0, .ref x0)] [] h := by
  intro x0 h hf
  unfold f_Model_keeps at hf
  refine z_aload_n C 0 d_Model_keeps_0 rfl rfl ?_
  refine z_getI C 0 24 rfl in_Model (by decide) w_765 rfl d_Model_keeps_1 hf (fun v1 hf => ?_)
  exact z_zret C E (Nat.le_of_ble_eq_true rfl) (Nat.le_of_ble_eq_true rfl) d_Model_keeps_4 hf

theorem c_Model_keeps (N : Nat) {l : Launch} {D : va_G} {T : List (ClassId × FieldType)} (hT : T.map (fun q => q.2) = ztl) {x0 : Nat} {h : zH} {p : Int32 × zH} (hf : f_Model_keeps N x0 h = some p) : zM l y_Model_keeps prog_10_method_48_code 1 (some .boolean) rm_Model_keeps D T [.ref x0] h (some (.int p.1)) p.2 :=
  z_enter (by decide) hT (Nat.le_of_ble_eq_true rfl) (fun X el eD eT hin C E => k_Model_keeps N C E x0 h hf)
/-! ===== LevelTablesModel.forget()V ===== -/
abbrev y_Model_forget : MethodName := ⟨R_Model, "forget", "()V"⟩
theorem pd_Model_forget : y_Model_forget.cls ≠ "java/lang/invoke/MethodHandle" ∧ y_Model_forget.cls ≠ "java/lang/invoke/VarHandle" ∧ (parseMethodDescriptor y_Model_forget.desc).map (fun d => d.parameters.length) = some 0 := ⟨by decide +kernel, by decide +kernel, by decide +kernel⟩
abbrev rm_Model_forget : Room := { frames := 1, cells := 0, slots := 0, locals := 21 }
def f_Model_forget (N : Nat) (x0 : Nat) (h : zH) : Option (Unit × zH) :=
  Option.bind (zpZ h x0 0 24 (0 : Int32)) fun (h1 : zH) =>
  Option.bind (zpZ h1 x0 0 19 (0 : Int32)) fun (h2 : zH) =>
  Option.bind (zck (zis h2 x0 0) (f_Model_dropCurves N x0  h2)) fun (p3 : Unit × zH) =>
  some ((), p3.2)
theorem d_Model_forget_0 : decode prog_10_method_4_code 0 = .ok (.aload_n (0), 1) := by decide +kernel
theorem d_Model_forget_1 : decode prog_10_method_4_code 1 = .ok (.iconst (0), 1) := by decide +kernel
theorem d_Model_forget_2 : decode prog_10_method_4_code 2 = .ok (.putfield (95), 3) := by decide +kernel
theorem d_Model_forget_5 : decode prog_10_method_4_code 5 = .ok (.aload_n (0), 1) := by decide +kernel
theorem d_Model_forget_6 : decode prog_10_method_4_code 6 = .ok (.iconst (0), 1) := by decide +kernel
theorem d_Model_forget_7 : decode prog_10_method_4_code 7 = .ok (.putfield (99), 3) := by decide +kernel
theorem d_Model_forget_10 : decode prog_10_method_4_code 10 = .ok (.aload_n (0), 1) := by decide +kernel
theorem d_Model_forget_11 : decode prog_10_method_4_code 11 = .ok (.invokevirtual (102), 3) := by decide +kernel
theorem d_Model_forget_14 : decode prog_10_method_4_code 14 = .ok (.return_, 1) := by decide +kernel
set_option maxHeartbeats 4000000 in
set_option maxRecDepth 100000 in
theorem k_Model_forget (N : Nat) {X : zX} (C : zB X prog_10_method_4_code 1 R_Model rm_Model_forget) {h0 : zH} {p : Unit × zH} (E : zR X none rm_Model_forget h0 none p.2) : ∀ (x0 : Nat) (h : zH), f_Model_forget N x0 h = some p → Zt X 1 0 0 0 [(0, .ref x0)] [] h := by
  intro x0 h hf
  unfold f_Model_forget at hf
  refine z_aload_n C 0 d_Model_forget_0 rfl rfl ?_
  refine z_iconst C (v := (0 : Int32)) d_Model_forget_1 (by decide) ?_
  refine z_putZ C 0 24 ty_Model rfl in_Model tyok_Model nm_Model (by decide) w_765 rfl (Or.inl rfl) rfl d_Model_forget_2 hf (fun h1 hf => ?_)
  refine z_aload_n C 0 d_Model_forget_5 rfl rfl ?_
  refine z_iconst C (v := (0 : Int32)) d_Model_forget_6 (by decide) ?_
  refine z_putZ C 0 19 ty_Model rfl in_Model tyok_Model nm_Model (by decide) w_760 rfl (Or.inl rfl) rfl d_Model_forget_7 hf (fun h2 hf => ?_)
  refine z_aload_n C 0 d_Model_forget_10 rfl rfl ?_
  obtain ⟨p3, hc, hf⟩ := Option.bind_eq_some_iff.mp hf
  obtain ⟨hz, hc⟩ := zck_some hc
  refine z_callV C (ci := 0) (c_Model_dropCurves N C.2.2.1 hc) rfl hz w_867 w_66 w_864 w_866 w_35 pd_Model_dropCurves rfl ⟨(Nat.le_of_ble_eq_true rfl), (Nat.le_of_ble_eq_true rfl)⟩ ⟨(Nat.le_of_ble_eq_true rfl), (Nat.le_of_ble_eq_true rfl)⟩ rfl (Nat.le_of_ble_eq_true rfl) d_Model_forget_11 (k' := 0) (n' := 0) (stk' := []) rfl rfl rfl ?_
  exact z_vret C E (Nat.le_of_ble_eq_true rfl) (Nat.le_of_ble_eq_true rfl) d_Model_forget_14 hf

theorem c_Model_forget (N : Nat) {l : Launch} {D : va_G} {T : List (ClassId × FieldType)} (hT : T.map (fun q => q.2) = ztl) {x0 : Nat} {h : zH} {p : Unit × zH} (hf : f_Model_forget N x0 h = some p) : zM l y_Model_forget prog_10_method_4_code 1 none rm_Model_forget D T [.ref x0] h none p.2 :=
  z_enter (by decide) hT (Nat.le_of_ble_eq_true rfl) (fun X el eD eT hin C E => k_Model_forget N C E x0 h hf)
/-! ===== LevelTablesModel.prices(III)Z ===== -/
abbrev y_Model_prices : MethodName := ⟨R_Model, "prices", "(III)Z"⟩
theorem pd_Model_prices : y_Model_prices.cls ≠ "java/lang/invoke/MethodHandle" ∧ y_Model_prices.cls ≠ "java/lang/invoke/VarHandle" ∧ (parseMethodDescriptor y_Model_prices.desc).map (fun d => d.parameters.length) = some 3 := ⟨by decide +kernel, by decide +kernel, by decide +kernel⟩
abbrev rm_Model_prices : Room := { frames := 2, cells := 0, slots := 0, locals := 41 }
def f_Model_prices (N : Nat) (x0 : Nat) (x1 : Int32) (x2 : Int32) (x3 : Int32) (h : zH) : Option (Int32 × zH) :=
  Option.bind (zck (zis h x0 0) (f_Model_isPlace N x0 x1 h)) fun (p1 : Int32 × zH) =>
  (if p1.1 = 0 then
    zrb (0 : Int32) p1.2
  else
    Option.bind (f_Model_isPrice N x2 p1.2) fun (p2 : Int32 × zH) =>
    (if p2.1 = 0 then
      zrb (0 : Int32) p2.2
    else
      Option.bind (f_Model_isPrice N x3 p2.2) fun (p3 : Int32 × zH) =>
      (if p3.1 = 0 then
        zrb (0 : Int32) p3.2
      else
        Option.bind (zgR p3.2 x0 0 3) fun (v4 : Nat) =>
        Option.bind (zsI p3.2 0 v4 x1 x2) fun (h5 : zH) =>
        Option.bind (zgR h5 x0 0 4) fun (v6 : Nat) =>
        Option.bind (zsI h5 0 v6 x1 x3) fun (h7 : zH) =>
        Option.bind (zck (zis h7 x0 0) (f_Model_forget N x0  h7)) fun (p8 : Unit × zH) =>
        zrb (1 : Int32) p8.2)))
theorem d_Model_prices_0 : decode prog_10_method_8_code 0 = .ok (.aload_n (0), 1) := by decide +kernel
theorem d_Model_prices_1 : decode prog_10_method_8_code 1 = .ok (.iload_n (1), 1) := by decide +kernel
theorem d_Model_prices_2 : decode prog_10_method_8_code 2 = .ok (.invokevirtual (105), 3) := by decide +kernel
theorem d_Model_prices_5 : decode prog_10_method_8_code 5 = .ok (.ifCond .eq (17), 3) := by decide +kernel
theorem d_Model_prices_8 : decode prog_10_method_8_code 8 = .ok (.iload_n (2), 1) := by decide +kernel
theorem d_Model_prices_9 : decode prog_10_method_8_code 9 = .ok (.invokestatic (116), 3) := by decide +kernel
theorem d_Model_prices_12 : decode prog_10_method_8_code 12 = .ok (.ifCond .eq (10), 3) := by decide +kernel
theorem d_Model_prices_15 : decode prog_10_method_8_code 15 = .ok (.iload_n (3), 1) := by decide +kernel
theorem d_Model_prices_16 : decode prog_10_method_8_code 16 = .ok (.invokestatic (116), 3) := by decide +kernel
theorem d_Model_prices_19 : decode prog_10_method_8_code 19 = .ok (.ifCond .ne (5), 3) := by decide +kernel
theorem d_Model_prices_22 : decode prog_10_method_8_code 22 = .ok (.iconst (0), 1) := by decide +kernel
theorem d_Model_prices_23 : decode prog_10_method_8_code 23 = .ok (.ireturn, 1) := by decide +kernel
theorem d_Model_prices_24 : decode prog_10_method_8_code 24 = .ok (.aload_n (0), 1) := by decide +kernel
theorem d_Model_prices_25 : decode prog_10_method_8_code 25 = .ok (.getfield (13), 3) := by decide +kernel
theorem d_Model_prices_28 : decode prog_10_method_8_code 28 = .ok (.iload_n (1), 1) := by decide +kernel
theorem d_Model_prices_29 : decode prog_10_method_8_code 29 = .ok (.iload_n (2), 1) := by decide +kernel
theorem d_Model_prices_30 : decode prog_10_method_8_code 30 = .ok (.iastore, 1) := by decide +kernel
theorem d_Model_prices_31 : decode prog_10_method_8_code 31 = .ok (.aload_n (0), 1) := by decide +kernel
theorem d_Model_prices_32 : decode prog_10_method_8_code 32 = .ok (.getfield (16), 3) := by decide +kernel
theorem d_Model_prices_35 : decode prog_10_method_8_code 35 = .ok (.iload_n (1), 1) := by decide +kernel
theorem d_Model_prices_36 : decode prog_10_method_8_code 36 = .ok (.iload_n (3), 1) := by decide +kernel
theorem d_Model_prices_37 : decode prog_10_method_8_code 37 = .ok (.iastore, 1) := by decide +kernel
theorem d_Model_prices_38 : decode prog_10_method_8_code 38 = .ok (.aload_n (0), 1) := by decide +kernel
theorem d_Model_prices_39 : decode prog_10_method_8_code 39 = .ok (.invokevirtual (112), 3) := by decide +kernel
theorem d_Model_prices_42 : decode prog_10_method_8_code 42 = .ok (.iconst (1), 1) := by decide +kernel
theorem d_Model_prices_43 : decode prog_10_method_8_code 43 = .ok (.ireturn, 1) := by decide +kernel
set_option maxHeartbeats 4000000 in
set_option maxRecDepth 100000 in
theorem k_Model_prices (N : Nat) {X : zX} (C : zB X prog_10_method_8_code 4 R_Model rm_Model_prices) {h0 : zH} {p : Int32 × zH} (E : zR X (some .boolean) rm_Model_prices h0 (some (.int p.1)) p.2) : ∀ (x0 : Nat) (x1 : Int32) (x2 : Int32) (x3 : Int32) (h : zH), f_Model_prices N x0 x1 x2 x3 h = some p → Zt X 4 0 0 0 [(0, .ref x0), (1, .int x1), (2, .int x2), (3, .int x3)] [] h := by
  intro x0 x1 x2 x3 h hf
  unfold f_Model_prices at hf
  refine z_aload_n C 0 d_Model_prices_0 rfl rfl ?_
  refine z_iload_n C 1 d_Model_prices_1 rfl rfl ?_
  obtain ⟨p1, hc, hf⟩ := Option.bind_eq_some_iff.mp hf
  obtain ⟨hz, hc⟩ := zck_some hc
  refine z_callV C (ci := 0) (c_Model_isPlace N C.2.2.1 hc) rfl hz w_855 w_66 w_852 w_854 w_32 pd_Model_isPlace rfl ⟨(Nat.le_of_ble_eq_true rfl), (Nat.le_of_ble_eq_true rfl)⟩ ⟨(Nat.le_of_ble_eq_true rfl), (Nat.le_of_ble_eq_true rfl)⟩ rfl (Nat.le_of_ble_eq_true rfl) d_Model_prices_2 (k' := 0) (n' := 0) (stk' := [.int p1.1]) rfl rfl rfl ?_
  refine z_if_eq (tgt := 22) C d_Model_prices_5 (by decide) hf (fun hf => ?_) (fun hf => ?_)
  · refine z_iconst C (v := (0 : Int32)) d_Model_prices_22 (by decide) ?_
    exact z_zret C E (Nat.le_of_ble_eq_true rfl) (Nat.le_of_ble_eq_true rfl) d_Model_prices_23 hf
  · refine z_iload_n C 2 d_Model_prices_8 rfl rfl ?_
    obtain ⟨p2, hc, hf⟩ := Option.bind_eq_some_iff.mp hf
    refine z_callS C (c_Model_isPrice N C.2.2.1 hc) w_874 w_66 w_872 w_873 pd_Model_isPrice rfl ⟨(Nat.le_of_ble_eq_true rfl), (Nat.le_of_ble_eq_true rfl)⟩ ⟨(Nat.le_of_ble_eq_true rfl), (Nat.le_of_ble_eq_true rfl)⟩ rfl (Nat.le_of_ble_eq_true rfl) d_Model_prices_9 (k' := 0) (n' := 0) (stk' := [.int p2.1]) rfl rfl rfl ?_
    refine z_if_eq (tgt := 22) C d_Model_prices_12 (by decide) hf (fun hf => ?_) (fun hf => ?_)
    · refine z_iconst C (v := (0 : Int32)) d_Model_prices_22 (by decide) ?_
      exact z_zret C E (Nat.le_of_ble_eq_true rfl) (Nat.le_of_ble_eq_true rfl) d_Model_prices_23 hf
    · refine z_iload_n C 3 d_Model_prices_15 rfl rfl ?_
      obtain ⟨p3, hc, hf⟩ := Option.bind_eq_some_iff.mp hf
      refine z_callS C (c_Model_isPrice N C.2.2.1 hc) w_874 w_66 w_872 w_873 pd_Model_isPrice rfl ⟨(Nat.le_of_ble_eq_true rfl), (Nat.le_of_ble_eq_true rfl)⟩ ⟨(Nat.le_of_ble_eq_true rfl), (Nat.le_of_ble_eq_true rfl)⟩ rfl (Nat.le_of_ble_eq_true rfl) d_Model_prices_16 (k' := 0) (n' := 0) (stk' := [.int p3.1]) rfl rfl rfl ?_
      refine z_if_ne (tgt := 24) C d_Model_prices_19 (by decide) hf (fun hf => ?_) (fun hf => ?_)
      · refine z_aload_n C 0 d_Model_prices_24 rfl rfl ?_
        refine z_getR C 0 3 rfl in_Model (by decide) w_744 rfl d_Model_prices_25 hf (fun v4 hf => ?_)
        refine z_iload_n C 1 d_Model_prices_28 rfl rfl ?_
        refine z_iload_n C 2 d_Model_prices_29 rfl rfl ?_
        refine z_iast C d_Model_prices_30 hf (fun h5 hf => ?_)
        refine z_aload_n C 0 d_Model_prices_31 rfl rfl ?_
        refine z_getR C 0 4 rfl in_Model (by decide) w_745 rfl d_Model_prices_32 hf (fun v6 hf => ?_)
        refine z_iload_n C 1 d_Model_prices_35 rfl rfl ?_
        refine z_iload_n C 3 d_Model_prices_36 rfl rfl ?_
        refine z_iast C d_Model_prices_37 hf (fun h7 hf => ?_)
        refine z_aload_n C 0 d_Model_prices_38 rfl rfl ?_
        obtain ⟨p8, hc, hf⟩ := Option.bind_eq_some_iff.mp hf
        obtain ⟨hz, hc⟩ := zck_some hc
        refine z_callV C (ci := 0) (c_Model_forget N C.2.2.1 hc) rfl hz w_863 w_66 w_860 w_862 w_34 pd_Model_forget rfl ⟨(Nat.le_of_ble_eq_true rfl), (Nat.le_of_ble_eq_true rfl)⟩ ⟨(Nat.le_of_ble_eq_true rfl), (Nat.le_of_ble_eq_true rfl)⟩ rfl (Nat.le_of_ble_eq_true rfl) d_Model_prices_39 (k' := 0) (n' := 0) (stk' := []) rfl rfl rfl ?_
        refine z_iconst C (v := (1 : Int32)) d_Model_prices_42 (by decide) ?_
        exact z_zret C E (Nat.le_of_ble_eq_true rfl) (Nat.le_of_ble_eq_true rfl) d_Model_prices_43 hf
      · refine z_iconst C (v := (0 : Int32)) d_Model_prices_22 (by decide) ?_
        exact z_zret C E (Nat.le_of_ble_eq_true rfl) (Nat.le_of_ble_eq_true rfl) d_Model_prices_23 hf

theorem c_Model_prices (N : Nat) {l : Launch} {D : va_G} {T : List (ClassId × FieldType)} (hT : T.map (fun q => q.2) = ztl) {x0 : Nat} {x1 : Int32} {x2 : Int32} {x3 : Int32} {h : zH} {p : Int32 × zH} (hf : f_Model_prices N x0 x1 x2 x3 h = some p) : zM l y_Model_prices prog_10_method_8_code 4 (some .boolean) rm_Model_prices D T [.ref x0, .int x1, .int x2, .int x3] h (some (.int p.1)) p.2 :=
  z_enter (by decide) hT (Nat.le_of_ble_eq_true rfl) (fun X el eD eT hin C E => k_Model_prices N C E x0 x1 x2 x3 h hf)
/-! ===== LevelTablesModel.span(IIIJ)I ===== -/
abbrev y_Model_span : MethodName := ⟨R_Model, "span", "(IIIJ)I"⟩
theorem pd_Model_span : y_Model_span.cls ≠ "java/lang/invoke/MethodHandle" ∧ y_Model_span.cls ≠ "java/lang/invoke/VarHandle" ∧ (parseMethodDescriptor y_Model_span.desc).map (fun d => d.parameters.length) = some 4 := ⟨by decide +kernel, by decide +kernel, by decide +kernel⟩
abbrev rm_Model_span : Room := { frames := 2, cells := 0, slots := 0, locals := 41 }
def f_Model_span_117 (N : Nat) (x0 : Nat) (x1 : Int32) (x2 : Int32) (x3 : Int32) (x4 : Int64) (x6 : Int32) (h : zH) : Option (Int32 × zH) :=
  (if x6 = 0 then
    some ((-1 : Int32), h)
  else
    Option.bind (zgR h x0 0 11) fun (v1 : Nat) =>
    Option.bind (zgI h x0 0 10) fun (v2 : Int32) =>
    Option.bind (zsI h 0 v1 v2 x1) fun (h3 : zH) =>
    Option.bind (zgR h3 x0 0 12) fun (v4 : Nat) =>
    Option.bind (zgI h3 x0 0 10) fun (v5 : Int32) =>
    Option.bind (zsI h3 0 v4 v5 x2) fun (h6 : zH) =>
    Option.bind (zgR h6 x0 0 13) fun (v7 : Nat) =>
    Option.bind (zgI h6 x0 0 10) fun (v8 : Int32) =>
    Option.bind (zsI h6 0 v7 v8 x3) fun (h9 : zH) =>
    Option.bind (zgR h9 x0 0 14) fun (v10 : Nat) =>
    Option.bind (zgI h9 x0 0 10) fun (v11 : Int32) =>
    Option.bind (zsJ h9 1 v10 v11 x4) fun (h12 : zH) =>
    Option.bind (zgI h12 x0 0 10) fun (v13 : Int32) =>
    Option.bind (zp h12 x0 0 10 (.int (v13 + (1 : Int32)))) fun (h14 : zH) =>
    Option.bind (zck (zis h14 x0 0) (f_Model_forget N x0  h14)) fun (p15 : Unit × zH) =>
    Option.bind (zgI p15.2 x0 0 10) fun (v16 : Int32) =>
    some ((v16 - (1 : Int32)), p15.2))
def f_Model_span_109 (N : Nat) (rc68 : Nat → Int32 → Int32 → Int32 → Int64 → Int32 → Int32 → zH → Option (Int32 × zH)) (x0 : Nat) (x1 : Int32) (x2 : Int32) (x3 : Int32) (x4 : Int64) (x7 : Int32) (s0 : Int32) (h : zH) : Option (Int32 × zH) :=
  rc68 x0 x1 x2 x3 x4 s0 (x7 + (1 : Int32)) h
def f_Model_span_104 (N : Nat) (rc68 : Nat → Int32 → Int32 → Int32 → Int64 → Int32 → Int32 → zH → Option (Int32 × zH)) (x0 : Nat) (x1 : Int32) (x2 : Int32) (x3 : Int32) (x4 : Int64) (x7 : Int32) (h : zH) : Option (Int32 × zH) :=
  f_Model_span_109 N rc68 x0 x1 x2 x3 x4 x7 (1 : Int32) h
def b_Model_span_68 (N : Nat) (rc68 : Nat → Int32 → Int32 → Int32 → Int64 → Int32 → Int32 → zH → Option (Int32 × zH)) (x0 : Nat) (x1 : Int32) (x2 : Int32) (x3 : Int32) (x4 : Int64) (x6 : Int32) (x7 : Int32) (h : zH) : Option (Int32 × zH) :=
  Option.bind (zgI h x0 0 10) fun (v17 : Int32) =>
  (if v17 ≤ x7 then
    f_Model_span_117 N x0 x1 x2 x3 x4 x6 h
  else
    (if x6 = 0 then
      f_Model_span_117 N x0 x1 x2 x3 x4 x6 h
    else
      Option.bind (zgR h x0 0 12) fun (v18 : Nat) =>
      Option.bind (zaI h 0 v18 x7) fun (v19 : Int32) =>
      (if v19 ≤ x1 then
        f_Model_span_104 N rc68 x0 x1 x2 x3 x4 x7 h
      else
        Option.bind (zgR h x0 0 11) fun (v20 : Nat) =>
        Option.bind (zaI h 0 v20 x7) fun (v21 : Int32) =>
        (if v21 < x2 then
          f_Model_span_109 N rc68 x0 x1 x2 x3 x4 x7 (0 : Int32) h
        else
          f_Model_span_104 N rc68 x0 x1 x2 x3 x4 x7 h))))
def f_Model_span_68 (N : Nat) : Nat → Nat → Int32 → Int32 → Int32 → Int64 → Int32 → Int32 → zH → Option (Int32 × zH)
  | 0 => fun _ _ _ _ _ _ _ _ => none
  | n + 1 => fun x0 x1 x2 x3 x4 x6 x7 h => b_Model_span_68 N (f_Model_span_68 N n) x0 x1 x2 x3 x4 x6 x7 h
def f_Model_span_63 (N : Nat) (x0 : Nat) (x1 : Int32) (x2 : Int32) (x3 : Int32) (x4 : Int64) (s0 : Int32) (h : zH) : Option (Int32 × zH) :=
  f_Model_span_68 N N x0 x1 x2 x3 x4 s0 (0 : Int32) h
def f_Model_span_62 (N : Nat) (x0 : Nat) (x1 : Int32) (x2 : Int32) (x3 : Int32) (x4 : Int64) (h : zH) : Option (Int32 × zH) :=
  f_Model_span_63 N x0 x1 x2 x3 x4 (0 : Int32) h
def f_Model_span_42 (N : Nat) (x0 : Nat) (x1 : Int32) (x2 : Int32) (x3 : Int32) (x4 : Int64) (h : zH) : Option (Int32 × zH) :=
  (if (lg_cmp x4 (0 : Int64)) < 0 then
    f_Model_span_62 N x0 x1 x2 x3 x4 h
  else
    (if 0 < (lg_cmp x4 (1000000000 : Int64)) then
      f_Model_span_62 N x0 x1 x2 x3 x4 h
    else
      f_Model_span_63 N x0 x1 x2 x3 x4 (1 : Int32) h))
def f_Model_span (N : Nat) (x0 : Nat) (x1 : Int32) (x2 : Int32) (x3 : Int32) (x4 : Int64) (h : zH) : Option (Int32 × zH) :=
  Option.bind (zgI h x0 0 10) fun (v22 : Int32) =>
  (if (6 : Int32) ≤ v22 then
    f_Model_span_62 N x0 x1 x2 x3 x4 h
  else
    (if x1 < 0 then
      f_Model_span_62 N x0 x1 x2 x3 x4 h
    else
      Option.bind (zgI h x0 0 0) fun (v23 : Int32) =>
      (if v23 < x2 then
        f_Model_span_62 N x0 x1 x2 x3 x4 h
      else
        (if (lg_cmp ((Int32.toInt64 x2) - (2 : Int64)) (Int32.toInt64 x1)) < 0 then
          f_Model_span_62 N x0 x1 x2 x3 x4 h
        else
          (if x3 = 0 then
            f_Model_span_42 N x0 x1 x2 x3 x4 h
          else
            (if x3 = (1 : Int32) then
              f_Model_span_42 N x0 x1 x2 x3 x4 h
            else
              f_Model_span_62 N x0 x1 x2 x3 x4 h))))))
theorem d_Model_span_0 : decode prog_10_method_9_code 0 = .ok (.aload_n (0), 1) := by decide +kernel
theorem d_Model_span_1 : decode prog_10_method_9_code 1 = .ok (.getfield (119), 3) := by decide +kernel
theorem d_Model_span_4 : decode prog_10_method_9_code 4 = .ok (.bipush (6), 2) := by decide +kernel
theorem d_Model_span_6 : decode prog_10_method_9_code 6 = .ok (.if_icmp .ge (56), 3) := by decide +kernel
theorem d_Model_span_9 : decode prog_10_method_9_code 9 = .ok (.iload_n (1), 1) := by decide +kernel
theorem d_Model_span_10 : decode prog_10_method_9_code 10 = .ok (.ifCond .lt (52), 3) := by decide +kernel
theorem d_Model_span_13 : decode prog_10_method_9_code 13 = .ok (.iload_n (2), 1) := by decide +kernel
theorem d_Model_span_14 : decode prog_10_method_9_code 14 = .ok (.aload_n (0), 1) := by decide +kernel
theorem d_Model_span_15 : decode prog_10_method_9_code 15 = .ok (.getfield (89), 3) := by decide +kernel
theorem d_Model_span_18 : decode prog_10_method_9_code 18 = .ok (.if_icmp .gt (44), 3) := by decide +kernel
theorem d_Model_span_21 : decode prog_10_method_9_code 21 = .ok (.iload_n (2), 1) := by decide +kernel
theorem d_Model_span_22 : decode prog_10_method_9_code 22 = .ok (.i2l, 1) := by decide +kernel
theorem d_Model_span_23 : decode prog_10_method_9_code 23 = .ok (.ldc2_w (122), 3) := by decide +kernel
theorem d_Model_span_26 : decode prog_10_method_9_code 26 = .ok (.lsub, 1) := by decide +kernel
theorem d_Model_span_27 : decode prog_10_method_9_code 27 = .ok (.iload_n (1), 1) := by decide +kernel
theorem d_Model_span_28 : decode prog_10_method_9_code 28 = .ok (.i2l, 1) := by decide +kernel
theorem d_Model_span_29 : decode prog_10_method_9_code 29 = .ok (.lcmp, 1) := by decide +kernel
theorem d_Model_span_30 : decode prog_10_method_9_code 30 = .ok (.ifCond .lt (32), 3) := by decide +kernel
theorem d_Model_span_33 : decode prog_10_method_9_code 33 = .ok (.iload_n (3), 1) := by decide +kernel
theorem d_Model_span_34 : decode prog_10_method_9_code 34 = .ok (.ifCond .eq (8), 3) := by decide +kernel
theorem d_Model_span_37 : decode prog_10_method_9_code 37 = .ok (.iload_n (3), 1) := by decide +kernel
theorem d_Model_span_38 : decode prog_10_method_9_code 38 = .ok (.iconst (1), 1) := by decide +kernel
theorem d_Model_span_39 : decode prog_10_method_9_code 39 = .ok (.if_icmp .ne (23), 3) := by decide +kernel
theorem d_Model_span_42 : decode prog_10_method_9_code 42 = .ok (.lload (4), 2) := by decide +kernel
theorem d_Model_span_44 : decode prog_10_method_9_code 44 = .ok (.lconst (0), 1) := by decide +kernel
theorem d_Model_span_45 : decode prog_10_method_9_code 45 = .ok (.lcmp, 1) := by decide +kernel
theorem d_Model_span_46 : decode prog_10_method_9_code 46 = .ok (.ifCond .lt (16), 3) := by decide +kernel
theorem d_Model_span_49 : decode prog_10_method_9_code 49 = .ok (.lload (4), 2) := by decide +kernel
theorem d_Model_span_51 : decode prog_10_method_9_code 51 = .ok (.ldc2_w (124), 3) := by decide +kernel
theorem d_Model_span_54 : decode prog_10_method_9_code 54 = .ok (.lcmp, 1) := by decide +kernel
theorem d_Model_span_55 : decode prog_10_method_9_code 55 = .ok (.ifCond .gt (7), 3) := by decide +kernel
theorem d_Model_span_58 : decode prog_10_method_9_code 58 = .ok (.iconst (1), 1) := by decide +kernel
theorem d_Model_span_59 : decode prog_10_method_9_code 59 = .ok (.goto (4), 3) := by decide +kernel
theorem d_Model_span_62 : decode prog_10_method_9_code 62 = .ok (.iconst (0), 1) := by decide +kernel
theorem d_Model_span_63 : decode prog_10_method_9_code 63 = .ok (.istore (6), 2) := by decide +kernel
theorem d_Model_span_65 : decode prog_10_method_9_code 65 = .ok (.iconst (0), 1) := by decide +kernel
theorem d_Model_span_66 : decode prog_10_method_9_code 66 = .ok (.istore (7), 2) := by decide +kernel
theorem d_Model_span_68 : decode prog_10_method_9_code 68 = .ok (.iload (7), 2) := by decide +kernel
theorem d_Model_span_70 : decode prog_10_method_9_code 70 = .ok (.aload_n (0), 1) := by decide +kernel
theorem d_Model_span_71 : decode prog_10_method_9_code 71 = .ok (.getfield (119), 3) := by decide +kernel
theorem d_Model_span_74 : decode prog_10_method_9_code 74 = .ok (.if_icmp .ge (43), 3) := by decide +kernel
theorem d_Model_span_77 : decode prog_10_method_9_code 77 = .ok (.iload (6), 2) := by decide +kernel
theorem d_Model_span_79 : decode prog_10_method_9_code 79 = .ok (.ifCond .eq (38), 3) := by decide +kernel
theorem d_Model_span_82 : decode prog_10_method_9_code 82 = .ok (.iload_n (1), 1) := by decide +kernel
theorem d_Model_span_83 : decode prog_10_method_9_code 83 = .ok (.aload_n (0), 1) := by decide +kernel
theorem d_Model_span_84 : decode prog_10_method_9_code 84 = .ok (.getfield (35), 3) := by decide +kernel
theorem d_Model_span_87 : decode prog_10_method_9_code 87 = .ok (.iload (7), 2) := by decide +kernel
theorem d_Model_span_89 : decode prog_10_method_9_code 89 = .ok (.iaload, 1) := by decide +kernel
theorem d_Model_span_90 : decode prog_10_method_9_code 90 = .ok (.if_icmp .ge (14), 3) := by decide +kernel
theorem d_Model_span_93 : decode prog_10_method_9_code 93 = .ok (.iload_n (2), 1) := by decide +kernel
theorem d_Model_span_94 : decode prog_10_method_9_code 94 = .ok (.aload_n (0), 1) := by decide +kernel
theorem d_Model_span_95 : decode prog_10_method_9_code 95 = .ok (.getfield (32), 3) := by decide +kernel
theorem d_Model_span_98 : decode prog_10_method_9_code 98 = .ok (.iload (7), 2) := by decide +kernel
theorem d_Model_span_100 : decode prog_10_method_9_code 100 = .ok (.iaload, 1) := by decide +kernel
theorem d_Model_span_101 : decode prog_10_method_9_code 101 = .ok (.if_icmp .gt (7), 3) := by decide +kernel
theorem d_Model_span_104 : decode prog_10_method_9_code 104 = .ok (.iconst (1), 1) := by decide +kernel
theorem d_Model_span_105 : decode prog_10_method_9_code 105 = .ok (.goto (4), 3) := by decide +kernel
theorem d_Model_span_108 : decode prog_10_method_9_code 108 = .ok (.iconst (0), 1) := by decide +kernel
theorem d_Model_span_109 : decode prog_10_method_9_code 109 = .ok (.istore (6), 2) := by decide +kernel
theorem d_Model_span_111 : decode prog_10_method_9_code 111 = .ok (.iinc (7) (1), 3) := by decide +kernel
theorem d_Model_span_114 : decode prog_10_method_9_code 114 = .ok (.goto (-46), 3) := by decide +kernel
theorem d_Model_span_117 : decode prog_10_method_9_code 117 = .ok (.iload (6), 2) := by decide +kernel
theorem d_Model_span_119 : decode prog_10_method_9_code 119 = .ok (.ifCond .ne (5), 3) := by decide +kernel
theorem d_Model_span_122 : decode prog_10_method_9_code 122 = .ok (.iconst (-1), 1) := by decide +kernel
theorem d_Model_span_123 : decode prog_10_method_9_code 123 = .ok (.ireturn, 1) := by decide +kernel
theorem d_Model_span_124 : decode prog_10_method_9_code 124 = .ok (.aload_n (0), 1) := by decide +kernel
theorem d_Model_span_125 : decode prog_10_method_9_code 125 = .ok (.getfield (32), 3) := by decide +kernel
theorem d_Model_span_128 : decode prog_10_method_9_code 128 = .ok (.aload_n (0), 1) := by decide +kernel
theorem d_Model_span_129 : decode prog_10_method_9_code 129 = .ok (.getfield (119), 3) := by decide +kernel
theorem d_Model_span_132 : decode prog_10_method_9_code 132 = .ok (.iload_n (1), 1) := by decide +kernel
theorem d_Model_span_133 : decode prog_10_method_9_code 133 = .ok (.iastore, 1) := by decide +kernel
theorem d_Model_span_134 : decode prog_10_method_9_code 134 = .ok (.aload_n (0), 1) := by decide +kernel
theorem d_Model_span_135 : decode prog_10_method_9_code 135 = .ok (.getfield (35), 3) := by decide +kernel
theorem d_Model_span_138 : decode prog_10_method_9_code 138 = .ok (.aload_n (0), 1) := by decide +kernel
theorem d_Model_span_139 : decode prog_10_method_9_code 139 = .ok (.getfield (119), 3) := by decide +kernel
theorem d_Model_span_142 : decode prog_10_method_9_code 142 = .ok (.iload_n (2), 1) := by decide +kernel
theorem d_Model_span_143 : decode prog_10_method_9_code 143 = .ok (.iastore, 1) := by decide +kernel
theorem d_Model_span_144 : decode prog_10_method_9_code 144 = .ok (.aload_n (0), 1) := by decide +kernel
theorem d_Model_span_145 : decode prog_10_method_9_code 145 = .ok (.getfield (38), 3) := by decide +kernel
theorem d_Model_span_148 : decode prog_10_method_9_code 148 = .ok (.aload_n (0), 1) := by decide +kernel
theorem d_Model_span_149 : decode prog_10_method_9_code 149 = .ok (.getfield (119), 3) := by decide +kernel
theorem d_Model_span_152 : decode prog_10_method_9_code 152 = .ok (.iload_n (3), 1) := by decide +kernel
theorem d_Model_span_153 : decode prog_10_method_9_code 153 = .ok (.iastore, 1) := by decide +kernel
theorem d_Model_span_154 : decode prog_10_method_9_code 154 = .ok (.aload_n (0), 1) := by decide +kernel
theorem d_Model_span_155 : decode prog_10_method_9_code 155 = .ok (.getfield (41), 3) := by decide +kernel
theorem d_Model_span_158 : decode prog_10_method_9_code 158 = .ok (.aload_n (0), 1) := by decide +kernel
theorem d_Model_span_159 : decode prog_10_method_9_code 159 = .ok (.getfield (119), 3) := by decide +kernel
theorem d_Model_span_162 : decode prog_10_method_9_code 162 = .ok (.lload (4), 2) := by decide +kernel
theorem d_Model_span_164 : decode prog_10_method_9_code 164 = .ok (.lastore, 1) := by decide +kernel
theorem d_Model_span_165 : decode prog_10_method_9_code 165 = .ok (.aload_n (0), 1) := by decide +kernel
theorem d_Model_span_166 : decode prog_10_method_9_code 166 = .ok (.dup, 1) := by decide +kernel
theorem d_Model_span_167 : decode prog_10_method_9_code 167 = .ok (.getfield (119), 3) := by decide +kernel
theorem d_Model_span_170 : decode prog_10_method_9_code 170 = .ok (.iconst (1), 1) := by decide +kernel
theorem d_Model_span_171 : decode prog_10_method_9_code 171 = .ok (.iadd, 1) := by decide +kernel
theorem d_Model_span_172 : decode prog_10_method_9_code 172 = .ok (.putfield (119), 3) := by decide +kernel
theorem d_Model_span_175 : decode prog_10_method_9_code 175 = .ok (.aload_n (0), 1) := by decide +kernel
theorem d_Model_span_176 : decode prog_10_method_9_code 176 = .ok (.invokevirtual (112), 3) := by decide +kernel
theorem d_Model_span_179 : decode prog_10_method_9_code 179 = .ok (.aload_n (0), 1) := by decide +kernel
theorem d_Model_span_180 : decode prog_10_method_9_code 180 = .ok (.getfield (119), 3) := by decide +kernel
theorem d_Model_span_183 : decode prog_10_method_9_code 183 = .ok (.iconst (1), 1) := by decide +kernel
theorem d_Model_span_184 : decode prog_10_method_9_code 184 = .ok (.isub, 1) := by decide +kernel
theorem d_Model_span_185 : decode prog_10_method_9_code 185 = .ok (.ireturn, 1) := by decide +kernel
set_option maxHeartbeats 4000000 in
set_option maxRecDepth 100000 in
theorem k_Model_span_117 (N : Nat) {X : zX} (C : zB X prog_10_method_9_code 8 R_Model rm_Model_span) {h0 : zH} {p : Int32 × zH} (E : zR X (some .int) rm_Model_span h0 (some (.int p.1)) p.2) : ∀ (x0 : Nat) (x1 : Int32) (x2 : Int32) (x3 : Int32) (x4 : Int64) (x6 : Int32) (h : zH), f_Model_span_117 N x0 x1 x2 x3 x4 x6 h = some p → Zt X 8 0 0 117 [(0, .ref x0), (1, .int x1), (2, .int x2), (3, .int x3), (4, .long x4), (6, .int x6)] [] h := by
  intro x0 x1 x2 x3 x4 x6 h hf
  unfold f_Model_span_117 at hf
  refine z_iload C 5 d_Model_span_117 rfl ?_
  refine z_if_ne (tgt := 124) C d_Model_span_119 (by decide) hf (fun hf => ?_) (fun hf => ?_)
  · refine z_aload_n C 0 d_Model_span_124 rfl rfl ?_
    refine z_getR C 0 11 rfl in_Model (by decide) w_752 rfl d_Model_span_125 hf (fun v1 hf => ?_)
    refine z_aload_n C 0 d_Model_span_128 rfl rfl ?_
    refine z_getI C 0 10 rfl in_Model (by decide) w_751 rfl d_Model_span_129 hf (fun v2 hf => ?_)
    refine z_iload_n C 1 d_Model_span_132 rfl rfl ?_
    refine z_iast C d_Model_span_133 hf (fun h3 hf => ?_)
    refine z_aload_n C 0 d_Model_span_134 rfl rfl ?_
    refine z_getR C 0 12 rfl in_Model (by decide) w_753 rfl d_Model_span_135 hf (fun v4 hf => ?_)
    refine z_aload_n C 0 d_Model_span_138 rfl rfl ?_
    refine z_getI C 0 10 rfl in_Model (by decide) w_751 rfl d_Model_span_139 hf (fun v5 hf => ?_)
    refine z_iload_n C 2 d_Model_span_142 rfl rfl ?_
    refine z_iast C d_Model_span_143 hf (fun h6 hf => ?_)
    refine z_aload_n C 0 d_Model_span_144 rfl rfl ?_
    refine z_getR C 0 13 rfl in_Model (by decide) w_754 rfl d_Model_span_145 hf (fun v7 hf => ?_)
    refine z_aload_n C 0 d_Model_span_148 rfl rfl ?_
    refine z_getI C 0 10 rfl in_Model (by decide) w_751 rfl d_Model_span_149 hf (fun v8 hf => ?_)
    refine z_iload_n C 3 d_Model_span_152 rfl rfl ?_
    refine z_iast C d_Model_span_153 hf (fun h9 hf => ?_)
    refine z_aload_n C 0 d_Model_span_154 rfl rfl ?_
    refine z_getR C 0 14 rfl in_Model (by decide) w_755 rfl d_Model_span_155 hf (fun v10 hf => ?_)
    refine z_aload_n C 0 d_Model_span_158 rfl rfl ?_
    refine z_getI C 0 10 rfl in_Model (by decide) w_751 rfl d_Model_span_159 hf (fun v11 hf => ?_)
    refine z_lload C 4 d_Model_span_162 rfl ?_
    refine z_last C d_Model_span_164 hf (fun h12 hf => ?_)
    refine z_aload_n C 0 d_Model_span_165 rfl rfl ?_
    refine z_dup C d_Model_span_166 rfl ?_
    refine z_getI C 0 10 rfl in_Model (by decide) w_751 rfl d_Model_span_167 hf (fun v13 hf => ?_)
    refine z_iconst C (v := (1 : Int32)) d_Model_span_170 (by decide) ?_
    refine z_iadd C d_Model_span_171 ?_
    refine z_put C 0 10 ty_Model rfl in_Model tyok_Model nm_Model (by decide) w_751 rfl (Or.inl rfl) rfl rfl rfl d_Model_span_172 hf (fun h14 hf => ?_)
    refine z_aload_n C 0 d_Model_span_175 rfl rfl ?_
    obtain ⟨p15, hc, hf⟩ := Option.bind_eq_some_iff.mp hf
    obtain ⟨hz, hc⟩ := zck_some hc
    refine z_callV C (ci := 0) (c_Model_forget N C.2.2.1 hc) rfl hz w_863 w_66 w_860 w_862 w_34 pd_Model_forget rfl ⟨(Nat.le_of_ble_eq_true rfl), (Nat.le_of_ble_eq_true rfl)⟩ ⟨(Nat.le_of_ble_eq_true rfl), (Nat.le_of_ble_eq_true rfl)⟩ rfl (Nat.le_of_ble_eq_true rfl) d_Model_span_176 (k' := 0) (n' := 0) (stk' := []) rfl rfl rfl ?_
    refine z_aload_n C 0 d_Model_span_179 rfl rfl ?_
    refine z_getI C 0 10 rfl in_Model (by decide) w_751 rfl d_Model_span_180 hf (fun v16 hf => ?_)
    refine z_iconst C (v := (1 : Int32)) d_Model_span_183 (by decide) ?_
    refine z_isub C d_Model_span_184 ?_
    exact z_iret C E (Nat.le_of_ble_eq_true rfl) (Nat.le_of_ble_eq_true rfl) d_Model_span_185 hf
  · refine z_iconst C (v := (-1 : Int32)) d_Model_span_122 (by decide) ?_
    exact z_iret C E (Nat.le_of_ble_eq_true rfl) (Nat.le_of_ble_eq_true rfl) d_Model_span_123 hf

set_option maxHeartbeats 4000000 in
set_option maxRecDepth 100000 in
theorem k_Model_span_109 (N : Nat) {X : zX} (C : zB X prog_10_method_9_code 8 R_Model rm_Model_span) {h0 : zH} {p : Int32 × zH} (E : zR X (some .int) rm_Model_span h0 (some (.int p.1)) p.2) {rc68 : Nat → Int32 → Int32 → Int32 → Int64 → Int32 → Int32 → zH → Option (Int32 × zH)} (H68 : ∀ (x0 : Nat) (x1 : Int32) (x2 : Int32) (x3 : Int32) (x4 : Int64) (x6 : Int32) (x7 : Int32) (h : zH), rc68 x0 x1 x2 x3 x4 x6 x7 h = some p → Zt X 8 0 0 68 [(0, .ref x0), (1, .int x1), (2, .int x2), (3, .int x3), (4, .long x4), (6, .int x6), (7, .int x7)] [] h) : ∀ (x0 : Nat) (x1 : Int32) (x2 : Int32) (x3 : Int32) (x4 : Int64) (x7 : Int32) (s0 : Int32) (h : zH), f_Model_span_109 N rc68 x0 x1 x2 x3 x4 x7 s0 h = some p → Zt X 8 0 0 109 [(0, .ref x0), (1, .int x1), (2, .int x2), (3, .int x3), (4, .long x4), (7, .int x7)] [.int s0] h := by
  intro x0 x1 x2 x3 x4 x7 s0 h hf
  unfold f_Model_span_109 at hf
  refine z_istore C (lv' := [(6, .int s0), (0, .ref x0), (1, .int x1), (2, .int x2), (3, .int x3), (4, .long x4), (7, .int x7)]) d_Model_span_109 (by decide) rfl ?_
  refine z_iinc C (v := (x7 + (1 : Int32))) (lv' := [(7, .int (x7 + (1 : Int32))), (6, .int s0), (0, .ref x0), (1, .int x1), (2, .int x2), (3, .int x3), (4, .long x4)]) 6 d_Model_span_111 rfl (by rfl) (by decide) rfl ?_
  refine z_goto (tgt := 68) C d_Model_span_114 (by decide) ?_
  refine z_sub [2, 3, 4, 5, 6, 1, 0] rfl ?_
  exact H68 _ _ _ _ _ _ _ _ hf

set_option maxHeartbeats 4000000 in
set_option maxRecDepth 100000 in
theorem k_Model_span_104 (N : Nat) {X : zX} (C : zB X prog_10_method_9_code 8 R_Model rm_Model_span) {h0 : zH} {p : Int32 × zH} (E : zR X (some .int) rm_Model_span h0 (some (.int p.1)) p.2) {rc68 : Nat → Int32 → Int32 → Int32 → Int64 → Int32 → Int32 → zH → Option (Int32 × zH)} (H68 : ∀ (x0 : Nat) (x1 : Int32) (x2 : Int32) (x3 : Int32) (x4 : Int64) (x6 : Int32) (x7 : Int32) (h : zH), rc68 x0 x1 x2 x3 x4 x6 x7 h = some p → Zt X 8 0 0 68 [(0, .ref x0), (1, .int x1), (2, .int x2), (3, .int x3), (4, .long x4), (6, .int x6), (7, .int x7)] [] h) : ∀ (x0 : Nat) (x1 : Int32) (x2 : Int32) (x3 : Int32) (x4 : Int64) (x7 : Int32) (h : zH), f_Model_span_104 N rc68 x0 x1 x2 x3 x4 x7 h = some p → Zt X 8 0 0 104 [(0, .ref x0), (1, .int x1), (2, .int x2), (3, .int x3), (4, .long x4), (7, .int x7)] [] h := by
  intro x0 x1 x2 x3 x4 x7 h hf
  unfold f_Model_span_104 at hf
  refine z_iconst C (v := (1 : Int32)) d_Model_span_104 (by decide) ?_
  refine z_goto (tgt := 109) C d_Model_span_105 (by decide) ?_
  refine z_sub [0, 1, 2, 3, 4, 5] rfl ?_
  exact k_Model_span_109 N C E H68 _ _ _ _ _ _ _ _ hf

set_option maxHeartbeats 4000000 in
set_option maxRecDepth 100000 in
theorem k_Model_span_68 (N : Nat) {X : zX} (C : zB X prog_10_method_9_code 8 R_Model rm_Model_span) {h0 : zH} {p : Int32 × zH} (E : zR X (some .int) rm_Model_span h0 (some (.int p.1)) p.2) : ∀ n : Nat, ∀ (x0 : Nat) (x1 : Int32) (x2 : Int32) (x3 : Int32) (x4 : Int64) (x6 : Int32) (x7 : Int32) (h : zH), f_Model_span_68 N n x0 x1 x2 x3 x4 x6 x7 h = some p → Zt X 8 0 0 68 [(0, .ref x0), (1, .int x1), (2, .int x2), (3, .int x3), (4, .long x4), (6, .int x6), (7, .int x7)] [] h := by
  intro n
  induction n with
  | zero => intro x0 x1 x2 x3 x4 x6 x7 h hf; cases hf
  | succ n ih =>
  intro x0 x1 x2 x3 x4 x6 x7 h hf
  have H68 := ih
  replace hf : b_Model_span_68 N (f_Model_span_68 N n) x0 x1 x2 x3 x4 x6 x7 h = some p := hf
  unfold b_Model_span_68 at hf
  refine z_iload C 6 d_Model_span_68 rfl ?_
  refine z_aload_n C 0 d_Model_span_70 rfl rfl ?_
  refine z_getI C 0 10 rfl in_Model (by decide) w_751 rfl d_Model_span_71 hf (fun v17 hf => ?_)
  refine z_ic_ge (tgt := 117) C d_Model_span_74 (by decide) hf (fun hf => ?_) (fun hf => ?_)
  · refine z_sub [0, 1, 2, 3, 4, 5] rfl ?_
    exact k_Model_span_117 N C E _ _ _ _ _ _ _ hf
  · refine z_iload C 5 d_Model_span_77 rfl ?_
    refine z_if_eq (tgt := 117) C d_Model_span_79 (by decide) hf (fun hf => ?_) (fun hf => ?_)
    · refine z_sub [0, 1, 2, 3, 4, 5] rfl ?_
      exact k_Model_span_117 N C E _ _ _ _ _ _ _ hf
    · refine z_iload_n C 1 d_Model_span_82 rfl rfl ?_
      refine z_aload_n C 0 d_Model_span_83 rfl rfl ?_
      refine z_getR C 0 12 rfl in_Model (by decide) w_753 rfl d_Model_span_84 hf (fun v18 hf => ?_)
      refine z_iload C 6 d_Model_span_87 rfl ?_
      refine z_iald C d_Model_span_89 hf (fun v19 hf => ?_)
      refine z_ic_ge (tgt := 104) C d_Model_span_90 (by decide) hf (fun hf => ?_) (fun hf => ?_)
      · refine z_sub [0, 1, 2, 3, 4, 6] rfl ?_
        exact k_Model_span_104 N C E H68 _ _ _ _ _ _ _ hf
      · refine z_iload_n C 2 d_Model_span_93 rfl rfl ?_
        refine z_aload_n C 0 d_Model_span_94 rfl rfl ?_
        refine z_getR C 0 11 rfl in_Model (by decide) w_752 rfl d_Model_span_95 hf (fun v20 hf => ?_)
        refine z_iload C 6 d_Model_span_98 rfl ?_
        refine z_iald C d_Model_span_100 hf (fun v21 hf => ?_)
        refine z_ic_gt (tgt := 108) C d_Model_span_101 (by decide) hf (fun hf => ?_) (fun hf => ?_)
        · refine z_iconst C (v := (0 : Int32)) d_Model_span_108 (by decide) ?_
          refine z_sub [0, 1, 2, 3, 4, 6] rfl ?_
          exact k_Model_span_109 N C E H68 _ _ _ _ _ _ _ _ hf
        · refine z_sub [0, 1, 2, 3, 4, 6] rfl ?_
          exact k_Model_span_104 N C E H68 _ _ _ _ _ _ _ hf

set_option maxHeartbeats 4000000 in
set_option maxRecDepth 100000 in
theorem k_Model_span_63 (N : Nat) {X : zX} (C : zB X prog_10_method_9_code 8 R_Model rm_Model_span) {h0 : zH} {p : Int32 × zH} (E : zR X (some .int) rm_Model_span h0 (some (.int p.1)) p.2) : ∀ (x0 : Nat) (x1 : Int32) (x2 : Int32) (x3 : Int32) (x4 : Int64) (s0 : Int32) (h : zH), f_Model_span_63 N x0 x1 x2 x3 x4 s0 h = some p → Zt X 8 0 0 63 [(0, .ref x0), (1, .int x1), (2, .int x2), (3, .int x3), (4, .long x4)] [.int s0] h := by
  intro x0 x1 x2 x3 x4 s0 h hf
  unfold f_Model_span_63 at hf
  refine z_istore C (lv' := [(6, .int s0), (0, .ref x0), (1, .int x1), (2, .int x2), (3, .int x3), (4, .long x4)]) d_Model_span_63 (by decide) rfl ?_
  refine z_iconst C (v := (0 : Int32)) d_Model_span_65 (by decide) ?_
  refine z_istore C (lv' := [(7, .int (0 : Int32)), (6, .int s0), (0, .ref x0), (1, .int x1), (2, .int x2), (3, .int x3), (4, .long x4)]) d_Model_span_66 (by decide) rfl ?_
  refine z_sub [2, 3, 4, 5, 6, 1, 0] rfl ?_
  exact k_Model_span_68 N C E N _ _ _ _ _ _ _ _ hf

set_option maxHeartbeats 4000000 in
set_option maxRecDepth 100000 in
theorem k_Model_span_62 (N : Nat) {X : zX} (C : zB X prog_10_method_9_code 8 R_Model rm_Model_span) {h0 : zH} {p : Int32 × zH} (E : zR X (some .int) rm_Model_span h0 (some (.int p.1)) p.2) : ∀ (x0 : Nat) (x1 : Int32) (x2 : Int32) (x3 : Int32) (x4 : Int64) (h : zH), f_Model_span_62 N x0 x1 x2 x3 x4 h = some p → Zt X 8 0 0 62 [(0, .ref x0), (1, .int x1), (2, .int x2), (3, .int x3), (4, .long x4)] [] h := by
  intro x0 x1 x2 x3 x4 h hf
  unfold f_Model_span_62 at hf
  refine z_iconst C (v := (0 : Int32)) d_Model_span_62 (by decide) ?_
  refine z_sub [0, 1, 2, 3, 4] rfl ?_
  exact k_Model_span_63 N C E _ _ _ _ _ _ _ hf

set_option maxHeartbeats 4000000 in
set_option maxRecDepth 100000 in
theorem k_Model_span_42 (N : Nat) {X : zX} (C : zB X prog_10_method_9_code 8 R_Model rm_Model_span) {h0 : zH} {p : Int32 × zH} (E : zR X (some .int) rm_Model_span h0 (some (.int p.1)) p.2) : ∀ (x0 : Nat) (x1 : Int32) (x2 : Int32) (x3 : Int32) (x4 : Int64) (h : zH), f_Model_span_42 N x0 x1 x2 x3 x4 h = some p → Zt X 8 0 0 42 [(0, .ref x0), (1, .int x1), (2, .int x2), (3, .int x3), (4, .long x4)] [] h := by
  intro x0 x1 x2 x3 x4 h hf
  unfold f_Model_span_42 at hf
  refine z_lload C 4 d_Model_span_42 rfl ?_
  refine z_lconst C (v := (0 : Int64)) d_Model_span_44 (by decide) ?_
  refine z_lcmp C d_Model_span_45 ?_
  refine z_if_lt (tgt := 62) C d_Model_span_46 (by decide) hf (fun hf => ?_) (fun hf => ?_)
  · refine z_sub [0, 1, 2, 3, 4] rfl ?_
    exact k_Model_span_62 N C E _ _ _ _ _ _ hf
  · refine z_lload C 4 d_Model_span_49 rfl ?_
    refine z_ldc2 C d_Model_span_51 w_881 ?_
    refine z_lcmp C d_Model_span_54 ?_
    refine z_if_gt (tgt := 62) C d_Model_span_55 (by decide) hf (fun hf => ?_) (fun hf => ?_)
    · refine z_sub [0, 1, 2, 3, 4] rfl ?_
      exact k_Model_span_62 N C E _ _ _ _ _ _ hf
    · refine z_iconst C (v := (1 : Int32)) d_Model_span_58 (by decide) ?_
      refine z_goto (tgt := 63) C d_Model_span_59 (by decide) ?_
      refine z_sub [0, 1, 2, 3, 4] rfl ?_
      exact k_Model_span_63 N C E _ _ _ _ _ _ _ hf

set_option maxHeartbeats 4000000 in
set_option maxRecDepth 100000 in
theorem k_Model_span (N : Nat) {X : zX} (C : zB X prog_10_method_9_code 8 R_Model rm_Model_span) {h0 : zH} {p : Int32 × zH} (E : zR X (some .int) rm_Model_span h0 (some (.int p.1)) p.2) : ∀ (x0 : Nat) (x1 : Int32) (x2 : Int32) (x3 : Int32) (x4 : Int64) (h : zH), f_Model_span N x0 x1 x2 x3 x4 h = some p → Zt X 8 0 0 0 [(0, .ref x0), (1, .int x1), (2, .int x2), (3, .int x3), (4, .long x4)] [] h := by
  intro x0 x1 x2 x3 x4 h hf
  unfold f_Model_span at hf
  refine z_aload_n C 0 d_Model_span_0 rfl rfl ?_
  refine z_getI C 0 10 rfl in_Model (by decide) w_751 rfl d_Model_span_1 hf (fun v22 hf => ?_)
  refine z_bipush C (v := (6 : Int32)) d_Model_span_4 (by decide) ?_
  refine z_ic_ge (tgt := 62) C d_Model_span_6 (by decide) hf (fun hf => ?_) (fun hf => ?_)
  · refine z_sub [0, 1, 2, 3, 4] rfl ?_
    exact k_Model_span_62 N C E _ _ _ _ _ _ hf
  · refine z_iload_n C 1 d_Model_span_9 rfl rfl ?_
    refine z_if_lt (tgt := 62) C d_Model_span_10 (by decide) hf (fun hf => ?_) (fun hf => ?_)
    · refine z_sub [0, 1, 2, 3, 4] rfl ?_
      exact k_Model_span_62 N C E _ _ _ _ _ _ hf
    · refine z_iload_n C 2 d_Model_span_13 rfl rfl ?_
      refine z_aload_n C 0 d_Model_span_14 rfl rfl ?_
      refine z_getI C 0 0 rfl in_Model (by decide) w_741 rfl d_Model_span_15 hf (fun v23 hf => ?_)
      refine z_ic_gt (tgt := 62) C d_Model_span_18 (by decide) hf (fun hf => ?_) (fun hf => ?_)
      · refine z_sub [0, 1, 2, 3, 4] rfl ?_
        exact k_Model_span_62 N C E _ _ _ _ _ _ hf
      · refine z_iload_n C 2 d_Model_span_21 rfl rfl ?_
        refine z_i2l C d_Model_span_22 ?_
        refine z_ldc2 C d_Model_span_23 w_880 ?_
        refine z_lsub C d_Model_span_26 ?_
        refine z_iload_n C 1 d_Model_span_27 rfl rfl ?_
        refine z_i2l C d_Model_span_28 ?_
        refine z_lcmp C d_Model_span_29 ?_
        refine z_if_lt (tgt := 62) C d_Model_span_30 (by decide) hf (fun hf => ?_) (fun hf => ?_)
        · refine z_sub [0, 1, 2, 3, 4] rfl ?_
          exact k_Model_span_62 N C E _ _ _ _ _ _ hf
        · refine z_iload_n C 3 d_Model_span_33 rfl rfl ?_
          refine z_if_eq (tgt := 42) C d_Model_span_34 (by decide) hf (fun hf => ?_) (fun hf => ?_)
          · refine z_sub [0, 1, 2, 3, 4] rfl ?_
            exact k_Model_span_42 N C E _ _ _ _ _ _ hf
          · refine z_iload_n C 3 d_Model_span_37 rfl rfl ?_
            refine z_iconst C (v := (1 : Int32)) d_Model_span_38 (by decide) ?_
            refine z_ic_ne (tgt := 62) C d_Model_span_39 (by decide) hf (fun hf => ?_) (fun hf => ?_)
            · refine z_sub [0, 1, 2, 3, 4] rfl ?_
              exact k_Model_span_62 N C E _ _ _ _ _ _ hf
            · refine z_sub [0, 1, 2, 3, 4] rfl ?_
              exact k_Model_span_42 N C E _ _ _ _ _ _ hf

theorem c_Model_span (N : Nat) {l : Launch} {D : va_G} {T : List (ClassId × FieldType)} (hT : T.map (fun q => q.2) = ztl) {x0 : Nat} {x1 : Int32} {x2 : Int32} {x3 : Int32} {x4 : Int64} {h : zH} {p : Int32 × zH} (hf : f_Model_span N x0 x1 x2 x3 x4 h = some p) : zM l y_Model_span prog_10_method_9_code 8 (some .int) rm_Model_span D T [.ref x0, .int x1, .int x2, .int x3, .long x4] h (some (.int p.1)) p.2 :=
  z_enter (by decide) hT (Nat.le_of_ble_eq_true rfl) (fun X el eD eT hin C E => k_Model_span N C E x0 x1 x2 x3 x4 h hf)
/-! ===== LevelTablesModel.drop(I)Z ===== -/
abbrev y_Model_drop : MethodName := ⟨R_Model, "drop", "(I)Z"⟩
theorem pd_Model_drop : y_Model_drop.cls ≠ "java/lang/invoke/MethodHandle" ∧ y_Model_drop.cls ≠ "java/lang/invoke/VarHandle" ∧ (parseMethodDescriptor y_Model_drop.desc).map (fun d => d.parameters.length) = some 1 := ⟨by decide +kernel, by decide +kernel, by decide +kernel⟩
abbrev rm_Model_drop : Room := { frames := 2, cells := 0, slots := 0, locals := 41 }
def b_Model_drop_26 (N : Nat) (rc26 : Nat → Int32 → zH → Option (Int32 × zH)) (x0 : Nat) (x2 : Int32) (h : zH) : Option (Int32 × zH) :=
  Option.bind (zgI h x0 0 10) fun (v1 : Int32) =>
  (if v1 ≤ x2 then
    Option.bind (zck (zis h x0 0) (f_Model_forget N x0  h)) fun (p2 : Unit × zH) =>
    zrb (1 : Int32) p2.2
  else
    Option.bind (zgR h x0 0 11) fun (v3 : Nat) =>
    Option.bind (zgR h x0 0 11) fun (v4 : Nat) =>
    Option.bind (zaI h 0 v4 (x2 + (1 : Int32))) fun (v5 : Int32) =>
    Option.bind (zsI h 0 v3 x2 v5) fun (h6 : zH) =>
    Option.bind (zgR h6 x0 0 12) fun (v7 : Nat) =>
    Option.bind (zgR h6 x0 0 12) fun (v8 : Nat) =>
    Option.bind (zaI h6 0 v8 (x2 + (1 : Int32))) fun (v9 : Int32) =>
    Option.bind (zsI h6 0 v7 x2 v9) fun (h10 : zH) =>
    Option.bind (zgR h10 x0 0 13) fun (v11 : Nat) =>
    Option.bind (zgR h10 x0 0 13) fun (v12 : Nat) =>
    Option.bind (zaI h10 0 v12 (x2 + (1 : Int32))) fun (v13 : Int32) =>
    Option.bind (zsI h10 0 v11 x2 v13) fun (h14 : zH) =>
    Option.bind (zgR h14 x0 0 14) fun (v15 : Nat) =>
    Option.bind (zgR h14 x0 0 14) fun (v16 : Nat) =>
    Option.bind (zaJ h14 1 v16 (x2 + (1 : Int32))) fun (v17 : Int64) =>
    Option.bind (zsJ h14 1 v15 x2 v17) fun (h18 : zH) =>
    rc26 x0 (x2 + (1 : Int32)) h18)
def f_Model_drop_26 (N : Nat) : Nat → Nat → Int32 → zH → Option (Int32 × zH)
  | 0 => fun _ _ _ => none
  | n + 1 => fun x0 x2 h => b_Model_drop_26 N (f_Model_drop_26 N n) x0 x2 h
def f_Model_drop (N : Nat) (x0 : Nat) (x1 : Int32) (h : zH) : Option (Int32 × zH) :=
  (if x1 < 0 then
    zrb (0 : Int32) h
  else
    Option.bind (zgI h x0 0 10) fun (v19 : Int32) =>
    (if x1 < v19 then
      Option.bind (zgI h x0 0 10) fun (v20 : Int32) =>
      Option.bind (zp h x0 0 10 (.int (v20 - (1 : Int32)))) fun (h21 : zH) =>
      f_Model_drop_26 N N x0 x1 h21
    else
      zrb (0 : Int32) h))
theorem d_Model_drop_0 : decode prog_10_method_10_code 0 = .ok (.iload_n (1), 1) := by decide +kernel
theorem d_Model_drop_1 : decode prog_10_method_10_code 1 = .ok (.ifCond .lt (11), 3) := by decide +kernel
theorem d_Model_drop_4 : decode prog_10_method_10_code 4 = .ok (.iload_n (1), 1) := by decide +kernel
theorem d_Model_drop_5 : decode prog_10_method_10_code 5 = .ok (.aload_n (0), 1) := by decide +kernel
theorem d_Model_drop_6 : decode prog_10_method_10_code 6 = .ok (.getfield (119), 3) := by decide +kernel
theorem d_Model_drop_9 : decode prog_10_method_10_code 9 = .ok (.if_icmp .lt (5), 3) := by decide +kernel
theorem d_Model_drop_12 : decode prog_10_method_10_code 12 = .ok (.iconst (0), 1) := by decide +kernel
theorem d_Model_drop_13 : decode prog_10_method_10_code 13 = .ok (.ireturn, 1) := by decide +kernel
theorem d_Model_drop_14 : decode prog_10_method_10_code 14 = .ok (.aload_n (0), 1) := by decide +kernel
theorem d_Model_drop_15 : decode prog_10_method_10_code 15 = .ok (.dup, 1) := by decide +kernel
theorem d_Model_drop_16 : decode prog_10_method_10_code 16 = .ok (.getfield (119), 3) := by decide +kernel
theorem d_Model_drop_19 : decode prog_10_method_10_code 19 = .ok (.iconst (1), 1) := by decide +kernel
theorem d_Model_drop_20 : decode prog_10_method_10_code 20 = .ok (.isub, 1) := by decide +kernel
theorem d_Model_drop_21 : decode prog_10_method_10_code 21 = .ok (.putfield (119), 3) := by decide +kernel
theorem d_Model_drop_24 : decode prog_10_method_10_code 24 = .ok (.iload_n (1), 1) := by decide +kernel
theorem d_Model_drop_25 : decode prog_10_method_10_code 25 = .ok (.istore_n (2), 1) := by decide +kernel
theorem d_Model_drop_26 : decode prog_10_method_10_code 26 = .ok (.iload_n (2), 1) := by decide +kernel
theorem d_Model_drop_27 : decode prog_10_method_10_code 27 = .ok (.aload_n (0), 1) := by decide +kernel
theorem d_Model_drop_28 : decode prog_10_method_10_code 28 = .ok (.getfield (119), 3) := by decide +kernel
theorem d_Model_drop_31 : decode prog_10_method_10_code 31 = .ok (.if_icmp .ge (65), 3) := by decide +kernel
theorem d_Model_drop_34 : decode prog_10_method_10_code 34 = .ok (.aload_n (0), 1) := by decide +kernel
theorem d_Model_drop_35 : decode prog_10_method_10_code 35 = .ok (.getfield (32), 3) := by decide +kernel
theorem d_Model_drop_38 : decode prog_10_method_10_code 38 = .ok (.iload_n (2), 1) := by decide +kernel
theorem d_Model_drop_39 : decode prog_10_method_10_code 39 = .ok (.aload_n (0), 1) := by decide +kernel
theorem d_Model_drop_40 : decode prog_10_method_10_code 40 = .ok (.getfield (32), 3) := by decide +kernel
theorem d_Model_drop_43 : decode prog_10_method_10_code 43 = .ok (.iload_n (2), 1) := by decide +kernel
theorem d_Model_drop_44 : decode prog_10_method_10_code 44 = .ok (.iconst (1), 1) := by decide +kernel
theorem d_Model_drop_45 : decode prog_10_method_10_code 45 = .ok (.iadd, 1) := by decide +kernel
theorem d_Model_drop_46 : decode prog_10_method_10_code 46 = .ok (.iaload, 1) := by decide +kernel
theorem d_Model_drop_47 : decode prog_10_method_10_code 47 = .ok (.iastore, 1) := by decide +kernel
theorem d_Model_drop_48 : decode prog_10_method_10_code 48 = .ok (.aload_n (0), 1) := by decide +kernel
theorem d_Model_drop_49 : decode prog_10_method_10_code 49 = .ok (.getfield (35), 3) := by decide +kernel
theorem d_Model_drop_52 : decode prog_10_method_10_code 52 = .ok (.iload_n (2), 1) := by decide +kernel
theorem d_Model_drop_53 : decode prog_10_method_10_code 53 = .ok (.aload_n (0), 1) := by decide +kernel
theorem d_Model_drop_54 : decode prog_10_method_10_code 54 = .ok (.getfield (35), 3) := by decide +kernel
theorem d_Model_drop_57 : decode prog_10_method_10_code 57 = .ok (.iload_n (2), 1) := by decide +kernel
theorem d_Model_drop_58 : decode prog_10_method_10_code 58 = .ok (.iconst (1), 1) := by decide +kernel
theorem d_Model_drop_59 : decode prog_10_method_10_code 59 = .ok (.iadd, 1) := by decide +kernel
theorem d_Model_drop_60 : decode prog_10_method_10_code 60 = .ok (.iaload, 1) := by decide +kernel
theorem d_Model_drop_61 : decode prog_10_method_10_code 61 = .ok (.iastore, 1) := by decide +kernel
theorem d_Model_drop_62 : decode prog_10_method_10_code 62 = .ok (.aload_n (0), 1) := by decide +kernel
theorem d_Model_drop_63 : decode prog_10_method_10_code 63 = .ok (.getfield (38), 3) := by decide +kernel
theorem d_Model_drop_66 : decode prog_10_method_10_code 66 = .ok (.iload_n (2), 1) := by decide +kernel
theorem d_Model_drop_67 : decode prog_10_method_10_code 67 = .ok (.aload_n (0), 1) := by decide +kernel
theorem d_Model_drop_68 : decode prog_10_method_10_code 68 = .ok (.getfield (38), 3) := by decide +kernel
theorem d_Model_drop_71 : decode prog_10_method_10_code 71 = .ok (.iload_n (2), 1) := by decide +kernel
theorem d_Model_drop_72 : decode prog_10_method_10_code 72 = .ok (.iconst (1), 1) := by decide +kernel
theorem d_Model_drop_73 : decode prog_10_method_10_code 73 = .ok (.iadd, 1) := by decide +kernel
theorem d_Model_drop_74 : decode prog_10_method_10_code 74 = .ok (.iaload, 1) := by decide +kernel
theorem d_Model_drop_75 : decode prog_10_method_10_code 75 = .ok (.iastore, 1) := by decide +kernel
theorem d_Model_drop_76 : decode prog_10_method_10_code 76 = .ok (.aload_n (0), 1) := by decide +kernel
theorem d_Model_drop_77 : decode prog_10_method_10_code 77 = .ok (.getfield (41), 3) := by decide +kernel
theorem d_Model_drop_80 : decode prog_10_method_10_code 80 = .ok (.iload_n (2), 1) := by decide +kernel
theorem d_Model_drop_81 : decode prog_10_method_10_code 81 = .ok (.aload_n (0), 1) := by decide +kernel
theorem d_Model_drop_82 : decode prog_10_method_10_code 82 = .ok (.getfield (41), 3) := by decide +kernel
theorem d_Model_drop_85 : decode prog_10_method_10_code 85 = .ok (.iload_n (2), 1) := by decide +kernel
theorem d_Model_drop_86 : decode prog_10_method_10_code 86 = .ok (.iconst (1), 1) := by decide +kernel
theorem d_Model_drop_87 : decode prog_10_method_10_code 87 = .ok (.iadd, 1) := by decide +kernel
theorem d_Model_drop_88 : decode prog_10_method_10_code 88 = .ok (.laload, 1) := by decide +kernel
theorem d_Model_drop_89 : decode prog_10_method_10_code 89 = .ok (.lastore, 1) := by decide +kernel
theorem d_Model_drop_90 : decode prog_10_method_10_code 90 = .ok (.iinc (2) (1), 3) := by decide +kernel
theorem d_Model_drop_93 : decode prog_10_method_10_code 93 = .ok (.goto (-67), 3) := by decide +kernel
theorem d_Model_drop_96 : decode prog_10_method_10_code 96 = .ok (.aload_n (0), 1) := by decide +kernel
theorem d_Model_drop_97 : decode prog_10_method_10_code 97 = .ok (.invokevirtual (112), 3) := by decide +kernel
theorem d_Model_drop_100 : decode prog_10_method_10_code 100 = .ok (.iconst (1), 1) := by decide +kernel
theorem d_Model_drop_101 : decode prog_10_method_10_code 101 = .ok (.ireturn, 1) := by decide +kernel
set_option maxHeartbeats 4000000 in
set_option maxRecDepth 100000 in
theorem k_Model_drop_26 (N : Nat) {X : zX} (C : zB X prog_10_method_10_code 3 R_Model rm_Model_drop) {h0 : zH} {p : Int32 × zH} (E : zR X (some .boolean) rm_Model_drop h0 (some (.int p.1)) p.2) : ∀ n : Nat, ∀ (x0 : Nat) (x2 : Int32) (h : zH), f_Model_drop_26 N n x0 x2 h = some p → Zt X 3 0 0 26 [(0, .ref x0), (2, .int x2)] [] h := by
  intro n
  induction n with
  | zero => intro x0 x2 h hf; cases hf
  | succ n ih =>
  intro x0 x2 h hf
  have H26 := ih
  replace hf : b_Model_drop_26 N (f_Model_drop_26 N n) x0 x2 h = some p := hf
  unfold b_Model_drop_26 at hf
  refine z_iload_n C 1 d_Model_drop_26 rfl rfl ?_
  refine z_aload_n C 0 d_Model_drop_27 rfl rfl ?_
  refine z_getI C 0 10 rfl in_Model (by decide) w_751 rfl d_Model_drop_28 hf (fun v1 hf => ?_)
  refine z_ic_ge (tgt := 96) C d_Model_drop_31 (by decide) hf (fun hf => ?_) (fun hf => ?_)
  · refine z_aload_n C 0 d_Model_drop_96 rfl rfl ?_
    obtain ⟨p2, hc, hf⟩ := Option.bind_eq_some_iff.mp hf
    obtain ⟨hz, hc⟩ := zck_some hc
    refine z_callV C (ci := 0) (c_Model_forget N C.2.2.1 hc) rfl hz w_863 w_66 w_860 w_862 w_34 pd_Model_forget rfl ⟨(Nat.le_of_ble_eq_true rfl), (Nat.le_of_ble_eq_true rfl)⟩ ⟨(Nat.le_of_ble_eq_true rfl), (Nat.le_of_ble_eq_true rfl)⟩ rfl (Nat.le_of_ble_eq_true rfl) d_Model_drop_97 (k' := 0) (n' := 0) (stk' := []) rfl rfl rfl ?_
    refine z_iconst C (v := (1 : Int32)) d_Model_drop_100 (by decide) ?_
    exact z_zret C E (Nat.le_of_ble_eq_true rfl) (Nat.le_of_ble_eq_true rfl) d_Model_drop_101 hf
  · refine z_aload_n C 0 d_Model_drop_34 rfl rfl ?_
    refine z_getR C 0 11 rfl in_Model (by decide) w_752 rfl d_Model_drop_35 hf (fun v3 hf => ?_)
    refine z_iload_n C 1 d_Model_drop_38 rfl rfl ?_
    refine z_aload_n C 0 d_Model_drop_39 rfl rfl ?_
    refine z_getR C 0 11 rfl in_Model (by decide) w_752 rfl d_Model_drop_40 hf (fun v4 hf => ?_)
    refine z_iload_n C 1 d_Model_drop_43 rfl rfl ?_
    refine z_iconst C (v := (1 : Int32)) d_Model_drop_44 (by decide) ?_
    refine z_iadd C d_Model_drop_45 ?_
    refine z_iald C d_Model_drop_46 hf (fun v5 hf => ?_)
    refine z_iast C d_Model_drop_47 hf (fun h6 hf => ?_)
    refine z_aload_n C 0 d_Model_drop_48 rfl rfl ?_
    refine z_getR C 0 12 rfl in_Model (by decide) w_753 rfl d_Model_drop_49 hf (fun v7 hf => ?_)
    refine z_iload_n C 1 d_Model_drop_52 rfl rfl ?_
    refine z_aload_n C 0 d_Model_drop_53 rfl rfl ?_
    refine z_getR C 0 12 rfl in_Model (by decide) w_753 rfl d_Model_drop_54 hf (fun v8 hf => ?_)
    refine z_iload_n C 1 d_Model_drop_57 rfl rfl ?_
    refine z_iconst C (v := (1 : Int32)) d_Model_drop_58 (by decide) ?_
    refine z_iadd C d_Model_drop_59 ?_
    refine z_iald C d_Model_drop_60 hf (fun v9 hf => ?_)
    refine z_iast C d_Model_drop_61 hf (fun h10 hf => ?_)
    refine z_aload_n C 0 d_Model_drop_62 rfl rfl ?_
    refine z_getR C 0 13 rfl in_Model (by decide) w_754 rfl d_Model_drop_63 hf (fun v11 hf => ?_)
    refine z_iload_n C 1 d_Model_drop_66 rfl rfl ?_
    refine z_aload_n C 0 d_Model_drop_67 rfl rfl ?_
    refine z_getR C 0 13 rfl in_Model (by decide) w_754 rfl d_Model_drop_68 hf (fun v12 hf => ?_)
    refine z_iload_n C 1 d_Model_drop_71 rfl rfl ?_
    refine z_iconst C (v := (1 : Int32)) d_Model_drop_72 (by decide) ?_
    refine z_iadd C d_Model_drop_73 ?_
    refine z_iald C d_Model_drop_74 hf (fun v13 hf => ?_)
    refine z_iast C d_Model_drop_75 hf (fun h14 hf => ?_)
    refine z_aload_n C 0 d_Model_drop_76 rfl rfl ?_
    refine z_getR C 0 14 rfl in_Model (by decide) w_755 rfl d_Model_drop_77 hf (fun v15 hf => ?_)
    refine z_iload_n C 1 d_Model_drop_80 rfl rfl ?_
    refine z_aload_n C 0 d_Model_drop_81 rfl rfl ?_
    refine z_getR C 0 14 rfl in_Model (by decide) w_755 rfl d_Model_drop_82 hf (fun v16 hf => ?_)
    refine z_iload_n C 1 d_Model_drop_85 rfl rfl ?_
    refine z_iconst C (v := (1 : Int32)) d_Model_drop_86 (by decide) ?_
    refine z_iadd C d_Model_drop_87 ?_
    refine z_lald C d_Model_drop_88 hf (fun v17 hf => ?_)
    refine z_last C d_Model_drop_89 hf (fun h18 hf => ?_)
    refine z_iinc C (v := (x2 + (1 : Int32))) (lv' := [(2, .int (x2 + (1 : Int32))), (0, .ref x0)]) 1 d_Model_drop_90 rfl (by rfl) (by decide) rfl ?_
    refine z_goto (tgt := 26) C d_Model_drop_93 (by decide) ?_
    refine z_sub [1, 0] rfl ?_
    exact H26 _ _ _ hf

set_option maxHeartbeats 4000000 in
set_option maxRecDepth 100000 in
theorem k_Model_drop (N : Nat) {X : zX} (C : zB X prog_10_method_10_code 3 R_Model rm_Model_drop) {h0 : zH} {p : Int32 × zH} (E : zR X (some .boolean) rm_Model_drop h0 (some (.int p.1)) p.2) : ∀ (x0 : Nat) (x1 : Int32) (h : zH), f_Model_drop N x0 x1 h = some p → Zt X 3 0 0 0 [(0, .ref x0), (1, .int x1)] [] h := by
  intro x0 x1 h hf
  unfold f_Model_drop at hf
  refine z_iload_n C 1 d_Model_drop_0 rfl rfl ?_
  refine z_if_lt (tgt := 12) C d_Model_drop_1 (by decide) hf (fun hf => ?_) (fun hf => ?_)
  · refine z_iconst C (v := (0 : Int32)) d_Model_drop_12 (by decide) ?_
    exact z_zret C E (Nat.le_of_ble_eq_true rfl) (Nat.le_of_ble_eq_true rfl) d_Model_drop_13 hf
  · refine z_iload_n C 1 d_Model_drop_4 rfl rfl ?_
    refine z_aload_n C 0 d_Model_drop_5 rfl rfl ?_
    refine z_getI C 0 10 rfl in_Model (by decide) w_751 rfl d_Model_drop_6 hf (fun v19 hf => ?_)
    refine z_ic_lt (tgt := 14) C d_Model_drop_9 (by decide) hf (fun hf => ?_) (fun hf => ?_)
    · refine z_aload_n C 0 d_Model_drop_14 rfl rfl ?_
      refine z_dup C d_Model_drop_15 rfl ?_
      refine z_getI C 0 10 rfl in_Model (by decide) w_751 rfl d_Model_drop_16 hf (fun v20 hf => ?_)
      refine z_iconst C (v := (1 : Int32)) d_Model_drop_19 (by decide) ?_
      refine z_isub C d_Model_drop_20 ?_
      refine z_put C 0 10 ty_Model rfl in_Model tyok_Model nm_Model (by decide) w_751 rfl (Or.inl rfl) rfl rfl rfl d_Model_drop_21 hf (fun h21 hf => ?_)
      refine z_iload_n C 1 d_Model_drop_24 rfl rfl ?_
      refine z_istore_n C (lv' := [(2, .int x1), (0, .ref x0), (1, .int x1)]) d_Model_drop_25 rfl (by decide) rfl ?_
      refine z_sub [1, 0] rfl ?_
      exact k_Model_drop_26 N C E N _ _ _ hf
    · refine z_iconst C (v := (0 : Int32)) d_Model_drop_12 (by decide) ?_
      exact z_zret C E (Nat.le_of_ble_eq_true rfl) (Nat.le_of_ble_eq_true rfl) d_Model_drop_13 hf

theorem c_Model_drop (N : Nat) {l : Launch} {D : va_G} {T : List (ClassId × FieldType)} (hT : T.map (fun q => q.2) = ztl) {x0 : Nat} {x1 : Int32} {h : zH} {p : Int32 × zH} (hf : f_Model_drop N x0 x1 h = some p) : zM l y_Model_drop prog_10_method_10_code 3 (some .boolean) rm_Model_drop D T [.ref x0, .int x1] h (some (.int p.1)) p.2 :=
  z_enter (by decide) hT (Nat.le_of_ble_eq_true rfl) (fun X el eD eT hin C E => k_Model_drop N C E x0 x1 h hf)
/-! ===== LevelTablesModel.fixed(II)Z ===== -/
abbrev y_Model_fixed : MethodName := ⟨R_Model, "fixed", "(II)Z"⟩
theorem pd_Model_fixed : y_Model_fixed.cls ≠ "java/lang/invoke/MethodHandle" ∧ y_Model_fixed.cls ≠ "java/lang/invoke/VarHandle" ∧ (parseMethodDescriptor y_Model_fixed.desc).map (fun d => d.parameters.length) = some 2 := ⟨by decide +kernel, by decide +kernel, by decide +kernel⟩
abbrev rm_Model_fixed : Room := { frames := 2, cells := 0, slots := 0, locals := 41 }
def f_Model_fixed_23 (N : Nat) (x0 : Nat) (x1 : Int32) (x2 : Int32) (h : zH) : Option (Int32 × zH) :=
  Option.bind (zgR h x0 0 5) fun (v1 : Nat) =>
  Option.bind (zsI h 0 v1 x1 x2) fun (h2 : zH) =>
  Option.bind (zck (zis h2 x0 0) (f_Model_forget N x0  h2)) fun (p3 : Unit × zH) =>
  zrb (1 : Int32) p3.2
def f_Model_fixed (N : Nat) (x0 : Nat) (x1 : Int32) (x2 : Int32) (h : zH) : Option (Int32 × zH) :=
  Option.bind (zck (zis h x0 0) (f_Model_isPlace N x0 x1 h)) fun (p4 : Int32 × zH) =>
  (if p4.1 = 0 then
    zrb (0 : Int32) p4.2
  else
    (if x2 = (-1 : Int32) then
      f_Model_fixed_23 N x0 x1 x2 p4.2
    else
      Option.bind (zck (zis p4.2 x0 0) (f_Model_isLevel N x0 x2 p4.2)) fun (p5 : Int32 × zH) =>
      (if p5.1 = 0 then
        zrb (0 : Int32) p5.2
      else
        f_Model_fixed_23 N x0 x1 x2 p5.2)))
theorem d_Model_fixed_0 : decode prog_10_method_11_code 0 = .ok (.aload_n (0), 1) := by decide +kernel
theorem d_Model_fixed_1 : decode prog_10_method_11_code 1 = .ok (.iload_n (1), 1) := by decide +kernel
theorem d_Model_fixed_2 : decode prog_10_method_11_code 2 = .ok (.invokevirtual (105), 3) := by decide +kernel
theorem d_Model_fixed_5 : decode prog_10_method_11_code 5 = .ok (.ifCond .eq (16), 3) := by decide +kernel
theorem d_Model_fixed_8 : decode prog_10_method_11_code 8 = .ok (.iload_n (2), 1) := by decide +kernel
theorem d_Model_fixed_9 : decode prog_10_method_11_code 9 = .ok (.iconst (-1), 1) := by decide +kernel
theorem d_Model_fixed_10 : decode prog_10_method_11_code 10 = .ok (.if_icmp .eq (13), 3) := by decide +kernel
theorem d_Model_fixed_13 : decode prog_10_method_11_code 13 = .ok (.aload_n (0), 1) := by decide +kernel
theorem d_Model_fixed_14 : decode prog_10_method_11_code 14 = .ok (.iload_n (2), 1) := by decide +kernel
theorem d_Model_fixed_15 : decode prog_10_method_11_code 15 = .ok (.invokevirtual (109), 3) := by decide +kernel
theorem d_Model_fixed_18 : decode prog_10_method_11_code 18 = .ok (.ifCond .ne (5), 3) := by decide +kernel
theorem d_Model_fixed_21 : decode prog_10_method_11_code 21 = .ok (.iconst (0), 1) := by decide +kernel
theorem d_Model_fixed_22 : decode prog_10_method_11_code 22 = .ok (.ireturn, 1) := by decide +kernel
theorem d_Model_fixed_23 : decode prog_10_method_11_code 23 = .ok (.aload_n (0), 1) := by decide +kernel
theorem d_Model_fixed_24 : decode prog_10_method_11_code 24 = .ok (.getfield (19), 3) := by decide +kernel
theorem d_Model_fixed_27 : decode prog_10_method_11_code 27 = .ok (.iload_n (1), 1) := by decide +kernel
theorem d_Model_fixed_28 : decode prog_10_method_11_code 28 = .ok (.iload_n (2), 1) := by decide +kernel
theorem d_Model_fixed_29 : decode prog_10_method_11_code 29 = .ok (.iastore, 1) := by decide +kernel
theorem d_Model_fixed_30 : decode prog_10_method_11_code 30 = .ok (.aload_n (0), 1) := by decide +kernel
theorem d_Model_fixed_31 : decode prog_10_method_11_code 31 = .ok (.invokevirtual (112), 3) := by decide +kernel
theorem d_Model_fixed_34 : decode prog_10_method_11_code 34 = .ok (.iconst (1), 1) := by decide +kernel
theorem d_Model_fixed_35 : decode prog_10_method_11_code 35 = .ok (.ireturn, 1) := by decide +kernel
set_option maxHeartbeats 4000000 in
set_option maxRecDepth 100000 in
theorem k_Model_fixed_23 (N : Nat) {X : zX} (C : zB X prog_10_method_11_code 3 R_Model rm_Model_fixed) {h0 : zH} {p : Int32 × zH} (E : zR X (some .boolean) rm_Model_fixed h0 (some (.int p.1)) p.2) : ∀ (x0 : Nat) (x1 : Int32) (x2 : Int32) (h : zH), f_Model_fixed_23 N x0 x1 x2 h = some p → Zt X 3 0 0 23 [(0, .ref x0), (1, .int x1), (2, .int x2)] [] h := by
  intro x0 x1 x2 h hf
  unfold f_Model_fixed_23 at hf
  refine z_aload_n C 0 d_Model_fixed_23 rfl rfl ?_
  refine z_getR C 0 5 rfl in_Model (by decide) w_746 rfl d_Model_fixed_24 hf (fun v1 hf => ?_)
  refine z_iload_n C 1 d_Model_fixed_27 rfl rfl ?_
  refine z_iload_n C 2 d_Model_fixed_28 rfl rfl ?_
  refine z_iast C d_Model_fixed_29 hf (fun h2 hf => ?_)
  refine z_aload_n C 0 d_Model_fixed_30 rfl rfl ?_
  obtain ⟨p3, hc, hf⟩ := Option.bind_eq_some_iff.mp hf
  obtain ⟨hz, hc⟩ := zck_some hc
  refine z_callV C (ci := 0) (c_Model_forget N C.2.2.1 hc) rfl hz w_863 w_66 w_860 w_862 w_34 pd_Model_forget rfl ⟨(Nat.le_of_ble_eq_true rfl), (Nat.le_of_ble_eq_true rfl)⟩ ⟨(Nat.le_of_ble_eq_true rfl), (Nat.le_of_ble_eq_true rfl)⟩ rfl (Nat.le_of_ble_eq_true rfl) d_Model_fixed_31 (k' := 0) (n' := 0) (stk' := []) rfl rfl rfl ?_
  refine z_iconst C (v := (1 : Int32)) d_Model_fixed_34 (by decide) ?_
  exact z_zret C E (Nat.le_of_ble_eq_true rfl) (Nat.le_of_ble_eq_true rfl) d_Model_fixed_35 hf

set_option maxHeartbeats 4000000 in
set_option maxRecDepth 100000 in
theorem k_Model_fixed (N : Nat) {X : zX} (C : zB X prog_10_method_11_code 3 R_Model rm_Model_fixed) {h0 : zH} {p : Int32 × zH} (E : zR X (some .boolean) rm_Model_fixed h0 (some (.int p.1)) p.2) : ∀ (x0 : Nat) (x1 : Int32) (x2 : Int32) (h : zH), f_Model_fixed N x0 x1 x2 h = some p → Zt X 3 0 0 0 [(0, .ref x0), (1, .int x1), (2, .int x2)] [] h := by
  intro x0 x1 x2 h hf
  unfold f_Model_fixed at hf
  refine z_aload_n C 0 d_Model_fixed_0 rfl rfl ?_
  refine z_iload_n C 1 d_Model_fixed_1 rfl rfl ?_
  obtain ⟨p4, hc, hf⟩ := Option.bind_eq_some_iff.mp hf
  obtain ⟨hz, hc⟩ := zck_some hc
  refine z_callV C (ci := 0) (c_Model_isPlace N C.2.2.1 hc) rfl hz w_855 w_66 w_852 w_854 w_32 pd_Model_isPlace rfl ⟨(Nat.le_of_ble_eq_true rfl), (Nat.le_of_ble_eq_true rfl)⟩ ⟨(Nat.le_of_ble_eq_true rfl), (Nat.le_of_ble_eq_true rfl)⟩ rfl (Nat.le_of_ble_eq_true rfl) d_Model_fixed_2 (k' := 0) (n' := 0) (stk' := [.int p4.1]) rfl rfl rfl ?_
  refine z_if_eq (tgt := 21) C d_Model_fixed_5 (by decide) hf (fun hf => ?_) (fun hf => ?_)
  · refine z_iconst C (v := (0 : Int32)) d_Model_fixed_21 (by decide) ?_
    exact z_zret C E (Nat.le_of_ble_eq_true rfl) (Nat.le_of_ble_eq_true rfl) d_Model_fixed_22 hf
  · refine z_iload_n C 2 d_Model_fixed_8 rfl rfl ?_
    refine z_iconst C (v := (-1 : Int32)) d_Model_fixed_9 (by decide) ?_
    refine z_ic_eq (tgt := 23) C d_Model_fixed_10 (by decide) hf (fun hf => ?_) (fun hf => ?_)
    · refine z_sub [0, 1, 2] rfl ?_
      exact k_Model_fixed_23 N C E _ _ _ _ hf
    · refine z_aload_n C 0 d_Model_fixed_13 rfl rfl ?_
      refine z_iload_n C 2 d_Model_fixed_14 rfl rfl ?_
      obtain ⟨p5, hc, hf⟩ := Option.bind_eq_some_iff.mp hf
      obtain ⟨hz, hc⟩ := zck_some hc
      refine z_callV C (ci := 0) (c_Model_isLevel N C.2.2.1 hc) rfl hz w_859 w_66 w_856 w_858 w_33 pd_Model_isLevel rfl ⟨(Nat.le_of_ble_eq_true rfl), (Nat.le_of_ble_eq_true rfl)⟩ ⟨(Nat.le_of_ble_eq_true rfl), (Nat.le_of_ble_eq_true rfl)⟩ rfl (Nat.le_of_ble_eq_true rfl) d_Model_fixed_15 (k' := 0) (n' := 0) (stk' := [.int p5.1]) rfl rfl rfl ?_
      refine z_if_ne (tgt := 23) C d_Model_fixed_18 (by decide) hf (fun hf => ?_) (fun hf => ?_)
      · refine z_sub [0, 1, 2] rfl ?_
        exact k_Model_fixed_23 N C E _ _ _ _ hf
      · refine z_iconst C (v := (0 : Int32)) d_Model_fixed_21 (by decide) ?_
        exact z_zret C E (Nat.le_of_ble_eq_true rfl) (Nat.le_of_ble_eq_true rfl) d_Model_fixed_22 hf

theorem c_Model_fixed (N : Nat) {l : Launch} {D : va_G} {T : List (ClassId × FieldType)} (hT : T.map (fun q => q.2) = ztl) {x0 : Nat} {x1 : Int32} {x2 : Int32} {h : zH} {p : Int32 × zH} (hf : f_Model_fixed N x0 x1 x2 h = some p) : zM l y_Model_fixed prog_10_method_11_code 3 (some .boolean) rm_Model_fixed D T [.ref x0, .int x1, .int x2] h (some (.int p.1)) p.2 :=
  z_enter (by decide) hT (Nat.le_of_ble_eq_true rfl) (fun X el eD eT hin C E => k_Model_fixed N C E x0 x1 x2 h hf)
/-! ===== LevelTablesModel.slopes(III)Z ===== -/
abbrev y_Model_slopes : MethodName := ⟨R_Model, "slopes", "(III)Z"⟩
theorem pd_Model_slopes : y_Model_slopes.cls ≠ "java/lang/invoke/MethodHandle" ∧ y_Model_slopes.cls ≠ "java/lang/invoke/VarHandle" ∧ (parseMethodDescriptor y_Model_slopes.desc).map (fun d => d.parameters.length) = some 3 := ⟨by decide +kernel, by decide +kernel, by decide +kernel⟩
abbrev rm_Model_slopes : Room := { frames := 2, cells := 0, slots := 0, locals := 41 }
def f_Model_slopes (N : Nat) (x0 : Nat) (x1 : Int32) (x2 : Int32) (x3 : Int32) (h : zH) : Option (Int32 × zH) :=
  (if x1 < (1 : Int32) then
    zrb (0 : Int32) h
  else
    (if (24 : Int32) < x1 then
      zrb (0 : Int32) h
    else
      (if x2 < 0 then
        zrb (0 : Int32) h
      else
        (if (48 : Int32) < x2 then
          zrb (0 : Int32) h
        else
          (if x3 < 0 then
            zrb (0 : Int32) h
          else
            (if x3 ≤ x1 then
              Option.bind (zp h x0 0 7 (.int x1)) fun (h1 : zH) =>
              Option.bind (zp h1 x0 0 8 (.int x2)) fun (h2 : zH) =>
              Option.bind (zp h2 x0 0 9 (.int x3)) fun (h3 : zH) =>
              Option.bind (zck (zis h3 x0 0) (f_Model_forget N x0  h3)) fun (p4 : Unit × zH) =>
              zrb (1 : Int32) p4.2
            else
              zrb (0 : Int32) h))))))
theorem d_Model_slopes_0 : decode prog_10_method_12_code 0 = .ok (.iload_n (1), 1) := by decide +kernel
theorem d_Model_slopes_1 : decode prog_10_method_12_code 1 = .ok (.iconst (1), 1) := by decide +kernel
theorem d_Model_slopes_2 : decode prog_10_method_12_code 2 = .ok (.if_icmp .lt (28), 3) := by decide +kernel
theorem d_Model_slopes_5 : decode prog_10_method_12_code 5 = .ok (.iload_n (1), 1) := by decide +kernel
theorem d_Model_slopes_6 : decode prog_10_method_12_code 6 = .ok (.bipush (24), 2) := by decide +kernel
theorem d_Model_slopes_8 : decode prog_10_method_12_code 8 = .ok (.if_icmp .gt (22), 3) := by decide +kernel
theorem d_Model_slopes_11 : decode prog_10_method_12_code 11 = .ok (.iload_n (2), 1) := by decide +kernel
theorem d_Model_slopes_12 : decode prog_10_method_12_code 12 = .ok (.ifCond .lt (18), 3) := by decide +kernel
theorem d_Model_slopes_15 : decode prog_10_method_12_code 15 = .ok (.iload_n (2), 1) := by decide +kernel
theorem d_Model_slopes_16 : decode prog_10_method_12_code 16 = .ok (.bipush (48), 2) := by decide +kernel
theorem d_Model_slopes_18 : decode prog_10_method_12_code 18 = .ok (.if_icmp .gt (12), 3) := by decide +kernel
theorem d_Model_slopes_21 : decode prog_10_method_12_code 21 = .ok (.iload_n (3), 1) := by decide +kernel
theorem d_Model_slopes_22 : decode prog_10_method_12_code 22 = .ok (.ifCond .lt (8), 3) := by decide +kernel
theorem d_Model_slopes_25 : decode prog_10_method_12_code 25 = .ok (.iload_n (3), 1) := by decide +kernel
theorem d_Model_slopes_26 : decode prog_10_method_12_code 26 = .ok (.iload_n (1), 1) := by decide +kernel
theorem d_Model_slopes_27 : decode prog_10_method_12_code 27 = .ok (.if_icmp .le (5), 3) := by decide +kernel
theorem d_Model_slopes_30 : decode prog_10_method_12_code 30 = .ok (.iconst (0), 1) := by decide +kernel
theorem d_Model_slopes_31 : decode prog_10_method_12_code 31 = .ok (.ireturn, 1) := by decide +kernel
theorem d_Model_slopes_32 : decode prog_10_method_12_code 32 = .ok (.aload_n (0), 1) := by decide +kernel
theorem d_Model_slopes_33 : decode prog_10_method_12_code 33 = .ok (.iload_n (1), 1) := by decide +kernel
theorem d_Model_slopes_34 : decode prog_10_method_12_code 34 = .ok (.putfield (25), 3) := by decide +kernel
theorem d_Model_slopes_37 : decode prog_10_method_12_code 37 = .ok (.aload_n (0), 1) := by decide +kernel
theorem d_Model_slopes_38 : decode prog_10_method_12_code 38 = .ok (.iload_n (2), 1) := by decide +kernel
theorem d_Model_slopes_39 : decode prog_10_method_12_code 39 = .ok (.putfield (29), 3) := by decide +kernel
theorem d_Model_slopes_42 : decode prog_10_method_12_code 42 = .ok (.aload_n (0), 1) := by decide +kernel
theorem d_Model_slopes_43 : decode prog_10_method_12_code 43 = .ok (.iload_n (3), 1) := by decide +kernel
theorem d_Model_slopes_44 : decode prog_10_method_12_code 44 = .ok (.putfield (126), 3) := by decide +kernel
theorem d_Model_slopes_47 : decode prog_10_method_12_code 47 = .ok (.aload_n (0), 1) := by decide +kernel
theorem d_Model_slopes_48 : decode prog_10_method_12_code 48 = .ok (.invokevirtual (112), 3) := by decide +kernel
theorem d_Model_slopes_51 : decode prog_10_method_12_code 51 = .ok (.iconst (1), 1) := by decide +kernel
theorem d_Model_slopes_52 : decode prog_10_method_12_code 52 = .ok (.ireturn, 1) := by decide +kernel
set_option maxHeartbeats 4000000 in
set_option maxRecDepth 100000 in
theorem k_Model_slopes (N : Nat) {X : zX} (C : zB X prog_10_method_12_code 4 R_Model rm_Model_slopes) {h0 : zH} {p : Int32 × zH} (E : zR X (some .boolean) rm_Model_slopes h0 (some (.int p.1)) p.2) : ∀ (x0 : Nat) (x1 : Int32) (x2 : Int32) (x3 : Int32) (h : zH), f_Model_slopes N x0 x1 x2 x3 h = some p → Zt X 4 0 0 0 [(0, .ref x0), (1, .int x1), (2, .int x2), (3, .int x3)] [] h := by
  intro x0 x1 x2 x3 h hf
  unfold f_Model_slopes at hf
  refine z_iload_n C 1 d_Model_slopes_0 rfl rfl ?_
  refine z_iconst C (v := (1 : Int32)) d_Model_slopes_1 (by decide) ?_
  refine z_ic_lt (tgt := 30) C d_Model_slopes_2 (by decide) hf (fun hf => ?_) (fun hf => ?_)
  · refine z_iconst C (v := (0 : Int32)) d_Model_slopes_30 (by decide) ?_
    exact z_zret C E (Nat.le_of_ble_eq_true rfl) (Nat.le_of_ble_eq_true rfl) d_Model_slopes_31 hf
  · refine z_iload_n C 1 d_Model_slopes_5 rfl rfl ?_
    refine z_bipush C (v := (24 : Int32)) d_Model_slopes_6 (by decide) ?_
    refine z_ic_gt (tgt := 30) C d_Model_slopes_8 (by decide) hf (fun hf => ?_) (fun hf => ?_)
    · refine z_iconst C (v := (0 : Int32)) d_Model_slopes_30 (by decide) ?_
      exact z_zret C E (Nat.le_of_ble_eq_true rfl) (Nat.le_of_ble_eq_true rfl) d_Model_slopes_31 hf
    · refine z_iload_n C 2 d_Model_slopes_11 rfl rfl ?_
      refine z_if_lt (tgt := 30) C d_Model_slopes_12 (by decide) hf (fun hf => ?_) (fun hf => ?_)
      · refine z_iconst C (v := (0 : Int32)) d_Model_slopes_30 (by decide) ?_
        exact z_zret C E (Nat.le_of_ble_eq_true rfl) (Nat.le_of_ble_eq_true rfl) d_Model_slopes_31 hf
      · refine z_iload_n C 2 d_Model_slopes_15 rfl rfl ?_
        refine z_bipush C (v := (48 : Int32)) d_Model_slopes_16 (by decide) ?_
        refine z_ic_gt (tgt := 30) C d_Model_slopes_18 (by decide) hf (fun hf => ?_) (fun hf => ?_)
        · refine z_iconst C (v := (0 : Int32)) d_Model_slopes_30 (by decide) ?_
          exact z_zret C E (Nat.le_of_ble_eq_true rfl) (Nat.le_of_ble_eq_true rfl) d_Model_slopes_31 hf
        · refine z_iload_n C 3 d_Model_slopes_21 rfl rfl ?_
          refine z_if_lt (tgt := 30) C d_Model_slopes_22 (by decide) hf (fun hf => ?_) (fun hf => ?_)
          · refine z_iconst C (v := (0 : Int32)) d_Model_slopes_30 (by decide) ?_
            exact z_zret C E (Nat.le_of_ble_eq_true rfl) (Nat.le_of_ble_eq_true rfl) d_Model_slopes_31 hf
          · refine z_iload_n C 3 d_Model_slopes_25 rfl rfl ?_
            refine z_iload_n C 1 d_Model_slopes_26 rfl rfl ?_
            refine z_ic_le (tgt := 32) C d_Model_slopes_27 (by decide) hf (fun hf => ?_) (fun hf => ?_)
            · refine z_aload_n C 0 d_Model_slopes_32 rfl rfl ?_
              refine z_iload_n C 1 d_Model_slopes_33 rfl rfl ?_
              refine z_put C 0 7 ty_Model rfl in_Model tyok_Model nm_Model (by decide) w_748 rfl (Or.inl rfl) rfl rfl rfl d_Model_slopes_34 hf (fun h1 hf => ?_)
              refine z_aload_n C 0 d_Model_slopes_37 rfl rfl ?_
              refine z_iload_n C 2 d_Model_slopes_38 rfl rfl ?_
              refine z_put C 0 8 ty_Model rfl in_Model tyok_Model nm_Model (by decide) w_749 rfl (Or.inl rfl) rfl rfl rfl d_Model_slopes_39 hf (fun h2 hf => ?_)
              refine z_aload_n C 0 d_Model_slopes_42 rfl rfl ?_
              refine z_iload_n C 3 d_Model_slopes_43 rfl rfl ?_
              refine z_put C 0 9 ty_Model rfl in_Model tyok_Model nm_Model (by decide) w_750 rfl (Or.inl rfl) rfl rfl rfl d_Model_slopes_44 hf (fun h3 hf => ?_)
              refine z_aload_n C 0 d_Model_slopes_47 rfl rfl ?_
              obtain ⟨p4, hc, hf⟩ := Option.bind_eq_some_iff.mp hf
              obtain ⟨hz, hc⟩ := zck_some hc
              refine z_callV C (ci := 0) (c_Model_forget N C.2.2.1 hc) rfl hz w_863 w_66 w_860 w_862 w_34 pd_Model_forget rfl ⟨(Nat.le_of_ble_eq_true rfl), (Nat.le_of_ble_eq_true rfl)⟩ ⟨(Nat.le_of_ble_eq_true rfl), (Nat.le_of_ble_eq_true rfl)⟩ rfl (Nat.le_of_ble_eq_true rfl) d_Model_slopes_48 (k' := 0) (n' := 0) (stk' := []) rfl rfl rfl ?_
              refine z_iconst C (v := (1 : Int32)) d_Model_slopes_51 (by decide) ?_
              exact z_zret C E (Nat.le_of_ble_eq_true rfl) (Nat.le_of_ble_eq_true rfl) d_Model_slopes_52 hf
            · refine z_iconst C (v := (0 : Int32)) d_Model_slopes_30 (by decide) ?_
              exact z_zret C E (Nat.le_of_ble_eq_true rfl) (Nat.le_of_ble_eq_true rfl) d_Model_slopes_31 hf

theorem c_Model_slopes (N : Nat) {l : Launch} {D : va_G} {T : List (ClassId × FieldType)} (hT : T.map (fun q => q.2) = ztl) {x0 : Nat} {x1 : Int32} {x2 : Int32} {x3 : Int32} {h : zH} {p : Int32 × zH} (hf : f_Model_slopes N x0 x1 x2 x3 h = some p) : zM l y_Model_slopes prog_10_method_12_code 4 (some .boolean) rm_Model_slopes D T [.ref x0, .int x1, .int x2, .int x3] h (some (.int p.1)) p.2 :=
  z_enter (by decide) hT (Nat.le_of_ble_eq_true rfl) (fun X el eD eT hin C E => k_Model_slopes N C E x0 x1 x2 x3 h hf)
/-! ===== LevelTablesModel.follows(II)Z ===== -/
abbrev y_Model_follows : MethodName := ⟨R_Model, "follows", "(II)Z"⟩
theorem pd_Model_follows : y_Model_follows.cls ≠ "java/lang/invoke/MethodHandle" ∧ y_Model_follows.cls ≠ "java/lang/invoke/VarHandle" ∧ (parseMethodDescriptor y_Model_follows.desc).map (fun d => d.parameters.length) = some 2 := ⟨by decide +kernel, by decide +kernel, by decide +kernel⟩
abbrev rm_Model_follows : Room := { frames := 1, cells := 0, slots := 0, locals := 20 }
def f_Model_follows_44 (N : Nat)  (h : zH) : Option (Int32 × zH) :=
  zrb (1 : Int32) h
def f_Model_follows (N : Nat) (x0 : Nat) (x1 : Int32) (x2 : Int32) (h : zH) : Option (Int32 × zH) :=
  Option.bind (f_Model_size N x1 h) fun (p1 : Int32 × zH) =>
  Option.bind (zgI p1.2 x0 0 9) fun (v2 : Int32) =>
  (if p1.1 < v2 then
    zrb (0 : Int32) p1.2
  else
    Option.bind (f_Model_size N x1 p1.2) fun (p3 : Int32 × zH) =>
    Option.bind (zgI p3.2 x0 0 7) fun (v4 : Int32) =>
    (if v4 < p3.1 then
      zrb (0 : Int32) p3.2
    else
      (if x2 = (49 : Int32) then
        f_Model_follows_44 N  p3.2
      else
        Option.bind (f_Model_size N (x1 - (x2 - (24 : Int32))) p3.2) fun (p5 : Int32 × zH) =>
        Option.bind (zgI p5.2 x0 0 8) fun (v6 : Int32) =>
        (if v6 < p5.1 then
          zrb (0 : Int32) p5.2
        else
          f_Model_follows_44 N  p5.2))))
theorem d_Model_follows_0 : decode prog_10_method_15_code 0 = .ok (.iload_n (1), 1) := by decide +kernel
theorem d_Model_follows_1 : decode prog_10_method_15_code 1 = .ok (.invokestatic (129), 3) := by decide +kernel
theorem d_Model_follows_4 : decode prog_10_method_15_code 4 = .ok (.aload_n (0), 1) := by decide +kernel
theorem d_Model_follows_5 : decode prog_10_method_15_code 5 = .ok (.getfield (126), 3) := by decide +kernel
theorem d_Model_follows_8 : decode prog_10_method_15_code 8 = .ok (.if_icmp .lt (40), 3) := by decide +kernel
theorem d_Model_follows_11 : decode prog_10_method_15_code 11 = .ok (.iload_n (1), 1) := by decide +kernel
theorem d_Model_follows_12 : decode prog_10_method_15_code 12 = .ok (.invokestatic (129), 3) := by decide +kernel
theorem d_Model_follows_15 : decode prog_10_method_15_code 15 = .ok (.aload_n (0), 1) := by decide +kernel
theorem d_Model_follows_16 : decode prog_10_method_15_code 16 = .ok (.getfield (25), 3) := by decide +kernel
theorem d_Model_follows_19 : decode prog_10_method_15_code 19 = .ok (.if_icmp .gt (29), 3) := by decide +kernel
theorem d_Model_follows_22 : decode prog_10_method_15_code 22 = .ok (.iload_n (2), 1) := by decide +kernel
theorem d_Model_follows_23 : decode prog_10_method_15_code 23 = .ok (.bipush (49), 2) := by decide +kernel
theorem d_Model_follows_25 : decode prog_10_method_15_code 25 = .ok (.if_icmp .eq (19), 3) := by decide +kernel
theorem d_Model_follows_28 : decode prog_10_method_15_code 28 = .ok (.iload_n (1), 1) := by decide +kernel
theorem d_Model_follows_29 : decode prog_10_method_15_code 29 = .ok (.iload_n (2), 1) := by decide +kernel
theorem d_Model_follows_30 : decode prog_10_method_15_code 30 = .ok (.bipush (24), 2) := by decide +kernel
theorem d_Model_follows_32 : decode prog_10_method_15_code 32 = .ok (.isub, 1) := by decide +kernel
theorem d_Model_follows_33 : decode prog_10_method_15_code 33 = .ok (.isub, 1) := by decide +kernel
theorem d_Model_follows_34 : decode prog_10_method_15_code 34 = .ok (.invokestatic (129), 3) := by decide +kernel
theorem d_Model_follows_37 : decode prog_10_method_15_code 37 = .ok (.aload_n (0), 1) := by decide +kernel
theorem d_Model_follows_38 : decode prog_10_method_15_code 38 = .ok (.getfield (29), 3) := by decide +kernel
theorem d_Model_follows_41 : decode prog_10_method_15_code 41 = .ok (.if_icmp .gt (7), 3) := by decide +kernel
theorem d_Model_follows_44 : decode prog_10_method_15_code 44 = .ok (.iconst (1), 1) := by decide +kernel
theorem d_Model_follows_45 : decode prog_10_method_15_code 45 = .ok (.goto (4), 3) := by decide +kernel
theorem d_Model_follows_48 : decode prog_10_method_15_code 48 = .ok (.iconst (0), 1) := by decide +kernel
theorem d_Model_follows_49 : decode prog_10_method_15_code 49 = .ok (.ireturn, 1) := by decide +kernel
set_option maxHeartbeats 4000000 in
set_option maxRecDepth 100000 in
theorem k_Model_follows_44 (N : Nat) {X : zX} (C : zB X prog_10_method_15_code 3 R_Model rm_Model_follows) {h0 : zH} {p : Int32 × zH} (E : zR X (some .boolean) rm_Model_follows h0 (some (.int p.1)) p.2) : ∀  (h : zH), f_Model_follows_44 N  h = some p → Zt X 3 0 0 44 [] [] h := by
  intro  h hf
  unfold f_Model_follows_44 at hf
  refine z_iconst C (v := (1 : Int32)) d_Model_follows_44 (by decide) ?_
  refine z_goto (tgt := 49) C d_Model_follows_45 (by decide) ?_
  exact z_zret C E (Nat.le_of_ble_eq_true rfl) (Nat.le_of_ble_eq_true rfl) d_Model_follows_49 hf

set_option maxHeartbeats 4000000 in
set_option maxRecDepth 100000 in
theorem k_Model_follows (N : Nat) {X : zX} (C : zB X prog_10_method_15_code 3 R_Model rm_Model_follows) {h0 : zH} {p : Int32 × zH} (E : zR X (some .boolean) rm_Model_follows h0 (some (.int p.1)) p.2) : ∀ (x0 : Nat) (x1 : Int32) (x2 : Int32) (h : zH), f_Model_follows N x0 x1 x2 h = some p → Zt X 3 0 0 0 [(0, .ref x0), (1, .int x1), (2, .int x2)] [] h := by
  intro x0 x1 x2 h hf
  unfold f_Model_follows at hf
  refine z_iload_n C 1 d_Model_follows_0 rfl rfl ?_
  obtain ⟨p1, hc, hf⟩ := Option.bind_eq_some_iff.mp hf
  refine z_callS C (c_Model_size N C.2.2.1 hc) w_912 w_66 w_910 w_911 pd_Model_size rfl ⟨(Nat.le_of_ble_eq_true rfl), (Nat.le_of_ble_eq_true rfl)⟩ ⟨(Nat.le_of_ble_eq_true rfl), (Nat.le_of_ble_eq_true rfl)⟩ rfl (Nat.le_of_ble_eq_true rfl) d_Model_follows_1 (k' := 0) (n' := 0) (stk' := [.int p1.1]) rfl rfl rfl ?_
  refine z_aload_n C 0 d_Model_follows_4 rfl rfl ?_
  refine z_getI C 0 9 rfl in_Model (by decide) w_750 rfl d_Model_follows_5 hf (fun v2 hf => ?_)
  refine z_ic_lt (tgt := 48) C d_Model_follows_8 (by decide) hf (fun hf => ?_) (fun hf => ?_)
  · refine z_iconst C (v := (0 : Int32)) d_Model_follows_48 (by decide) ?_
    exact z_zret C E (Nat.le_of_ble_eq_true rfl) (Nat.le_of_ble_eq_true rfl) d_Model_follows_49 hf
  · refine z_iload_n C 1 d_Model_follows_11 rfl rfl ?_
    obtain ⟨p3, hc, hf⟩ := Option.bind_eq_some_iff.mp hf
    refine z_callS C (c_Model_size N C.2.2.1 hc) w_912 w_66 w_910 w_911 pd_Model_size rfl ⟨(Nat.le_of_ble_eq_true rfl), (Nat.le_of_ble_eq_true rfl)⟩ ⟨(Nat.le_of_ble_eq_true rfl), (Nat.le_of_ble_eq_true rfl)⟩ rfl (Nat.le_of_ble_eq_true rfl) d_Model_follows_12 (k' := 0) (n' := 0) (stk' := [.int p3.1]) rfl rfl rfl ?_
    refine z_aload_n C 0 d_Model_follows_15 rfl rfl ?_
    refine z_getI C 0 7 rfl in_Model (by decide) w_748 rfl d_Model_follows_16 hf (fun v4 hf => ?_)
    refine z_ic_gt (tgt := 48) C d_Model_follows_19 (by decide) hf (fun hf => ?_) (fun hf => ?_)
    · refine z_iconst C (v := (0 : Int32)) d_Model_follows_48 (by decide) ?_
      exact z_zret C E (Nat.le_of_ble_eq_true rfl) (Nat.le_of_ble_eq_true rfl) d_Model_follows_49 hf
    · refine z_iload_n C 2 d_Model_follows_22 rfl rfl ?_
      refine z_bipush C (v := (49 : Int32)) d_Model_follows_23 (by decide) ?_
      refine z_ic_eq (tgt := 44) C d_Model_follows_25 (by decide) hf (fun hf => ?_) (fun hf => ?_)
      · refine z_sub [] rfl ?_
        exact k_Model_follows_44 N C E  _ hf
      · refine z_iload_n C 1 d_Model_follows_28 rfl rfl ?_
        refine z_iload_n C 2 d_Model_follows_29 rfl rfl ?_
        refine z_bipush C (v := (24 : Int32)) d_Model_follows_30 (by decide) ?_
        refine z_isub C d_Model_follows_32 ?_
        refine z_isub C d_Model_follows_33 ?_
        obtain ⟨p5, hc, hf⟩ := Option.bind_eq_some_iff.mp hf
        refine z_callS C (c_Model_size N C.2.2.1 hc) w_912 w_66 w_910 w_911 pd_Model_size rfl ⟨(Nat.le_of_ble_eq_true rfl), (Nat.le_of_ble_eq_true rfl)⟩ ⟨(Nat.le_of_ble_eq_true rfl), (Nat.le_of_ble_eq_true rfl)⟩ rfl (Nat.le_of_ble_eq_true rfl) d_Model_follows_34 (k' := 0) (n' := 0) (stk' := [.int p5.1]) rfl rfl rfl ?_
        refine z_aload_n C 0 d_Model_follows_37 rfl rfl ?_
        refine z_getI C 0 8 rfl in_Model (by decide) w_749 rfl d_Model_follows_38 hf (fun v6 hf => ?_)
        refine z_ic_gt (tgt := 48) C d_Model_follows_41 (by decide) hf (fun hf => ?_) (fun hf => ?_)
        · refine z_iconst C (v := (0 : Int32)) d_Model_follows_48 (by decide) ?_
          exact z_zret C E (Nat.le_of_ble_eq_true rfl) (Nat.le_of_ble_eq_true rfl) d_Model_follows_49 hf
        · refine z_sub [] rfl ?_
          exact k_Model_follows_44 N C E  _ hf

theorem c_Model_follows (N : Nat) {l : Launch} {D : va_G} {T : List (ClassId × FieldType)} (hT : T.map (fun q => q.2) = ztl) {x0 : Nat} {x1 : Int32} {x2 : Int32} {h : zH} {p : Int32 × zH} (hf : f_Model_follows N x0 x1 x2 h = some p) : zM l y_Model_follows prog_10_method_15_code 3 (some .boolean) rm_Model_follows D T [.ref x0, .int x1, .int x2] h (some (.int p.1)) p.2 :=
  z_enter (by decide) hT (Nat.le_of_ble_eq_true rfl) (fun X el eD eT hin C E => k_Model_follows N C E x0 x1 x2 h hf)
/-! ===== LevelTablesModel.workOut(III)V ===== -/
abbrev y_Model_workOut : MethodName := ⟨R_Model, "workOut", "(III)V"⟩
theorem pd_Model_workOut : y_Model_workOut.cls ≠ "java/lang/invoke/MethodHandle" ∧ y_Model_workOut.cls ≠ "java/lang/invoke/VarHandle" ∧ (parseMethodDescriptor y_Model_workOut.desc).map (fun d => d.parameters.length) = some 3 := ⟨by decide +kernel, by decide +kernel, by decide +kernel⟩
abbrev rm_Model_workOut : Room := { frames := 3, cells := 0, slots := 0, locals := 70 }
def f_Model_workOut_313 (N : Nat) (rc22 : Nat → Int32 → Int32 → Int32 → Int64 → Int32 → Int32 → Int32 → zH → Option (Unit × zH)) (x0 : Nat) (x1 : Int32) (x2 : Int32) (x3 : Int32) (x4 : Int64) (x6 : Int32) (x7 : Int32) (x8 : Int32) (h : zH) : Option (Unit × zH) :=
  rc22 x0 x1 x2 x3 x4 x6 x7 (x8 + (1 : Int32)) h
def f_Model_workOut_263 (N : Nat) (rc22 : Nat → Int32 → Int32 → Int32 → Int64 → Int32 → Int32 → Int32 → zH → Option (Unit × zH)) (x0 : Nat) (x1 : Int32) (x2 : Int32) (x3 : Int32) (x4 : Int64) (x6 : Int32) (x7 : Int32) (x8 : Int32) (x9 : Int32) (x10 : Int32) (s0 : Int64) (h : zH) : Option (Unit × zH) :=
  Option.bind (zgR h x0 0 16) fun (v1 : Nat) =>
  Option.bind (zaI h 0 v1 x10) fun (v2 : Int32) =>
  Option.bind (f_Model_size N x8 h) fun (p3 : Int32 × zH) =>
  (if (lg_cmp s0 (0 : Int64)) < 0 then
    f_Model_workOut_313 N rc22 x0 x1 x2 x3 x4 x6 x7 x8 p3.2
  else
    Option.bind (zck (zis p3.2 x0 0) (f_Model_isLess N x0 s0 (v2 + (x9 * p3.1)) x4 x6 p3.2)) fun (p4 : Int32 × zH) =>
    (if p4.1 = 0 then
      f_Model_workOut_313 N rc22 x0 x1 x2 x3 x4 x6 x7 x8 p4.2
    else
      f_Model_workOut_313 N rc22 x0 x1 x2 x3 s0 (v2 + (x9 * p3.1)) x7 x8 p4.2))
def f_Model_workOut_159 (N : Nat) (rc22 : Nat → Int32 → Int32 → Int32 → Int64 → Int32 → Int32 → Int32 → zH → Option (Unit × zH)) (x0 : Nat) (x1 : Int32) (x2 : Int32) (x3 : Int32) (x4 : Int64) (x6 : Int32) (x7 : Int32) (x8 : Int32) (h : zH) : Option (Unit × zH) :=
  (if x7 < 0 then
    f_Model_workOut_313 N rc22 x0 x1 x2 x3 x4 x6 x7 x8 h
  else
    Option.bind (zck (zis h x0 0) (f_Model_mayUse N x0 x7 x2 x8 h)) fun (p5 : Int32 × zH) =>
    (if p5.1 = 0 then
      f_Model_workOut_313 N rc22 x0 x1 x2 x3 x4 x6 x7 x8 p5.2
    else
      Option.bind (zgR p5.2 x0 0 12) fun (v6 : Nat) =>
      Option.bind (zaI p5.2 0 v6 x7) fun (v7 : Int32) =>
      Option.bind (zgR p5.2 x0 0 12) fun (v8 : Nat) =>
      Option.bind (zaI p5.2 0 v8 x7) fun (v9 : Int32) =>
      Option.bind (f_Model_at N v9 (x2 + ((v7 - x1) * x8)) (x8 + (24 : Int32)) p5.2) fun (p10 : Int32 × zH) =>
      Option.bind (zgR p10.2 x0 0 15) fun (v11 : Nat) =>
      Option.bind (zaJ p10.2 1 v11 p10.1) fun (v12 : Int64) =>
      (if 0 ≤ (lg_cmp v12 (0 : Int64)) then
        Option.bind (zgR p10.2 x0 0 15) fun (v13 : Nat) =>
        Option.bind (zaJ p10.2 1 v13 p10.1) fun (v14 : Int64) =>
        Option.bind (zgR p10.2 x0 0 12) fun (v15 : Nat) =>
        Option.bind (zaI p10.2 0 v15 x7) fun (v16 : Int32) =>
        Option.bind (zck (zis p10.2 x0 0) (f_Model_placeCost N x0 v16 (x2 + ((v7 - x1) * x8)) p10.2)) fun (p17 : Int64 × zH) =>
        Option.bind (zgR p17.2 x0 0 14) fun (v18 : Nat) =>
        Option.bind (zaJ p17.2 1 v18 x7) fun (v19 : Int64) =>
        f_Model_workOut_263 N rc22 x0 x1 x2 x3 x4 x6 x7 x8 (v7 - x1) p10.1 ((v14 + p17.1) + v19) p17.2
      else
        f_Model_workOut_263 N rc22 x0 x1 x2 x3 x4 x6 x7 x8 (v7 - x1) p10.1 (-1 : Int64) p10.2)))
def f_Model_workOut_112 (N : Nat) (rc22 : Nat → Int32 → Int32 → Int32 → Int64 → Int32 → Int32 → Int32 → zH → Option (Unit × zH)) (x0 : Nat) (x1 : Int32) (x2 : Int32) (x3 : Int32) (x4 : Int64) (x6 : Int32) (x7 : Int32) (x8 : Int32) (x9 : Int32) (s0 : Int64) (h : zH) : Option (Unit × zH) :=
  Option.bind (zgR h x0 0 16) fun (v20 : Nat) =>
  Option.bind (zaI h 0 v20 x9) fun (v21 : Int32) =>
  Option.bind (f_Model_size N x8 h) fun (p22 : Int32 × zH) =>
  (if (lg_cmp s0 (0 : Int64)) < 0 then
    f_Model_workOut_159 N rc22 x0 x1 x2 x3 x4 x6 x7 x8 p22.2
  else
    Option.bind (zck (zis p22.2 x0 0) (f_Model_isLess N x0 s0 (v21 + p22.1) x4 x6 p22.2)) fun (p23 : Int32 × zH) =>
    (if p23.1 = 0 then
      f_Model_workOut_159 N rc22 x0 x1 x2 x3 x4 x6 x7 x8 p23.2
    else
      f_Model_workOut_159 N rc22 x0 x1 x2 x3 s0 (v21 + p22.1) x7 x8 p23.2))
def b_Model_workOut_22 (N : Nat) (rc22 : Nat → Int32 → Int32 → Int32 → Int64 → Int32 → Int32 → Int32 → zH → Option (Unit × zH)) (x0 : Nat) (x1 : Int32) (x2 : Int32) (x3 : Int32) (x4 : Int64) (x6 : Int32) (x7 : Int32) (x8 : Int32) (h : zH) : Option (Unit × zH) :=
  Option.bind (zgI h x0 0 7) fun (v24 : Int32) =>
  (if v24 < x8 then
    Option.bind (zgR h x0 0 15) fun (v25 : Nat) =>
    Option.bind (f_Model_at N x1 x2 x3 h) fun (p26 : Int32 × zH) =>
    Option.bind (zsJ p26.2 1 v25 p26.1 x4) fun (h27 : zH) =>
    Option.bind (zgR h27 x0 0 16) fun (v28 : Nat) =>
    Option.bind (f_Model_at N x1 x2 x3 h27) fun (p29 : Int32 × zH) =>
    Option.bind (zsI p29.2 0 v28 p29.1 x6) fun (h30 : zH) =>
    some ((), h30)
  else
    Option.bind (zck (zis h x0 0) (f_Model_follows N x0 x8 x3 h)) fun (p31 : Int32 × zH) =>
    (if p31.1 = 0 then
      f_Model_workOut_313 N rc22 x0 x1 x2 x3 x4 x6 x7 x8 p31.2
    else
      Option.bind (zck (zis p31.2 x0 0) (f_Model_may N x0 (x1 + (1 : Int32)) (x2 + x8) p31.2)) fun (p32 : Int32 × zH) =>
      (if p32.1 = 0 then
        f_Model_workOut_159 N rc22 x0 x1 x2 x3 x4 x6 x7 x8 p32.2
      else
        Option.bind (f_Model_at N (x1 + (1 : Int32)) (x2 + x8) (x8 + (24 : Int32)) p32.2) fun (p33 : Int32 × zH) =>
        Option.bind (zgR p33.2 x0 0 15) fun (v34 : Nat) =>
        Option.bind (zaJ p33.2 1 v34 p33.1) fun (v35 : Int64) =>
        (if 0 ≤ (lg_cmp v35 (0 : Int64)) then
          Option.bind (zgR p33.2 x0 0 15) fun (v36 : Nat) =>
          Option.bind (zaJ p33.2 1 v36 p33.1) fun (v37 : Int64) =>
          Option.bind (zck (zis p33.2 x0 0) (f_Model_placeCost N x0 (x1 + (1 : Int32)) (x2 + x8) p33.2)) fun (p38 : Int64 × zH) =>
          f_Model_workOut_112 N rc22 x0 x1 x2 x3 x4 x6 x7 x8 p33.1 (v37 + p38.1) p38.2
        else
          f_Model_workOut_112 N rc22 x0 x1 x2 x3 x4 x6 x7 x8 p33.1 (-1 : Int64) p33.2))))
def f_Model_workOut_22 (N : Nat) : Nat → Nat → Int32 → Int32 → Int32 → Int64 → Int32 → Int32 → Int32 → zH → Option (Unit × zH)
  | 0 => fun _ _ _ _ _ _ _ _ _ => none
  | n + 1 => fun x0 x1 x2 x3 x4 x6 x7 x8 h => b_Model_workOut_22 N (f_Model_workOut_22 N n) x0 x1 x2 x3 x4 x6 x7 x8 h
def f_Model_workOut (N : Nat) (x0 : Nat) (x1 : Int32) (x2 : Int32) (x3 : Int32) (h : zH) : Option (Unit × zH) :=
  Option.bind (zck (zis h x0 0) (f_Model_spanAt N x0 x1 h)) fun (p39 : Int32 × zH) =>
  Option.bind (zgI p39.2 x0 0 7) fun (v40 : Int32) =>
  f_Model_workOut_22 N N x0 x1 x2 x3 (-1 : Int64) (0 : Int32) p39.1 (-v40) p39.2
theorem d_Model_workOut_0 : decode prog_10_method_21_code 0 = .ok (.ldc2_w (137), 3) := by decide +kernel
theorem d_Model_workOut_3 : decode prog_10_method_21_code 3 = .ok (.lstore (4), 2) := by decide +kernel
theorem d_Model_workOut_5 : decode prog_10_method_21_code 5 = .ok (.iconst (0), 1) := by decide +kernel
theorem d_Model_workOut_6 : decode prog_10_method_21_code 6 = .ok (.istore (6), 2) := by decide +kernel
theorem d_Model_workOut_8 : decode prog_10_method_21_code 8 = .ok (.aload_n (0), 1) := by decide +kernel
theorem d_Model_workOut_9 : decode prog_10_method_21_code 9 = .ok (.iload_n (1), 1) := by decide +kernel
theorem d_Model_workOut_10 : decode prog_10_method_21_code 10 = .ok (.invokevirtual (139), 3) := by decide +kernel
theorem d_Model_workOut_13 : decode prog_10_method_21_code 13 = .ok (.istore (7), 2) := by decide +kernel
theorem d_Model_workOut_15 : decode prog_10_method_21_code 15 = .ok (.aload_n (0), 1) := by decide +kernel
theorem d_Model_workOut_16 : decode prog_10_method_21_code 16 = .ok (.getfield (25), 3) := by decide +kernel
theorem d_Model_workOut_19 : decode prog_10_method_21_code 19 = .ok (.ineg, 1) := by decide +kernel
theorem d_Model_workOut_20 : decode prog_10_method_21_code 20 = .ok (.istore (8), 2) := by decide +kernel
theorem d_Model_workOut_22 : decode prog_10_method_21_code 22 = .ok (.iload (8), 2) := by decide +kernel
theorem d_Model_workOut_24 : decode prog_10_method_21_code 24 = .ok (.aload_n (0), 1) := by decide +kernel
theorem d_Model_workOut_25 : decode prog_10_method_21_code 25 = .ok (.getfield (25), 3) := by decide +kernel
theorem d_Model_workOut_28 : decode prog_10_method_21_code 28 = .ok (.if_icmp .gt (291), 3) := by decide +kernel
theorem d_Model_workOut_31 : decode prog_10_method_21_code 31 = .ok (.aload_n (0), 1) := by decide +kernel
theorem d_Model_workOut_32 : decode prog_10_method_21_code 32 = .ok (.iload (8), 2) := by decide +kernel
theorem d_Model_workOut_34 : decode prog_10_method_21_code 34 = .ok (.iload_n (3), 1) := by decide +kernel
theorem d_Model_workOut_35 : decode prog_10_method_21_code 35 = .ok (.invokevirtual (142), 3) := by decide +kernel
theorem d_Model_workOut_38 : decode prog_10_method_21_code 38 = .ok (.ifCond .ne (6), 3) := by decide +kernel
theorem d_Model_workOut_41 : decode prog_10_method_21_code 41 = .ok (.goto (272), 3) := by decide +kernel
theorem d_Model_workOut_44 : decode prog_10_method_21_code 44 = .ok (.aload_n (0), 1) := by decide +kernel
theorem d_Model_workOut_45 : decode prog_10_method_21_code 45 = .ok (.iload_n (1), 1) := by decide +kernel
theorem d_Model_workOut_46 : decode prog_10_method_21_code 46 = .ok (.iconst (1), 1) := by decide +kernel
theorem d_Model_workOut_47 : decode prog_10_method_21_code 47 = .ok (.iadd, 1) := by decide +kernel
theorem d_Model_workOut_48 : decode prog_10_method_21_code 48 = .ok (.iload_n (2), 1) := by decide +kernel
theorem d_Model_workOut_49 : decode prog_10_method_21_code 49 = .ok (.iload (8), 2) := by decide +kernel
theorem d_Model_workOut_51 : decode prog_10_method_21_code 51 = .ok (.iadd, 1) := by decide +kernel
theorem d_Model_workOut_52 : decode prog_10_method_21_code 52 = .ok (.invokevirtual (133), 3) := by decide +kernel
theorem d_Model_workOut_55 : decode prog_10_method_21_code 55 = .ok (.ifCond .eq (104), 3) := by decide +kernel
theorem d_Model_workOut_58 : decode prog_10_method_21_code 58 = .ok (.iload_n (1), 1) := by decide +kernel
theorem d_Model_workOut_59 : decode prog_10_method_21_code 59 = .ok (.iconst (1), 1) := by decide +kernel
theorem d_Model_workOut_60 : decode prog_10_method_21_code 60 = .ok (.iadd, 1) := by decide +kernel
theorem d_Model_workOut_61 : decode prog_10_method_21_code 61 = .ok (.iload_n (2), 1) := by decide +kernel
theorem d_Model_workOut_62 : decode prog_10_method_21_code 62 = .ok (.iload (8), 2) := by decide +kernel
theorem d_Model_workOut_64 : decode prog_10_method_21_code 64 = .ok (.iadd, 1) := by decide +kernel
theorem d_Model_workOut_65 : decode prog_10_method_21_code 65 = .ok (.iload (8), 2) := by decide +kernel
theorem d_Model_workOut_67 : decode prog_10_method_21_code 67 = .ok (.bipush (24), 2) := by decide +kernel
theorem d_Model_workOut_69 : decode prog_10_method_21_code 69 = .ok (.iadd, 1) := by decide +kernel
theorem d_Model_workOut_70 : decode prog_10_method_21_code 70 = .ok (.invokestatic (145), 3) := by decide +kernel
theorem d_Model_workOut_73 : decode prog_10_method_21_code 73 = .ok (.istore (9), 2) := by decide +kernel
theorem d_Model_workOut_75 : decode prog_10_method_21_code 75 = .ok (.aload_n (0), 1) := by decide +kernel
theorem d_Model_workOut_76 : decode prog_10_method_21_code 76 = .ok (.getfield (45), 3) := by decide +kernel
theorem d_Model_workOut_79 : decode prog_10_method_21_code 79 = .ok (.iload (9), 2) := by decide +kernel
theorem d_Model_workOut_81 : decode prog_10_method_21_code 81 = .ok (.laload, 1) := by decide +kernel
theorem d_Model_workOut_82 : decode prog_10_method_21_code 82 = .ok (.lconst (0), 1) := by decide +kernel
theorem d_Model_workOut_83 : decode prog_10_method_21_code 83 = .ok (.lcmp, 1) := by decide +kernel
theorem d_Model_workOut_84 : decode prog_10_method_21_code 84 = .ok (.ifCond .ge (9), 3) := by decide +kernel
theorem d_Model_workOut_87 : decode prog_10_method_21_code 87 = .ok (.ldc2_w (137), 3) := by decide +kernel
theorem d_Model_workOut_90 : decode prog_10_method_21_code 90 = .ok (.goto (22), 3) := by decide +kernel
theorem d_Model_workOut_93 : decode prog_10_method_21_code 93 = .ok (.aload_n (0), 1) := by decide +kernel
theorem d_Model_workOut_94 : decode prog_10_method_21_code 94 = .ok (.getfield (45), 3) := by decide +kernel
theorem d_Model_workOut_97 : decode prog_10_method_21_code 97 = .ok (.iload (9), 2) := by decide +kernel
theorem d_Model_workOut_99 : decode prog_10_method_21_code 99 = .ok (.laload, 1) := by decide +kernel
theorem d_Model_workOut_100 : decode prog_10_method_21_code 100 = .ok (.aload_n (0), 1) := by decide +kernel
theorem d_Model_workOut_101 : decode prog_10_method_21_code 101 = .ok (.iload_n (1), 1) := by decide +kernel
theorem d_Model_workOut_102 : decode prog_10_method_21_code 102 = .ok (.iconst (1), 1) := by decide +kernel
theorem d_Model_workOut_103 : decode prog_10_method_21_code 103 = .ok (.iadd, 1) := by decide +kernel
theorem d_Model_workOut_104 : decode prog_10_method_21_code 104 = .ok (.iload_n (2), 1) := by decide +kernel
theorem d_Model_workOut_105 : decode prog_10_method_21_code 105 = .ok (.iload (8), 2) := by decide +kernel
theorem d_Model_workOut_107 : decode prog_10_method_21_code 107 = .ok (.iadd, 1) := by decide +kernel
theorem d_Model_workOut_108 : decode prog_10_method_21_code 108 = .ok (.invokevirtual (149), 3) := by decide +kernel
theorem d_Model_workOut_111 : decode prog_10_method_21_code 111 = .ok (.ladd, 1) := by decide +kernel
theorem d_Model_workOut_112 : decode prog_10_method_21_code 112 = .ok (.lstore (10), 2) := by decide +kernel
theorem d_Model_workOut_114 : decode prog_10_method_21_code 114 = .ok (.aload_n (0), 1) := by decide +kernel
theorem d_Model_workOut_115 : decode prog_10_method_21_code 115 = .ok (.getfield (48), 3) := by decide +kernel
theorem d_Model_workOut_118 : decode prog_10_method_21_code 118 = .ok (.iload (9), 2) := by decide +kernel
theorem d_Model_workOut_120 : decode prog_10_method_21_code 120 = .ok (.iaload, 1) := by decide +kernel
theorem d_Model_workOut_121 : decode prog_10_method_21_code 121 = .ok (.iload (8), 2) := by decide +kernel
theorem d_Model_workOut_123 : decode prog_10_method_21_code 123 = .ok (.invokestatic (129), 3) := by decide +kernel
theorem d_Model_workOut_126 : decode prog_10_method_21_code 126 = .ok (.iadd, 1) := by decide +kernel
theorem d_Model_workOut_127 : decode prog_10_method_21_code 127 = .ok (.istore (12), 2) := by decide +kernel
theorem d_Model_workOut_129 : decode prog_10_method_21_code 129 = .ok (.lload (10), 2) := by decide +kernel
theorem d_Model_workOut_131 : decode prog_10_method_21_code 131 = .ok (.lconst (0), 1) := by decide +kernel
theorem d_Model_workOut_132 : decode prog_10_method_21_code 132 = .ok (.lcmp, 1) := by decide +kernel
theorem d_Model_workOut_133 : decode prog_10_method_21_code 133 = .ok (.ifCond .lt (26), 3) := by decide +kernel
theorem d_Model_workOut_136 : decode prog_10_method_21_code 136 = .ok (.aload_n (0), 1) := by decide +kernel
theorem d_Model_workOut_137 : decode prog_10_method_21_code 137 = .ok (.lload (10), 2) := by decide +kernel
theorem d_Model_workOut_139 : decode prog_10_method_21_code 139 = .ok (.iload (12), 2) := by decide +kernel
theorem d_Model_workOut_141 : decode prog_10_method_21_code 141 = .ok (.lload (4), 2) := by decide +kernel
theorem d_Model_workOut_143 : decode prog_10_method_21_code 143 = .ok (.iload (6), 2) := by decide +kernel
theorem d_Model_workOut_145 : decode prog_10_method_21_code 145 = .ok (.invokevirtual (153), 3) := by decide +kernel
theorem d_Model_workOut_148 : decode prog_10_method_21_code 148 = .ok (.ifCond .eq (11), 3) := by decide +kernel
theorem d_Model_workOut_151 : decode prog_10_method_21_code 151 = .ok (.lload (10), 2) := by decide +kernel
theorem d_Model_workOut_153 : decode prog_10_method_21_code 153 = .ok (.lstore (4), 2) := by decide +kernel
theorem d_Model_workOut_155 : decode prog_10_method_21_code 155 = .ok (.iload (12), 2) := by decide +kernel
theorem d_Model_workOut_157 : decode prog_10_method_21_code 157 = .ok (.istore (6), 2) := by decide +kernel
theorem d_Model_workOut_159 : decode prog_10_method_21_code 159 = .ok (.iload (7), 2) := by decide +kernel
theorem d_Model_workOut_161 : decode prog_10_method_21_code 161 = .ok (.ifCond .lt (152), 3) := by decide +kernel
theorem d_Model_workOut_164 : decode prog_10_method_21_code 164 = .ok (.aload_n (0), 1) := by decide +kernel
theorem d_Model_workOut_165 : decode prog_10_method_21_code 165 = .ok (.iload (7), 2) := by decide +kernel
theorem d_Model_workOut_167 : decode prog_10_method_21_code 167 = .ok (.iload_n (2), 1) := by decide +kernel
theorem d_Model_workOut_168 : decode prog_10_method_21_code 168 = .ok (.iload (8), 2) := by decide +kernel
theorem d_Model_workOut_170 : decode prog_10_method_21_code 170 = .ok (.invokevirtual (157), 3) := by decide +kernel
theorem d_Model_workOut_173 : decode prog_10_method_21_code 173 = .ok (.ifCond .eq (140), 3) := by decide +kernel
theorem d_Model_workOut_176 : decode prog_10_method_21_code 176 = .ok (.aload_n (0), 1) := by decide +kernel
theorem d_Model_workOut_177 : decode prog_10_method_21_code 177 = .ok (.getfield (35), 3) := by decide +kernel
theorem d_Model_workOut_180 : decode prog_10_method_21_code 180 = .ok (.iload (7), 2) := by decide +kernel
theorem d_Model_workOut_182 : decode prog_10_method_21_code 182 = .ok (.iaload, 1) := by decide +kernel
theorem d_Model_workOut_183 : decode prog_10_method_21_code 183 = .ok (.iload_n (1), 1) := by decide +kernel
theorem d_Model_workOut_184 : decode prog_10_method_21_code 184 = .ok (.isub, 1) := by decide +kernel
theorem d_Model_workOut_185 : decode prog_10_method_21_code 185 = .ok (.istore (9), 2) := by decide +kernel
theorem d_Model_workOut_187 : decode prog_10_method_21_code 187 = .ok (.aload_n (0), 1) := by decide +kernel
theorem d_Model_workOut_188 : decode prog_10_method_21_code 188 = .ok (.getfield (35), 3) := by decide +kernel
theorem d_Model_workOut_191 : decode prog_10_method_21_code 191 = .ok (.iload (7), 2) := by decide +kernel
theorem d_Model_workOut_193 : decode prog_10_method_21_code 193 = .ok (.iaload, 1) := by decide +kernel
theorem d_Model_workOut_194 : decode prog_10_method_21_code 194 = .ok (.iload_n (2), 1) := by decide +kernel
theorem d_Model_workOut_195 : decode prog_10_method_21_code 195 = .ok (.iload (9), 2) := by decide +kernel
theorem d_Model_workOut_197 : decode prog_10_method_21_code 197 = .ok (.iload (8), 2) := by decide +kernel
theorem d_Model_workOut_199 : decode prog_10_method_21_code 199 = .ok (.imul, 1) := by decide +kernel
theorem d_Model_workOut_200 : decode prog_10_method_21_code 200 = .ok (.iadd, 1) := by decide +kernel
theorem d_Model_workOut_201 : decode prog_10_method_21_code 201 = .ok (.iload (8), 2) := by decide +kernel
theorem d_Model_workOut_203 : decode prog_10_method_21_code 203 = .ok (.bipush (24), 2) := by decide +kernel
theorem d_Model_workOut_205 : decode prog_10_method_21_code 205 = .ok (.iadd, 1) := by decide +kernel
theorem d_Model_workOut_206 : decode prog_10_method_21_code 206 = .ok (.invokestatic (145), 3) := by decide +kernel
theorem d_Model_workOut_209 : decode prog_10_method_21_code 209 = .ok (.istore (10), 2) := by decide +kernel
theorem d_Model_workOut_211 : decode prog_10_method_21_code 211 = .ok (.aload_n (0), 1) := by decide +kernel
theorem d_Model_workOut_212 : decode prog_10_method_21_code 212 = .ok (.getfield (45), 3) := by decide +kernel
theorem d_Model_workOut_215 : decode prog_10_method_21_code 215 = .ok (.iload (10), 2) := by decide +kernel
theorem d_Model_workOut_217 : decode prog_10_method_21_code 217 = .ok (.laload, 1) := by decide +kernel
theorem d_Model_workOut_218 : decode prog_10_method_21_code 218 = .ok (.lconst (0), 1) := by decide +kernel
theorem d_Model_workOut_219 : decode prog_10_method_21_code 219 = .ok (.lcmp, 1) := by decide +kernel
theorem d_Model_workOut_220 : decode prog_10_method_21_code 220 = .ok (.ifCond .ge (9), 3) := by decide +kernel
theorem d_Model_workOut_223 : decode prog_10_method_21_code 223 = .ok (.ldc2_w (137), 3) := by decide +kernel
theorem d_Model_workOut_226 : decode prog_10_method_21_code 226 = .ok (.goto (37), 3) := by decide +kernel
theorem d_Model_workOut_229 : decode prog_10_method_21_code 229 = .ok (.aload_n (0), 1) := by decide +kernel
theorem d_Model_workOut_230 : decode prog_10_method_21_code 230 = .ok (.getfield (45), 3) := by decide +kernel
theorem d_Model_workOut_233 : decode prog_10_method_21_code 233 = .ok (.iload (10), 2) := by decide +kernel
theorem d_Model_workOut_235 : decode prog_10_method_21_code 235 = .ok (.laload, 1) := by decide +kernel
theorem d_Model_workOut_236 : decode prog_10_method_21_code 236 = .ok (.aload_n (0), 1) := by decide +kernel
theorem d_Model_workOut_237 : decode prog_10_method_21_code 237 = .ok (.aload_n (0), 1) := by decide +kernel
theorem d_Model_workOut_238 : decode prog_10_method_21_code 238 = .ok (.getfield (35), 3) := by decide +kernel
theorem d_Model_workOut_241 : decode prog_10_method_21_code 241 = .ok (.iload (7), 2) := by decide +kernel
theorem d_Model_workOut_243 : decode prog_10_method_21_code 243 = .ok (.iaload, 1) := by decide +kernel
theorem d_Model_workOut_244 : decode prog_10_method_21_code 244 = .ok (.iload_n (2), 1) := by decide +kernel
theorem d_Model_workOut_245 : decode prog_10_method_21_code 245 = .ok (.iload (9), 2) := by decide +kernel
theorem d_Model_workOut_247 : decode prog_10_method_21_code 247 = .ok (.iload (8), 2) := by decide +kernel
theorem d_Model_workOut_249 : decode prog_10_method_21_code 249 = .ok (.imul, 1) := by decide +kernel
theorem d_Model_workOut_250 : decode prog_10_method_21_code 250 = .ok (.iadd, 1) := by decide +kernel
theorem d_Model_workOut_251 : decode prog_10_method_21_code 251 = .ok (.invokevirtual (149), 3) := by decide +kernel
theorem d_Model_workOut_254 : decode prog_10_method_21_code 254 = .ok (.ladd, 1) := by decide +kernel
theorem d_Model_workOut_255 : decode prog_10_method_21_code 255 = .ok (.aload_n (0), 1) := by decide +kernel
theorem d_Model_workOut_256 : decode prog_10_method_21_code 256 = .ok (.getfield (41), 3) := by decide +kernel
theorem d_Model_workOut_259 : decode prog_10_method_21_code 259 = .ok (.iload (7), 2) := by decide +kernel
theorem d_Model_workOut_261 : decode prog_10_method_21_code 261 = .ok (.laload, 1) := by decide +kernel
theorem d_Model_workOut_262 : decode prog_10_method_21_code 262 = .ok (.ladd, 1) := by decide +kernel
theorem d_Model_workOut_263 : decode prog_10_method_21_code 263 = .ok (.lstore (11), 2) := by decide +kernel
theorem d_Model_workOut_265 : decode prog_10_method_21_code 265 = .ok (.aload_n (0), 1) := by decide +kernel
theorem d_Model_workOut_266 : decode prog_10_method_21_code 266 = .ok (.getfield (48), 3) := by decide +kernel
theorem d_Model_workOut_269 : decode prog_10_method_21_code 269 = .ok (.iload (10), 2) := by decide +kernel
theorem d_Model_workOut_271 : decode prog_10_method_21_code 271 = .ok (.iaload, 1) := by decide +kernel
theorem d_Model_workOut_272 : decode prog_10_method_21_code 272 = .ok (.iload (9), 2) := by decide +kernel
theorem d_Model_workOut_274 : decode prog_10_method_21_code 274 = .ok (.iload (8), 2) := by decide +kernel
theorem d_Model_workOut_276 : decode prog_10_method_21_code 276 = .ok (.invokestatic (129), 3) := by decide +kernel
theorem d_Model_workOut_279 : decode prog_10_method_21_code 279 = .ok (.imul, 1) := by decide +kernel
theorem d_Model_workOut_280 : decode prog_10_method_21_code 280 = .ok (.iadd, 1) := by decide +kernel
theorem d_Model_workOut_281 : decode prog_10_method_21_code 281 = .ok (.istore (13), 2) := by decide +kernel
theorem d_Model_workOut_283 : decode prog_10_method_21_code 283 = .ok (.lload (11), 2) := by decide +kernel
theorem d_Model_workOut_285 : decode prog_10_method_21_code 285 = .ok (.lconst (0), 1) := by decide +kernel
theorem d_Model_workOut_286 : decode prog_10_method_21_code 286 = .ok (.lcmp, 1) := by decide +kernel
theorem d_Model_workOut_287 : decode prog_10_method_21_code 287 = .ok (.ifCond .lt (26), 3) := by decide +kernel
theorem d_Model_workOut_290 : decode prog_10_method_21_code 290 = .ok (.aload_n (0), 1) := by decide +kernel
theorem d_Model_workOut_291 : decode prog_10_method_21_code 291 = .ok (.lload (11), 2) := by decide +kernel
theorem d_Model_workOut_293 : decode prog_10_method_21_code 293 = .ok (.iload (13), 2) := by decide +kernel
theorem d_Model_workOut_295 : decode prog_10_method_21_code 295 = .ok (.lload (4), 2) := by decide +kernel
theorem d_Model_workOut_297 : decode prog_10_method_21_code 297 = .ok (.iload (6), 2) := by decide +kernel
theorem d_Model_workOut_299 : decode prog_10_method_21_code 299 = .ok (.invokevirtual (153), 3) := by decide +kernel
theorem d_Model_workOut_302 : decode prog_10_method_21_code 302 = .ok (.ifCond .eq (11), 3) := by decide +kernel
theorem d_Model_workOut_305 : decode prog_10_method_21_code 305 = .ok (.lload (11), 2) := by decide +kernel
theorem d_Model_workOut_307 : decode prog_10_method_21_code 307 = .ok (.lstore (4), 2) := by decide +kernel
theorem d_Model_workOut_309 : decode prog_10_method_21_code 309 = .ok (.iload (13), 2) := by decide +kernel
theorem d_Model_workOut_311 : decode prog_10_method_21_code 311 = .ok (.istore (6), 2) := by decide +kernel
theorem d_Model_workOut_313 : decode prog_10_method_21_code 313 = .ok (.iinc (8) (1), 3) := by decide +kernel
theorem d_Model_workOut_316 : decode prog_10_method_21_code 316 = .ok (.goto (-294), 3) := by decide +kernel
theorem d_Model_workOut_319 : decode prog_10_method_21_code 319 = .ok (.aload_n (0), 1) := by decide +kernel
theorem d_Model_workOut_320 : decode prog_10_method_21_code 320 = .ok (.getfield (45), 3) := by decide +kernel
theorem d_Model_workOut_323 : decode prog_10_method_21_code 323 = .ok (.iload_n (1), 1) := by decide +kernel
theorem d_Model_workOut_324 : decode prog_10_method_21_code 324 = .ok (.iload_n (2), 1) := by decide +kernel
theorem d_Model_workOut_325 : decode prog_10_method_21_code 325 = .ok (.iload_n (3), 1) := by decide +kernel
theorem d_Model_workOut_326 : decode prog_10_method_21_code 326 = .ok (.invokestatic (145), 3) := by decide +kernel
theorem d_Model_workOut_329 : decode prog_10_method_21_code 329 = .ok (.lload (4), 2) := by decide +kernel
theorem d_Model_workOut_331 : decode prog_10_method_21_code 331 = .ok (.lastore, 1) := by decide +kernel
theorem d_Model_workOut_332 : decode prog_10_method_21_code 332 = .ok (.aload_n (0), 1) := by decide +kernel
theorem d_Model_workOut_333 : decode prog_10_method_21_code 333 = .ok (.getfield (48), 3) := by decide +kernel
theorem d_Model_workOut_336 : decode prog_10_method_21_code 336 = .ok (.iload_n (1), 1) := by decide +kernel
theorem d_Model_workOut_337 : decode prog_10_method_21_code 337 = .ok (.iload_n (2), 1) := by decide +kernel
theorem d_Model_workOut_338 : decode prog_10_method_21_code 338 = .ok (.iload_n (3), 1) := by decide +kernel
theorem d_Model_workOut_339 : decode prog_10_method_21_code 339 = .ok (.invokestatic (145), 3) := by decide +kernel
theorem d_Model_workOut_342 : decode prog_10_method_21_code 342 = .ok (.iload (6), 2) := by decide +kernel
theorem d_Model_workOut_344 : decode prog_10_method_21_code 344 = .ok (.iastore, 1) := by decide +kernel
theorem d_Model_workOut_345 : decode prog_10_method_21_code 345 = .ok (.return_, 1) := by decide +kernel
set_option maxHeartbeats 4000000 in
set_option maxRecDepth 100000 in
theorem k_Model_workOut_313 (N : Nat) {X : zX} (C : zB X prog_10_method_21_code 14 R_Model rm_Model_workOut) {h0 : zH} {p : Unit × zH} (E : zR X none rm_Model_workOut h0 none p.2) {rc22 : Nat → Int32 → Int32 → Int32 → Int64 → Int32 → Int32 → Int32 → zH → Option (Unit × zH)} (H22 : ∀ (x0 : Nat) (x1 : Int32) (x2 : Int32) (x3 : Int32) (x4 : Int64) (x6 : Int32) (x7 : Int32) (x8 : Int32) (h : zH), rc22 x0 x1 x2 x3 x4 x6 x7 x8 h = some p → Zt X 14 0 0 22 [(0, .ref x0), (1, .int x1), (2, .int x2), (3, .int x3), (4, .long x4), (6, .int x6), (7, .int x7), (8, .int x8)] [] h) : ∀ (x0 : Nat) (x1 : Int32) (x2 : Int32) (x3 : Int32) (x4 : Int64) (x6 : Int32) (x7 : Int32) (x8 : Int32) (h : zH), f_Model_workOut_313 N rc22 x0 x1 x2 x3 x4 x6 x7 x8 h = some p → Zt X 14 0 0 313 [(0, .ref x0), (1, .int x1), (2, .int x2), (3, .int x3), (4, .long x4), (6, .int x6), (7, .int x7), (8, .int x8)] [] h := by
  intro x0 x1 x2 x3 x4 x6 x7 x8 h hf
  unfold f_Model_workOut_313 at hf
  refine z_iinc C (v := (x8 + (1 : Int32))) (lv' := [(8, .int (x8 + (1 : Int32))), (0, .ref x0), (1, .int x1), (2, .int x2), (3, .int x3), (4, .long x4), (6, .int x6), (7, .int x7)]) 7 d_Model_workOut_313 rfl (by rfl) (by decide) rfl ?_
  refine z_goto (tgt := 22) C d_Model_workOut_316 (by decide) ?_
  refine z_sub [1, 2, 3, 4, 5, 6, 7, 0] rfl ?_
  exact H22 _ _ _ _ _ _ _ _ _ hf

set_option maxHeartbeats 4000000 in
set_option maxRecDepth 100000 in
theorem k_Model_workOut_263 (N : Nat) {X : zX} (C : zB X prog_10_method_21_code 14 R_Model rm_Model_workOut) {h0 : zH} {p : Unit × zH} (E : zR X none rm_Model_workOut h0 none p.2) {rc22 : Nat → Int32 → Int32 → Int32 → Int64 → Int32 → Int32 → Int32 → zH → Option (Unit × zH)} (H22 : ∀ (x0 : Nat) (x1 : Int32) (x2 : Int32) (x3 : Int32) (x4 : Int64) (x6 : Int32) (x7 : Int32) (x8 : Int32) (h : zH), rc22 x0 x1 x2 x3 x4 x6 x7 x8 h = some p → Zt X 14 0 0 22 [(0, .ref x0), (1, .int x1), (2, .int x2), (3, .int x3), (4, .long x4), (6, .int x6), (7, .int x7), (8, .int x8)] [] h) : ∀ (x0 : Nat) (x1 : Int32) (x2 : Int32) (x3 : Int32) (x4 : Int64) (x6 : Int32) (x7 : Int32) (x8 : Int32) (x9 : Int32) (x10 : Int32) (s0 : Int64) (h : zH), f_Model_workOut_263 N rc22 x0 x1 x2 x3 x4 x6 x7 x8 x9 x10 s0 h = some p → Zt X 14 0 0 263 [(0, .ref x0), (1, .int x1), (2, .int x2), (3, .int x3), (4, .long x4), (6, .int x6), (7, .int x7), (8, .int x8), (9, .int x9), (10, .int x10)] [.long s0] h := by
  intro x0 x1 x2 x3 x4 x6 x7 x8 x9 x10 s0 h hf
  unfold f_Model_workOut_263 at hf
  refine z_lstore C (lv' := [(11, .long s0), (0, .ref x0), (1, .int x1), (2, .int x2), (3, .int x3), (4, .long x4), (6, .int x6), (7, .int x7), (8, .int x8), (9, .int x9), (10, .int x10)]) d_Model_workOut_263 (by decide) rfl ?_
  refine z_aload_n C 1 d_Model_workOut_265 rfl rfl ?_
  refine z_getR C 0 16 rfl in_Model (by decide) w_757 rfl d_Model_workOut_266 hf (fun v1 hf => ?_)
  refine z_iload C 10 d_Model_workOut_269 rfl ?_
  refine z_iald C d_Model_workOut_271 hf (fun v2 hf => ?_)
  refine z_iload C 9 d_Model_workOut_272 rfl ?_
  refine z_iload C 8 d_Model_workOut_274 rfl ?_
  obtain ⟨p3, hc, hf⟩ := Option.bind_eq_some_iff.mp hf
  refine z_callS C (c_Model_size N C.2.2.1 hc) w_912 w_66 w_910 w_911 pd_Model_size rfl ⟨(Nat.le_of_ble_eq_true rfl), (Nat.le_of_ble_eq_true rfl)⟩ ⟨(Nat.le_of_ble_eq_true rfl), (Nat.le_of_ble_eq_true rfl)⟩ rfl (Nat.le_of_ble_eq_true rfl) d_Model_workOut_276 (k' := 0) (n' := 0) (stk' := [.int p3.1, .int x9, .int v2]) rfl rfl rfl ?_
  refine z_imul C d_Model_workOut_279 ?_
  refine z_iadd C d_Model_workOut_280 ?_
  refine z_istore C (lv' := [(13, .int (v2 + (x9 * p3.1))), (11, .long s0), (0, .ref x0), (1, .int x1), (2, .int x2), (3, .int x3), (4, .long x4), (6, .int x6), (7, .int x7), (8, .int x8), (9, .int x9), (10, .int x10)]) d_Model_workOut_281 (by decide) rfl ?_
  refine z_lload C 1 d_Model_workOut_283 rfl ?_
  refine z_lconst C (v := (0 : Int64)) d_Model_workOut_285 (by decide) ?_
  refine z_lcmp C d_Model_workOut_286 ?_
  refine z_if_lt (tgt := 313) C d_Model_workOut_287 (by decide) hf (fun hf => ?_) (fun hf => ?_)
  · refine z_sub [2, 3, 4, 5, 6, 7, 8, 9] rfl ?_
    exact k_Model_workOut_313 N C E H22 _ _ _ _ _ _ _ _ _ hf
  · refine z_aload_n C 2 d_Model_workOut_290 rfl rfl ?_
    refine z_lload C 1 d_Model_workOut_291 rfl ?_
    refine z_iload C 0 d_Model_workOut_293 rfl ?_
    refine z_lload C 6 d_Model_workOut_295 rfl ?_
    refine z_iload C 7 d_Model_workOut_297 rfl ?_
    obtain ⟨p4, hc, hf⟩ := Option.bind_eq_some_iff.mp hf
    obtain ⟨hz, hc⟩ := zck_some hc
    refine z_callV C (ci := 0) (c_Model_isLess N C.2.2.1 hc) rfl hz w_936 w_66 w_933 w_935 w_43 pd_Model_isLess rfl ⟨(Nat.le_of_ble_eq_true rfl), (Nat.le_of_ble_eq_true rfl)⟩ ⟨(Nat.le_of_ble_eq_true rfl), (Nat.le_of_ble_eq_true rfl)⟩ rfl (Nat.le_of_ble_eq_true rfl) d_Model_workOut_299 (k' := 0) (n' := 0) (stk' := [.int p4.1]) rfl rfl rfl ?_
    refine z_if_eq (tgt := 313) C d_Model_workOut_302 (by decide) hf (fun hf => ?_) (fun hf => ?_)
    · refine z_sub [2, 3, 4, 5, 6, 7, 8, 9] rfl ?_
      exact k_Model_workOut_313 N C E H22 _ _ _ _ _ _ _ _ _ hf
    · refine z_lload C 1 d_Model_workOut_305 rfl ?_
      refine z_lstore C (lv' := [(4, .long s0), (13, .int (v2 + (x9 * p3.1))), (11, .long s0), (0, .ref x0), (1, .int x1), (2, .int x2), (3, .int x3), (6, .int x6), (7, .int x7), (8, .int x8), (9, .int x9), (10, .int x10)]) d_Model_workOut_307 (by decide) rfl ?_
      refine z_iload C 1 d_Model_workOut_309 rfl ?_
      refine z_istore C (lv' := [(6, .int (v2 + (x9 * p3.1))), (4, .long s0), (13, .int (v2 + (x9 * p3.1))), (11, .long s0), (0, .ref x0), (1, .int x1), (2, .int x2), (3, .int x3), (7, .int x7), (8, .int x8), (9, .int x9), (10, .int x10)]) d_Model_workOut_311 (by decide) rfl ?_
      refine z_sub [4, 5, 6, 7, 1, 0, 8, 9] rfl ?_
      exact k_Model_workOut_313 N C E H22 _ _ _ _ _ _ _ _ _ hf

set_option maxHeartbeats 4000000 in
set_option maxRecDepth 100000 in
theorem k_Model_workOut_159 (N : Nat) {X : zX} (C : zB X prog_10_method_21_code 14 R_Model rm_Model_workOut) {h0 : zH} {p : Unit × zH} (E : zR X none rm_Model_workOut h0 none p.2) {rc22 : Nat → Int32 → Int32 → Int32 → Int64 → Int32 → Int32 → Int32 → zH → Option (Unit × zH)} (H22 : ∀ (x0 : Nat) (x1 : Int32) (x2 : Int32) (x3 : Int32) (x4 : Int64) (x6 : Int32) (x7 : Int32) (x8 : Int32) (h : zH), rc22 x0 x1 x2 x3 x4 x6 x7 x8 h = some p → Zt X 14 0 0 22 [(0, .ref x0), (1, .int x1), (2, .int x2), (3, .int x3), (4, .long x4), (6, .int x6), (7, .int x7), (8, .int x8)] [] h) : ∀ (x0 : Nat) (x1 : Int32) (x2 : Int32) (x3 : Int32) (x4 : Int64) (x6 : Int32) (x7 : Int32) (x8 : Int32) (h : zH), f_Model_workOut_159 N rc22 x0 x1 x2 x3 x4 x6 x7 x8 h = some p → Zt X 14 0 0 159 [(0, .ref x0), (1, .int x1), (2, .int x2), (3, .int x3), (4, .long x4), (6, .int x6), (7, .int x7), (8, .int x8)] [] h := by
  intro x0 x1 x2 x3 x4 x6 x7 x8 h hf
  unfold f_Model_workOut_159 at hf
  refine z_iload C 6 d_Model_workOut_159 rfl ?_
  refine z_if_lt (tgt := 313) C d_Model_workOut_161 (by decide) hf (fun hf => ?_) (fun hf => ?_)
  · refine z_sub [0, 1, 2, 3, 4, 5, 6, 7] rfl ?_
    exact k_Model_workOut_313 N C E H22 _ _ _ _ _ _ _ _ _ hf
  · refine z_aload_n C 0 d_Model_workOut_164 rfl rfl ?_
    refine z_iload C 6 d_Model_workOut_165 rfl ?_
    refine z_iload_n C 2 d_Model_workOut_167 rfl rfl ?_
    refine z_iload C 7 d_Model_workOut_168 rfl ?_
    obtain ⟨p5, hc, hf⟩ := Option.bind_eq_some_iff.mp hf
    obtain ⟨hz, hc⟩ := zck_some hc
    refine z_callV C (ci := 0) (c_Model_mayUse N C.2.2.1 hc) rfl hz w_940 w_66 w_937 w_939 w_44 pd_Model_mayUse rfl ⟨(Nat.le_of_ble_eq_true rfl), (Nat.le_of_ble_eq_true rfl)⟩ ⟨(Nat.le_of_ble_eq_true rfl), (Nat.le_of_ble_eq_true rfl)⟩ rfl (Nat.le_of_ble_eq_true rfl) d_Model_workOut_170 (k' := 0) (n' := 0) (stk' := [.int p5.1]) rfl rfl rfl ?_
    refine z_if_eq (tgt := 313) C d_Model_workOut_173 (by decide) hf (fun hf => ?_) (fun hf => ?_)
    · refine z_sub [0, 1, 2, 3, 4, 5, 6, 7] rfl ?_
      exact k_Model_workOut_313 N C E H22 _ _ _ _ _ _ _ _ _ hf
    · refine z_aload_n C 0 d_Model_workOut_176 rfl rfl ?_
      refine z_getR C 0 12 rfl in_Model (by decide) w_753 rfl d_Model_workOut_177 hf (fun v6 hf => ?_)
      refine z_iload C 6 d_Model_workOut_180 rfl ?_
      refine z_iald C d_Model_workOut_182 hf (fun v7 hf => ?_)
      refine z_iload_n C 1 d_Model_workOut_183 rfl rfl ?_
      refine z_isub C d_Model_workOut_184 ?_
      refine z_istore C (lv' := [(9, .int (v7 - x1)), (0, .ref x0), (1, .int x1), (2, .int x2), (3, .int x3), (4, .long x4), (6, .int x6), (7, .int x7), (8, .int x8)]) d_Model_workOut_185 (by decide) rfl ?_
      refine z_aload_n C 1 d_Model_workOut_187 rfl rfl ?_
      refine z_getR C 0 12 rfl in_Model (by decide) w_753 rfl d_Model_workOut_188 hf (fun v8 hf => ?_)
      refine z_iload C 7 d_Model_workOut_191 rfl ?_
      refine z_iald C d_Model_workOut_193 hf (fun v9 hf => ?_)
      refine z_iload_n C 3 d_Model_workOut_194 rfl rfl ?_
      refine z_iload C 0 d_Model_workOut_195 rfl ?_
      refine z_iload C 8 d_Model_workOut_197 rfl ?_
      refine z_imul C d_Model_workOut_199 ?_
      refine z_iadd C d_Model_workOut_200 ?_
      refine z_iload C 8 d_Model_workOut_201 rfl ?_
      refine z_bipush C (v := (24 : Int32)) d_Model_workOut_203 (by decide) ?_
      refine z_iadd C d_Model_workOut_205 ?_
      obtain ⟨p10, hc, hf⟩ := Option.bind_eq_some_iff.mp hf
      refine z_callS C (c_Model_at N C.2.2.1 hc) w_919 w_66 w_917 w_918 pd_Model_at rfl ⟨(Nat.le_of_ble_eq_true rfl), (Nat.le_of_ble_eq_true rfl)⟩ ⟨(Nat.le_of_ble_eq_true rfl), (Nat.le_of_ble_eq_true rfl)⟩ rfl (Nat.le_of_ble_eq_true rfl) d_Model_workOut_206 (k' := 0) (n' := 0) (stk' := [.int p10.1]) rfl rfl rfl ?_
      refine z_istore C (lv' := [(10, .int p10.1), (9, .int (v7 - x1)), (0, .ref x0), (1, .int x1), (2, .int x2), (3, .int x3), (4, .long x4), (6, .int x6), (7, .int x7), (8, .int x8)]) d_Model_workOut_209 (by decide) rfl ?_
      refine z_aload_n C 2 d_Model_workOut_211 rfl rfl ?_
      refine z_getR C 0 15 rfl in_Model (by decide) w_756 rfl d_Model_workOut_212 hf (fun v11 hf => ?_)
      refine z_iload C 0 d_Model_workOut_215 rfl ?_
      refine z_lald C d_Model_workOut_217 hf (fun v12 hf => ?_)
      refine z_lconst C (v := (0 : Int64)) d_Model_workOut_218 (by decide) ?_
      refine z_lcmp C d_Model_workOut_219 ?_
      refine z_if_ge (tgt := 229) C d_Model_workOut_220 (by decide) hf (fun hf => ?_) (fun hf => ?_)
      · refine z_aload_n C 2 d_Model_workOut_229 rfl rfl ?_
        refine z_getR C 0 15 rfl in_Model (by decide) w_756 rfl d_Model_workOut_230 hf (fun v13 hf => ?_)
        refine z_iload C 0 d_Model_workOut_233 rfl ?_
        refine z_lald C d_Model_workOut_235 hf (fun v14 hf => ?_)
        refine z_aload_n C 2 d_Model_workOut_236 rfl rfl ?_
        refine z_aload_n C 2 d_Model_workOut_237 rfl rfl ?_
        refine z_getR C 0 12 rfl in_Model (by decide) w_753 rfl d_Model_workOut_238 hf (fun v15 hf => ?_)
        refine z_iload C 8 d_Model_workOut_241 rfl ?_
        refine z_iald C d_Model_workOut_243 hf (fun v16 hf => ?_)
        refine z_iload_n C 4 d_Model_workOut_244 rfl rfl ?_
        refine z_iload C 1 d_Model_workOut_245 rfl ?_
        refine z_iload C 9 d_Model_workOut_247 rfl ?_
        refine z_imul C d_Model_workOut_249 ?_
        refine z_iadd C d_Model_workOut_250 ?_
        obtain ⟨p17, hc, hf⟩ := Option.bind_eq_some_iff.mp hf
        obtain ⟨hz, hc⟩ := zck_some hc
        refine z_callV C (ci := 0) (c_Model_placeCost N C.2.2.1 hc) rfl hz w_932 w_66 w_929 w_931 w_42 pd_Model_placeCost rfl ⟨(Nat.le_of_ble_eq_true rfl), (Nat.le_of_ble_eq_true rfl)⟩ ⟨(Nat.le_of_ble_eq_true rfl), (Nat.le_of_ble_eq_true rfl)⟩ rfl (Nat.le_of_ble_eq_true rfl) d_Model_workOut_251 (k' := 0) (n' := 0) (stk' := [.long p17.1, .long v14]) rfl rfl rfl ?_
        refine z_ladd C d_Model_workOut_254 ?_
        refine z_aload_n C 2 d_Model_workOut_255 rfl rfl ?_
        refine z_getR C 0 14 rfl in_Model (by decide) w_755 rfl d_Model_workOut_256 hf (fun v18 hf => ?_)
        refine z_iload C 8 d_Model_workOut_259 rfl ?_
        refine z_lald C d_Model_workOut_261 hf (fun v19 hf => ?_)
        refine z_ladd C d_Model_workOut_262 ?_
        refine z_sub [2, 3, 4, 5, 6, 7, 8, 9, 1, 0] rfl ?_
        exact k_Model_workOut_263 N C E H22 _ _ _ _ _ _ _ _ _ _ _ _ hf
      · refine z_ldc2 C d_Model_workOut_223 w_924 ?_
        refine z_goto (tgt := 263) C d_Model_workOut_226 (by decide) ?_
        refine z_sub [2, 3, 4, 5, 6, 7, 8, 9, 1, 0] rfl ?_
        exact k_Model_workOut_263 N C E H22 _ _ _ _ _ _ _ _ _ _ _ _ hf

set_option maxHeartbeats 4000000 in
set_option maxRecDepth 100000 in
theorem k_Model_workOut_112 (N : Nat) {X : zX} (C : zB X prog_10_method_21_code 14 R_Model rm_Model_workOut) {h0 : zH} {p : Unit × zH} (E : zR X none rm_Model_workOut h0 none p.2) {rc22 : Nat → Int32 → Int32 → Int32 → Int64 → Int32 → Int32 → Int32 → zH → Option (Unit × zH)} (H22 : ∀ (x0 : Nat) (x1 : Int32) (x2 : Int32) (x3 : Int32) (x4 : Int64) (x6 : Int32) (x7 : Int32) (x8 : Int32) (h : zH), rc22 x0 x1 x2 x3 x4 x6 x7 x8 h = some p → Zt X 14 0 0 22 [(0, .ref x0), (1, .int x1), (2, .int x2), (3, .int x3), (4, .long x4), (6, .int x6), (7, .int x7), (8, .int x8)] [] h) : ∀ (x0 : Nat) (x1 : Int32) (x2 : Int32) (x3 : Int32) (x4 : Int64) (x6 : Int32) (x7 : Int32) (x8 : Int32) (x9 : Int32) (s0 : Int64) (h : zH), f_Model_workOut_112 N rc22 x0 x1 x2 x3 x4 x6 x7 x8 x9 s0 h = some p → Zt X 14 0 0 112 [(0, .ref x0), (1, .int x1), (2, .int x2), (3, .int x3), (4, .long x4), (6, .int x6), (7, .int x7), (8, .int x8), (9, .int x9)] [.long s0] h := by
  intro x0 x1 x2 x3 x4 x6 x7 x8 x9 s0 h hf
  unfold f_Model_workOut_112 at hf
  refine z_lstore C (lv' := [(10, .long s0), (0, .ref x0), (1, .int x1), (2, .int x2), (3, .int x3), (4, .long x4), (6, .int x6), (7, .int x7), (8, .int x8), (9, .int x9)]) d_Model_workOut_112 (by decide) rfl ?_
  refine z_aload_n C 1 d_Model_workOut_114 rfl rfl ?_
  refine z_getR C 0 16 rfl in_Model (by decide) w_757 rfl d_Model_workOut_115 hf (fun v20 hf => ?_)
  refine z_iload C 9 d_Model_workOut_118 rfl ?_
  refine z_iald C d_Model_workOut_120 hf (fun v21 hf => ?_)
  refine z_iload C 8 d_Model_workOut_121 rfl ?_
  obtain ⟨p22, hc, hf⟩ := Option.bind_eq_some_iff.mp hf
  refine z_callS C (c_Model_size N C.2.2.1 hc) w_912 w_66 w_910 w_911 pd_Model_size rfl ⟨(Nat.le_of_ble_eq_true rfl), (Nat.le_of_ble_eq_true rfl)⟩ ⟨(Nat.le_of_ble_eq_true rfl), (Nat.le_of_ble_eq_true rfl)⟩ rfl (Nat.le_of_ble_eq_true rfl) d_Model_workOut_123 (k' := 0) (n' := 0) (stk' := [.int p22.1, .int v21]) rfl rfl rfl ?_
  refine z_iadd C d_Model_workOut_126 ?_
  refine z_istore C (lv' := [(12, .int (v21 + p22.1)), (10, .long s0), (0, .ref x0), (1, .int x1), (2, .int x2), (3, .int x3), (4, .long x4), (6, .int x6), (7, .int x7), (8, .int x8), (9, .int x9)]) d_Model_workOut_127 (by decide) rfl ?_
  refine z_lload C 1 d_Model_workOut_129 rfl ?_
  refine z_lconst C (v := (0 : Int64)) d_Model_workOut_131 (by decide) ?_
  refine z_lcmp C d_Model_workOut_132 ?_
  refine z_if_lt (tgt := 159) C d_Model_workOut_133 (by decide) hf (fun hf => ?_) (fun hf => ?_)
  · refine z_sub [2, 3, 4, 5, 6, 7, 8, 9] rfl ?_
    exact k_Model_workOut_159 N C E H22 _ _ _ _ _ _ _ _ _ hf
  · refine z_aload_n C 2 d_Model_workOut_136 rfl rfl ?_
    refine z_lload C 1 d_Model_workOut_137 rfl ?_
    refine z_iload C 0 d_Model_workOut_139 rfl ?_
    refine z_lload C 6 d_Model_workOut_141 rfl ?_
    refine z_iload C 7 d_Model_workOut_143 rfl ?_
    obtain ⟨p23, hc, hf⟩ := Option.bind_eq_some_iff.mp hf
    obtain ⟨hz, hc⟩ := zck_some hc
    refine z_callV C (ci := 0) (c_Model_isLess N C.2.2.1 hc) rfl hz w_936 w_66 w_933 w_935 w_43 pd_Model_isLess rfl ⟨(Nat.le_of_ble_eq_true rfl), (Nat.le_of_ble_eq_true rfl)⟩ ⟨(Nat.le_of_ble_eq_true rfl), (Nat.le_of_ble_eq_true rfl)⟩ rfl (Nat.le_of_ble_eq_true rfl) d_Model_workOut_145 (k' := 0) (n' := 0) (stk' := [.int p23.1]) rfl rfl rfl ?_
    refine z_if_eq (tgt := 159) C d_Model_workOut_148 (by decide) hf (fun hf => ?_) (fun hf => ?_)
    · refine z_sub [2, 3, 4, 5, 6, 7, 8, 9] rfl ?_
      exact k_Model_workOut_159 N C E H22 _ _ _ _ _ _ _ _ _ hf
    · refine z_lload C 1 d_Model_workOut_151 rfl ?_
      refine z_lstore C (lv' := [(4, .long s0), (12, .int (v21 + p22.1)), (10, .long s0), (0, .ref x0), (1, .int x1), (2, .int x2), (3, .int x3), (6, .int x6), (7, .int x7), (8, .int x8), (9, .int x9)]) d_Model_workOut_153 (by decide) rfl ?_
      refine z_iload C 1 d_Model_workOut_155 rfl ?_
      refine z_istore C (lv' := [(6, .int (v21 + p22.1)), (4, .long s0), (12, .int (v21 + p22.1)), (10, .long s0), (0, .ref x0), (1, .int x1), (2, .int x2), (3, .int x3), (7, .int x7), (8, .int x8), (9, .int x9)]) d_Model_workOut_157 (by decide) rfl ?_
      refine z_sub [4, 5, 6, 7, 1, 0, 8, 9] rfl ?_
      exact k_Model_workOut_159 N C E H22 _ _ _ _ _ _ _ _ _ hf

set_option maxHeartbeats 4000000 in
set_option maxRecDepth 100000 in
theorem k_Model_workOut_22 (N : Nat) {X : zX} (C : zB X prog_10_method_21_code 14 R_Model rm_Model_workOut) {h0 : zH} {p : Unit × zH} (E : zR X none rm_Model_workOut h0 none p.2) : ∀ n : Nat, ∀ (x0 : Nat) (x1 : Int32) (x2 : Int32) (x3 : Int32) (x4 : Int64) (x6 : Int32) (x7 : Int32) (x8 : Int32) (h : zH), f_Model_workOut_22 N n x0 x1 x2 x3 x4 x6 x7 x8 h = some p → Zt X 14 0 0 22 [(0, .ref x0), (1, .int x1), (2, .int x2), (3, .int x3), (4, .long x4), (6, .int x6), (7, .int x7), (8, .int x8)] [] h := by
  intro n
  induction n with
  | zero => intro x0 x1 x2 x3 x4 x6 x7 x8 h hf; cases hf
  | succ n ih =>
  intro x0 x1 x2 x3 x4 x6 x7 x8 h hf
  have H22 := ih
  replace hf : b_Model_workOut_22 N (f_Model_workOut_22 N n) x0 x1 x2 x3 x4 x6 x7 x8 h = some p := hf
  unfold b_Model_workOut_22 at hf
  refine z_iload C 7 d_Model_workOut_22 rfl ?_
  refine z_aload_n C 0 d_Model_workOut_24 rfl rfl ?_
  refine z_getI C 0 7 rfl in_Model (by decide) w_748 rfl d_Model_workOut_25 hf (fun v24 hf => ?_)
  refine z_ic_gt (tgt := 319) C d_Model_workOut_28 (by decide) hf (fun hf => ?_) (fun hf => ?_)
  · refine z_aload_n C 0 d_Model_workOut_319 rfl rfl ?_
    refine z_getR C 0 15 rfl in_Model (by decide) w_756 rfl d_Model_workOut_320 hf (fun v25 hf => ?_)
    refine z_iload_n C 1 d_Model_workOut_323 rfl rfl ?_
    refine z_iload_n C 2 d_Model_workOut_324 rfl rfl ?_
    refine z_iload_n C 3 d_Model_workOut_325 rfl rfl ?_
    obtain ⟨p26, hc, hf⟩ := Option.bind_eq_some_iff.mp hf
    refine z_callS C (c_Model_at N C.2.2.1 hc) w_919 w_66 w_917 w_918 pd_Model_at rfl ⟨(Nat.le_of_ble_eq_true rfl), (Nat.le_of_ble_eq_true rfl)⟩ ⟨(Nat.le_of_ble_eq_true rfl), (Nat.le_of_ble_eq_true rfl)⟩ rfl (Nat.le_of_ble_eq_true rfl) d_Model_workOut_326 (k' := 0) (n' := 0) (stk' := [.int p26.1, .ref v25]) rfl rfl rfl ?_
    refine z_lload C 4 d_Model_workOut_329 rfl ?_
    refine z_last C d_Model_workOut_331 hf (fun h27 hf => ?_)
    refine z_aload_n C 0 d_Model_workOut_332 rfl rfl ?_
    refine z_getR C 0 16 rfl in_Model (by decide) w_757 rfl d_Model_workOut_333 hf (fun v28 hf => ?_)
    refine z_iload_n C 1 d_Model_workOut_336 rfl rfl ?_
    refine z_iload_n C 2 d_Model_workOut_337 rfl rfl ?_
    refine z_iload_n C 3 d_Model_workOut_338 rfl rfl ?_
    obtain ⟨p29, hc, hf⟩ := Option.bind_eq_some_iff.mp hf
    refine z_callS C (c_Model_at N C.2.2.1 hc) w_919 w_66 w_917 w_918 pd_Model_at rfl ⟨(Nat.le_of_ble_eq_true rfl), (Nat.le_of_ble_eq_true rfl)⟩ ⟨(Nat.le_of_ble_eq_true rfl), (Nat.le_of_ble_eq_true rfl)⟩ rfl (Nat.le_of_ble_eq_true rfl) d_Model_workOut_339 (k' := 0) (n' := 0) (stk' := [.int p29.1, .ref v28]) rfl rfl rfl ?_
    refine z_iload C 5 d_Model_workOut_342 rfl ?_
    refine z_iast C d_Model_workOut_344 hf (fun h30 hf => ?_)
    exact z_vret C E (Nat.le_of_ble_eq_true rfl) (Nat.le_of_ble_eq_true rfl) d_Model_workOut_345 hf
  · refine z_aload_n C 0 d_Model_workOut_31 rfl rfl ?_
    refine z_iload C 7 d_Model_workOut_32 rfl ?_
    refine z_iload_n C 3 d_Model_workOut_34 rfl rfl ?_
    obtain ⟨p31, hc, hf⟩ := Option.bind_eq_some_iff.mp hf
    obtain ⟨hz, hc⟩ := zck_some hc
    refine z_callV C (ci := 0) (c_Model_follows N C.2.2.1 hc) rfl hz w_909 w_66 w_906 w_908 w_38 pd_Model_follows rfl ⟨(Nat.le_of_ble_eq_true rfl), (Nat.le_of_ble_eq_true rfl)⟩ ⟨(Nat.le_of_ble_eq_true rfl), (Nat.le_of_ble_eq_true rfl)⟩ rfl (Nat.le_of_ble_eq_true rfl) d_Model_workOut_35 (k' := 0) (n' := 0) (stk' := [.int p31.1]) rfl rfl rfl ?_
    refine z_if_ne (tgt := 44) C d_Model_workOut_38 (by decide) hf (fun hf => ?_) (fun hf => ?_)
    · refine z_aload_n C 0 d_Model_workOut_44 rfl rfl ?_
      refine z_iload_n C 1 d_Model_workOut_45 rfl rfl ?_
      refine z_iconst C (v := (1 : Int32)) d_Model_workOut_46 (by decide) ?_
      refine z_iadd C d_Model_workOut_47 ?_
      refine z_iload_n C 2 d_Model_workOut_48 rfl rfl ?_
      refine z_iload C 7 d_Model_workOut_49 rfl ?_
      refine z_iadd C d_Model_workOut_51 ?_
      obtain ⟨p32, hc, hf⟩ := Option.bind_eq_some_iff.mp hf
      obtain ⟨hz, hc⟩ := zck_some hc
      refine z_callV C (ci := 0) (c_Model_may N C.2.2.1 hc) rfl hz w_905 w_66 w_902 w_904 w_37 pd_Model_may rfl ⟨(Nat.le_of_ble_eq_true rfl), (Nat.le_of_ble_eq_true rfl)⟩ ⟨(Nat.le_of_ble_eq_true rfl), (Nat.le_of_ble_eq_true rfl)⟩ rfl (Nat.le_of_ble_eq_true rfl) d_Model_workOut_52 (k' := 0) (n' := 0) (stk' := [.int p32.1]) rfl rfl rfl ?_
      refine z_if_eq (tgt := 159) C d_Model_workOut_55 (by decide) hf (fun hf => ?_) (fun hf => ?_)
      · refine z_sub [0, 1, 2, 3, 4, 5, 6, 7] rfl ?_
        exact k_Model_workOut_159 N C E H22 _ _ _ _ _ _ _ _ _ hf
      · refine z_iload_n C 1 d_Model_workOut_58 rfl rfl ?_
        refine z_iconst C (v := (1 : Int32)) d_Model_workOut_59 (by decide) ?_
        refine z_iadd C d_Model_workOut_60 ?_
        refine z_iload_n C 2 d_Model_workOut_61 rfl rfl ?_
        refine z_iload C 7 d_Model_workOut_62 rfl ?_
        refine z_iadd C d_Model_workOut_64 ?_
        refine z_iload C 7 d_Model_workOut_65 rfl ?_
        refine z_bipush C (v := (24 : Int32)) d_Model_workOut_67 (by decide) ?_
        refine z_iadd C d_Model_workOut_69 ?_
        obtain ⟨p33, hc, hf⟩ := Option.bind_eq_some_iff.mp hf
        refine z_callS C (c_Model_at N C.2.2.1 hc) w_919 w_66 w_917 w_918 pd_Model_at rfl ⟨(Nat.le_of_ble_eq_true rfl), (Nat.le_of_ble_eq_true rfl)⟩ ⟨(Nat.le_of_ble_eq_true rfl), (Nat.le_of_ble_eq_true rfl)⟩ rfl (Nat.le_of_ble_eq_true rfl) d_Model_workOut_70 (k' := 0) (n' := 0) (stk' := [.int p33.1]) rfl rfl rfl ?_
        refine z_istore C (lv' := [(9, .int p33.1), (0, .ref x0), (1, .int x1), (2, .int x2), (3, .int x3), (4, .long x4), (6, .int x6), (7, .int x7), (8, .int x8)]) d_Model_workOut_73 (by decide) rfl ?_
        refine z_aload_n C 1 d_Model_workOut_75 rfl rfl ?_
        refine z_getR C 0 15 rfl in_Model (by decide) w_756 rfl d_Model_workOut_76 hf (fun v34 hf => ?_)
        refine z_iload C 0 d_Model_workOut_79 rfl ?_
        refine z_lald C d_Model_workOut_81 hf (fun v35 hf => ?_)
        refine z_lconst C (v := (0 : Int64)) d_Model_workOut_82 (by decide) ?_
        refine z_lcmp C d_Model_workOut_83 ?_
        refine z_if_ge (tgt := 93) C d_Model_workOut_84 (by decide) hf (fun hf => ?_) (fun hf => ?_)
        · refine z_aload_n C 1 d_Model_workOut_93 rfl rfl ?_
          refine z_getR C 0 15 rfl in_Model (by decide) w_756 rfl d_Model_workOut_94 hf (fun v36 hf => ?_)
          refine z_iload C 0 d_Model_workOut_97 rfl ?_
          refine z_lald C d_Model_workOut_99 hf (fun v37 hf => ?_)
          refine z_aload_n C 1 d_Model_workOut_100 rfl rfl ?_
          refine z_iload_n C 2 d_Model_workOut_101 rfl rfl ?_
          refine z_iconst C (v := (1 : Int32)) d_Model_workOut_102 (by decide) ?_
          refine z_iadd C d_Model_workOut_103 ?_
          refine z_iload_n C 3 d_Model_workOut_104 rfl rfl ?_
          refine z_iload C 8 d_Model_workOut_105 rfl ?_
          refine z_iadd C d_Model_workOut_107 ?_
          obtain ⟨p38, hc, hf⟩ := Option.bind_eq_some_iff.mp hf
          obtain ⟨hz, hc⟩ := zck_some hc
          refine z_callV C (ci := 0) (c_Model_placeCost N C.2.2.1 hc) rfl hz w_932 w_66 w_929 w_931 w_42 pd_Model_placeCost rfl ⟨(Nat.le_of_ble_eq_true rfl), (Nat.le_of_ble_eq_true rfl)⟩ ⟨(Nat.le_of_ble_eq_true rfl), (Nat.le_of_ble_eq_true rfl)⟩ rfl (Nat.le_of_ble_eq_true rfl) d_Model_workOut_108 (k' := 0) (n' := 0) (stk' := [.long p38.1, .long v37]) rfl rfl rfl ?_
          refine z_ladd C d_Model_workOut_111 ?_
          refine z_sub [1, 2, 3, 4, 5, 6, 7, 8, 0] rfl ?_
          exact k_Model_workOut_112 N C E H22 _ _ _ _ _ _ _ _ _ _ _ hf
        · refine z_ldc2 C d_Model_workOut_87 w_924 ?_
          refine z_goto (tgt := 112) C d_Model_workOut_90 (by decide) ?_
          refine z_sub [1, 2, 3, 4, 5, 6, 7, 8, 0] rfl ?_
          exact k_Model_workOut_112 N C E H22 _ _ _ _ _ _ _ _ _ _ _ hf
    · refine z_goto (tgt := 313) C d_Model_workOut_41 (by decide) ?_
      refine z_sub [0, 1, 2, 3, 4, 5, 6, 7] rfl ?_
      exact k_Model_workOut_313 N C E H22 _ _ _ _ _ _ _ _ _ hf

set_option maxHeartbeats 4000000 in
set_option maxRecDepth 100000 in
theorem k_Model_workOut (N : Nat) {X : zX} (C : zB X prog_10_method_21_code 14 R_Model rm_Model_workOut) {h0 : zH} {p : Unit × zH} (E : zR X none rm_Model_workOut h0 none p.2) : ∀ (x0 : Nat) (x1 : Int32) (x2 : Int32) (x3 : Int32) (h : zH), f_Model_workOut N x0 x1 x2 x3 h = some p → Zt X 14 0 0 0 [(0, .ref x0), (1, .int x1), (2, .int x2), (3, .int x3)] [] h := by
  intro x0 x1 x2 x3 h hf
  unfold f_Model_workOut at hf
  refine z_ldc2 C d_Model_workOut_0 w_924 ?_
  refine z_lstore C (lv' := [(4, .long (-1 : Int64)), (0, .ref x0), (1, .int x1), (2, .int x2), (3, .int x3)]) d_Model_workOut_3 (by decide) rfl ?_
  refine z_iconst C (v := (0 : Int32)) d_Model_workOut_5 (by decide) ?_
  refine z_istore C (lv' := [(6, .int (0 : Int32)), (4, .long (-1 : Int64)), (0, .ref x0), (1, .int x1), (2, .int x2), (3, .int x3)]) d_Model_workOut_6 (by decide) rfl ?_
  refine z_aload_n C 2 d_Model_workOut_8 rfl rfl ?_
  refine z_iload_n C 3 d_Model_workOut_9 rfl rfl ?_
  obtain ⟨p39, hc, hf⟩ := Option.bind_eq_some_iff.mp hf
  obtain ⟨hz, hc⟩ := zck_some hc
  refine z_callV C (ci := 0) (c_Model_spanAt N C.2.2.1 hc) rfl hz w_928 w_66 w_925 w_927 w_41 pd_Model_spanAt rfl ⟨(Nat.le_of_ble_eq_true rfl), (Nat.le_of_ble_eq_true rfl)⟩ ⟨(Nat.le_of_ble_eq_true rfl), (Nat.le_of_ble_eq_true rfl)⟩ rfl (Nat.le_of_ble_eq_true rfl) d_Model_workOut_10 (k' := 0) (n' := 0) (stk' := [.int p39.1]) rfl rfl rfl ?_
  refine z_istore C (lv' := [(7, .int p39.1), (6, .int (0 : Int32)), (4, .long (-1 : Int64)), (0, .ref x0), (1, .int x1), (2, .int x2), (3, .int x3)]) d_Model_workOut_13 (by decide) rfl ?_
  refine z_aload_n C 3 d_Model_workOut_15 rfl rfl ?_
  refine z_getI C 0 7 rfl in_Model (by decide) w_748 rfl d_Model_workOut_16 hf (fun v40 hf => ?_)
  refine z_ineg C d_Model_workOut_19 ?_
  refine z_istore C (lv' := [(8, .int (-v40)), (7, .int p39.1), (6, .int (0 : Int32)), (4, .long (-1 : Int64)), (0, .ref x0), (1, .int x1), (2, .int x2), (3, .int x3)]) d_Model_workOut_20 (by decide) rfl ?_
  refine z_sub [4, 5, 6, 7, 3, 2, 1, 0] rfl ?_
  exact k_Model_workOut_22 N C E N _ _ _ _ _ _ _ _ _ hf

theorem c_Model_workOut (N : Nat) {l : Launch} {D : va_G} {T : List (ClassId × FieldType)} (hT : T.map (fun q => q.2) = ztl) {x0 : Nat} {x1 : Int32} {x2 : Int32} {x3 : Int32} {h : zH} {p : Unit × zH} (hf : f_Model_workOut N x0 x1 x2 x3 h = some p) : zM l y_Model_workOut prog_10_method_21_code 14 none rm_Model_workOut D T [.ref x0, .int x1, .int x2, .int x3] h none p.2 :=
  z_enter (by decide) hT (Nat.le_of_ble_eq_true rfl) (fun X el eD eT hin C E => k_Model_workOut N C E x0 x1 x2 x3 h hf)
